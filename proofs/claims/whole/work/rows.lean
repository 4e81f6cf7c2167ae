section
-- ===== PART A: goes FIRST, ahead of the names: the tables' words, and 'selects' of the private methods out of them =====
/-- a private method of a class that the tables say can be made, by its rows of tables_1 -/
def lw_okq (q : MethodName × Nat) : Prop := (q.1.cls ≠ "java/lang/invoke/MethodHandle" ∧ q.1.cls ≠ "java/lang/invoke/VarHandle") ∧ Cond.instantiable q.1.cls q.2 ∈ tables_1 ∧ Cond.privateMethod q.1 ∈ tables_1 ∧ Cond.instanceMethod q.1 ∈ tables_1
theorem lw_p0 : lw_okq (⟨"JoinBench", "tableOf", "(I)LJoinBench$Table;"⟩, 5) := ⟨⟨by decide +kernel, by decide +kernel⟩, List.mem_of_getElem? (i := 12) (by decide +kernel), List.mem_of_getElem? (i := 153) (by decide +kernel), List.mem_of_getElem? (i := 154) (by decide +kernel)⟩
theorem lw_p1 : lw_okq (⟨"JoinBench$Joiner", "joinRows", "(IIIII)V"⟩, 4) := ⟨⟨by decide +kernel, by decide +kernel⟩, List.mem_of_getElem? (i := 79) (by decide +kernel), List.mem_of_getElem? (i := 230) (by decide +kernel), List.mem_of_getElem? (i := 231) (by decide +kernel)⟩
theorem lw_p2 : lw_okq (⟨"JoinBench$Joiner", "kindOf", "(IIIII)I"⟩, 4) := ⟨⟨by decide +kernel, by decide +kernel⟩, List.mem_of_getElem? (i := 79) (by decide +kernel), List.mem_of_getElem? (i := 234) (by decide +kernel), List.mem_of_getElem? (i := 235) (by decide +kernel)⟩
theorem lw_p3 : lw_okq (⟨"JoinBench$Joiner", "joinParts", "(IIIII)V"⟩, 4) := ⟨⟨by decide +kernel, by decide +kernel⟩, List.mem_of_getElem? (i := 79) (by decide +kernel), List.mem_of_getElem? (i := 266) (by decide +kernel), List.mem_of_getElem? (i := 267) (by decide +kernel)⟩
theorem lw_p4 : lw_okq (⟨"JoinBench$Joiner", "joinBlocks", "(IIII)I"⟩, 4) := ⟨⟨by decide +kernel, by decide +kernel⟩, List.mem_of_getElem? (i := 79) (by decide +kernel), List.mem_of_getElem? (i := 298) (by decide +kernel), List.mem_of_getElem? (i := 299) (by decide +kernel)⟩
theorem lw_p5 : lw_okq (⟨"JoinBench$Joiner", "passBlocks", "(LJoinBench$Side;IILJoinBench$Side;II)I"⟩, 4) := ⟨⟨by decide +kernel, by decide +kernel⟩, List.mem_of_getElem? (i := 79) (by decide +kernel), List.mem_of_getElem? (i := 302) (by decide +kernel), List.mem_of_getElem? (i := 303) (by decide +kernel)⟩
theorem lw_p6 : lw_okq (⟨"JoinBench$Joiner", "matchRows", "(LJoinBench$Side;IILJoinBench$Side;II)V"⟩, 4) := ⟨⟨by decide +kernel, by decide +kernel⟩, List.mem_of_getElem? (i := 79) (by decide +kernel), List.mem_of_getElem? (i := 312) (by decide +kernel), List.mem_of_getElem? (i := 313) (by decide +kernel)⟩
theorem lw_p7 : lw_okq (⟨"JoinBenchModel", "pagesOf", "(I)I"⟩, 24) := ⟨⟨by decide +kernel, by decide +kernel⟩, List.mem_of_getElem? (i := 371) (by decide +kernel), List.mem_of_getElem? (i := 469) (by decide +kernel), List.mem_of_getElem? (i := 470) (by decide +kernel)⟩
theorem lw_p8 : lw_okq (⟨"JoinBenchModel", "partOf", "(II)I"⟩, 24) := ⟨⟨by decide +kernel, by decide +kernel⟩, List.mem_of_getElem? (i := 371) (by decide +kernel), List.mem_of_getElem? (i := 477) (by decide +kernel), List.mem_of_getElem? (i := 478) (by decide +kernel)⟩
theorem lw_p9 : lw_okq (⟨"JoinBenchModel", "begin", "()V"⟩, 24) := ⟨⟨by decide +kernel, by decide +kernel⟩, List.mem_of_getElem? (i := 371) (by decide +kernel), List.mem_of_getElem? (i := 489) (by decide +kernel), List.mem_of_getElem? (i := 490) (by decide +kernel)⟩
theorem lw_p10 : lw_okq (⟨"JoinBenchModel", "joinSet", "(II)Z"⟩, 24) := ⟨⟨by decide +kernel, by decide +kernel⟩, List.mem_of_getElem? (i := 371) (by decide +kernel), List.mem_of_getElem? (i := 493) (by decide +kernel), List.mem_of_getElem? (i := 494) (by decide +kernel)⟩
theorem lw_p11 : lw_okq (⟨"JoinBenchModel", "sizeOf", "(III)I"⟩, 24) := ⟨⟨by decide +kernel, by decide +kernel⟩, List.mem_of_getElem? (i := 371) (by decide +kernel), List.mem_of_getElem? (i := 497) (by decide +kernel), List.mem_of_getElem? (i := 498) (by decide +kernel)⟩
theorem lw_p12 : lw_okq (⟨"JoinBenchModel", "beginOf", "(III)I"⟩, 24) := ⟨⟨by decide +kernel, by decide +kernel⟩, List.mem_of_getElem? (i := 371) (by decide +kernel), List.mem_of_getElem? (i := 501) (by decide +kernel), List.mem_of_getElem? (i := 502) (by decide +kernel)⟩
theorem lw_p13 : lw_okq (⟨"JoinBenchModel", "note", "(IIIII)V"⟩, 24) := ⟨⟨by decide +kernel, by decide +kernel⟩, List.mem_of_getElem? (i := 371) (by decide +kernel), List.mem_of_getElem? (i := 505) (by decide +kernel), List.mem_of_getElem? (i := 506) (by decide +kernel)⟩
theorem lw_p14 : lw_okq (⟨"JoinBenchModel", "meet", "(IIIII)V"⟩, 24) := ⟨⟨by decide +kernel, by decide +kernel⟩, List.mem_of_getElem? (i := 371) (by decide +kernel), List.mem_of_getElem? (i := 509) (by decide +kernel), List.mem_of_getElem? (i := 510) (by decide +kernel)⟩
theorem lw_p15 : lw_okq (⟨"JoinBenchModel", "keyAt", "(IIII)I"⟩, 24) := ⟨⟨by decide +kernel, by decide +kernel⟩, List.mem_of_getElem? (i := 371) (by decide +kernel), List.mem_of_getElem? (i := 513) (by decide +kernel), List.mem_of_getElem? (i := 514) (by decide +kernel)⟩
def lw_privs_1 : List (MethodName × Nat) := [(⟨"JoinBench", "tableOf", "(I)LJoinBench$Table;"⟩, 5), (⟨"JoinBench$Joiner", "joinRows", "(IIIII)V"⟩, 4), (⟨"JoinBench$Joiner", "kindOf", "(IIIII)I"⟩, 4), (⟨"JoinBench$Joiner", "joinParts", "(IIIII)V"⟩, 4), (⟨"JoinBench$Joiner", "joinBlocks", "(IIII)I"⟩, 4), (⟨"JoinBench$Joiner", "passBlocks", "(LJoinBench$Side;IILJoinBench$Side;II)I"⟩, 4), (⟨"JoinBench$Joiner", "matchRows", "(LJoinBench$Side;IILJoinBench$Side;II)V"⟩, 4), (⟨"JoinBenchModel", "pagesOf", "(I)I"⟩, 24), (⟨"JoinBenchModel", "partOf", "(II)I"⟩, 24), (⟨"JoinBenchModel", "begin", "()V"⟩, 24), (⟨"JoinBenchModel", "joinSet", "(II)Z"⟩, 24), (⟨"JoinBenchModel", "sizeOf", "(III)I"⟩, 24), (⟨"JoinBenchModel", "beginOf", "(III)I"⟩, 24), (⟨"JoinBenchModel", "note", "(IIIII)V"⟩, 24), (⟨"JoinBenchModel", "meet", "(IIIII)V"⟩, 24), (⟨"JoinBenchModel", "keyAt", "(IIII)I"⟩, 24)]
theorem lw_r1 : ∀ q ∈ lw_privs_1, lw_okq q := List.forall_mem_cons.mpr ⟨lw_p0, List.forall_mem_cons.mpr ⟨lw_p1, List.forall_mem_cons.mpr ⟨lw_p2, List.forall_mem_cons.mpr ⟨lw_p3, List.forall_mem_cons.mpr ⟨lw_p4, List.forall_mem_cons.mpr ⟨lw_p5, List.forall_mem_cons.mpr ⟨lw_p6, List.forall_mem_cons.mpr ⟨lw_p7, List.forall_mem_cons.mpr ⟨lw_p8, List.forall_mem_cons.mpr ⟨lw_p9, List.forall_mem_cons.mpr ⟨lw_p10, List.forall_mem_cons.mpr ⟨lw_p11, List.forall_mem_cons.mpr ⟨lw_p12, List.forall_mem_cons.mpr ⟨lw_p13, List.forall_mem_cons.mpr ⟨lw_p14, List.forall_mem_cons.mpr ⟨lw_p15, fun _ h => absurd h List.not_mem_nil⟩⟩⟩⟩⟩⟩⟩⟩⟩⟩⟩⟩⟩⟩⟩⟩
theorem lw_p16 : lw_okq (⟨"JoinBenchModel", "rowAt", "(IIII)I"⟩, 24) := ⟨⟨by decide +kernel, by decide +kernel⟩, List.mem_of_getElem? (i := 371) (by decide +kernel), List.mem_of_getElem? (i := 517) (by decide +kernel), List.mem_of_getElem? (i := 518) (by decide +kernel)⟩
theorem lw_p17 : lw_okq (⟨"JoinBenchModel", "makePair", "(II)V"⟩, 24) := ⟨⟨by decide +kernel, by decide +kernel⟩, List.mem_of_getElem? (i := 371) (by decide +kernel), List.mem_of_getElem? (i := 521) (by decide +kernel), List.mem_of_getElem? (i := 522) (by decide +kernel)⟩
theorem lw_p18 : lw_okq (⟨"JoinBenchModel", "isOneKey", "(II)Z"⟩, 24) := ⟨⟨by decide +kernel, by decide +kernel⟩, List.mem_of_getElem? (i := 371) (by decide +kernel), List.mem_of_getElem? (i := 525) (by decide +kernel), List.mem_of_getElem? (i := 526) (by decide +kernel)⟩
theorem lw_p19 : lw_okq (⟨"JoinBenchModel", "divide", "(II)V"⟩, 24) := ⟨⟨by decide +kernel, by decide +kernel⟩, List.mem_of_getElem? (i := 371) (by decide +kernel), List.mem_of_getElem? (i := 529) (by decide +kernel), List.mem_of_getElem? (i := 530) (by decide +kernel)⟩
theorem lw_p20 : lw_okq (⟨"JoinBenchModel", "pagesAt", "(II)I"⟩, 24) := ⟨⟨by decide +kernel, by decide +kernel⟩, List.mem_of_getElem? (i := 371) (by decide +kernel), List.mem_of_getElem? (i := 533) (by decide +kernel), List.mem_of_getElem? (i := 534) (by decide +kernel)⟩
def lw_privs_2 : List (MethodName × Nat) := [(⟨"JoinBenchModel", "rowAt", "(IIII)I"⟩, 24), (⟨"JoinBenchModel", "makePair", "(II)V"⟩, 24), (⟨"JoinBenchModel", "isOneKey", "(II)Z"⟩, 24), (⟨"JoinBenchModel", "divide", "(II)V"⟩, 24), (⟨"JoinBenchModel", "pagesAt", "(II)I"⟩, 24)]
theorem lw_r2 : ∀ q ∈ lw_privs_2, lw_okq q := List.forall_mem_cons.mpr ⟨lw_p16, List.forall_mem_cons.mpr ⟨lw_p17, List.forall_mem_cons.mpr ⟨lw_p18, List.forall_mem_cons.mpr ⟨lw_p19, List.forall_mem_cons.mpr ⟨lw_p20, fun _ h => absurd h List.not_mem_nil⟩⟩⟩⟩⟩
def lw_privs : List (MethodName × Nat) := lw_privs_1 ++ (lw_privs_2)
def lw_tbl : List Cond := k2_sels lw_privs ++ tables_1
theorem lw_privs_ok : ∀ q ∈ lw_privs, lw_okq q := by
  show ∀ q ∈ lw_privs_1 ++ (lw_privs_2), lw_okq q
  exact List.forall_mem_append.mpr ⟨lw_r1, lw_r2⟩
end
section
/-! ===== BEGIN words of one list among another's, by their places ===== -/
theorem goodIn_r {big : List Cond} (ws : List Cond) (ps : List Nat) (hp : ws = ps.filterMap (fun i => big[i]?)) (h : ws.all goodWord = true) : GoodIn big ws := by
  intro w hw
  have h1 := List.all_eq_true.mp h w hw
  rw [hp] at hw
  obtain ⟨i, -, hi⟩ := List.mem_filterMap.mp hw
  have hm : w ∈ big := by first | exact List.mem_of_getElem? hi | exact List.getElem?_mem hi
  exact ⟨hm, good_of_word h1⟩
theorem goodIn_app {big a b : List Cond} (ha : GoodIn big a) (hb : GoodIn big b) : GoodIn big (a ++ b) := fun w h => (List.mem_append.mp h).elim (ha w) (hb w)
theorem goodIn_ca {big a b : List Cond} {c : Cond} (ha : GoodIn big (c :: a)) (hb : GoodIn big b) : GoodIn big (c :: (a ++ b)) := fun w h => (List.mem_cons.mp h).elim (fun e => ha w (List.mem_cons.mpr (Or.inl e))) (fun h => (List.mem_append.mp h).elim (fun h => ha w (List.mem_cons.mpr (Or.inr h))) (hb w))
theorem goodIn_sub {big ws : List Cond} (hm : ∀ w ∈ ws, w ∈ big) (h : ws.all goodWord = true) : GoodIn big ws := fun w hw => ⟨hm w hw, good_of_word (List.all_eq_true.mp h w hw)⟩
/-! ===== END ===== -/

/-! ===== BEGIN printed: names, fields, word lists, decode rows ===== -/
def RX0 : String := "JoinBench$Joiner"
def TX0 : u_T := fun k => match k with
  | 0 => ("JoinBench$Joiner", "sizes", "LJoinBench$Sizes;", true)
  | 1 => ("JoinBench$Joiner", "report", "LJoinBench$Report;", true)
  | 2 => ("JoinBench$Joiner", "left", "LJoinBench$Side;", true)
  | _ => ("JoinBench$Joiner", "right", "LJoinBench$Side;", true)
def tyX0 : Nat → FieldType := fun k => match k with
  | 0 => .object "JoinBench$Sizes"
  | 1 => .object "JoinBench$Report"
  | 2 => .object "JoinBench$Side"
  | _ => .object "JoinBench$Side"
abbrev wsX00 : List Cond := u_ws RX0 TX0 4
theorem nmX0 : ∀ a, a < 4 → ∀ b, b < 4 → a ≠ b → (TX0 a).2.1 ≠ (TX0 b).2.1 := by decide +kernel
theorem tyX0_ok : ∀ k, k < 4 → parseFieldDescriptor (TX0 k).2.2.1 = some (tyX0 k) := by decide +kernel
abbrev cX0_init : ByteArray := prog_2_method_1_code
def yX0_init : MethodName := ⟨RX0, "<init>", "(LJoinBench$Sizes;LJoinBench$Report;)V"⟩
abbrev cX0_joinTables : ByteArray := prog_2_method_2_code
def yX0_joinTables : MethodName := ⟨RX0, "joinTables", "(LJoinBench$Table;LJoinBench$Table;)V"⟩
abbrev cX0_joinRows : ByteArray := prog_2_method_3_code
def yX0_joinRows : MethodName := ⟨RX0, "joinRows", "(IIIII)V"⟩
abbrev cX0_kindOf : ByteArray := prog_2_method_4_code
def yX0_kindOf : MethodName := ⟨RX0, "kindOf", "(IIIII)I"⟩
abbrev cX0_joinBlocks : ByteArray := prog_2_method_5_code
def yX0_joinBlocks : MethodName := ⟨RX0, "joinBlocks", "(IIII)I"⟩
abbrev cX0_passBlocks : ByteArray := prog_2_method_6_code
def yX0_passBlocks : MethodName := ⟨RX0, "passBlocks", "(LJoinBench$Side;IILJoinBench$Side;II)I"⟩
abbrev cX0_matchRows : ByteArray := prog_2_method_7_code
def yX0_matchRows : MethodName := ⟨RX0, "matchRows", "(LJoinBench$Side;IILJoinBench$Side;II)V"⟩
abbrev cX0_joinParts : ByteArray := prog_2_method_8_code
def yX0_joinParts : MethodName := ⟨RX0, "joinParts", "(IIIII)V"⟩
def RX1 : String := "JoinBench$Report"
def TX1 : u_T := fun k => match k with
  | 0 => ("JoinBench$Report", "figures", "[I", true)
  | 1 => ("JoinBench$Report", "events", "[I", true)
  | 2 => ("JoinBench$Report", "pairs", "[I", true)
  | _ => ("JoinBench$Report", "onDisk", "I", false)
def tyX1 : Nat → FieldType := fun k => match k with
  | 0 => .array .int
  | 1 => .array .int
  | 2 => .array .int
  | _ => .int
abbrev wsX10 : List Cond := u_ws RX1 TX1 4
theorem nmX1 : ∀ a, a < 4 → ∀ b, b < 4 → a ≠ b → (TX1 a).2.1 ≠ (TX1 b).2.1 := by decide +kernel
theorem tyX1_ok : ∀ k, k < 4 → parseFieldDescriptor (TX1 k).2.2.1 = some (tyX1 k) := by decide +kernel
abbrev cX1_init : ByteArray := prog_3_method_1_code
def yX1_init : MethodName := ⟨RX1, "<init>", "()V"⟩
abbrev cX1_beginAnew : ByteArray := prog_3_method_2_code
def yX1_beginAnew : MethodName := ⟨RX1, "beginAnew", "()V"⟩
abbrev cX1_addEvent : ByteArray := prog_3_method_3_code
def yX1_addEvent : MethodName := ⟨RX1, "addEvent", "(IIIII)V"⟩
abbrev cX1_takeMemory : ByteArray := prog_3_method_4_code
def yX1_takeMemory : MethodName := ⟨RX1, "takeMemory", "(I)V"⟩
abbrev cX1_writeToDisk : ByteArray := prog_3_method_5_code
def yX1_writeToDisk : MethodName := ⟨RX1, "writeToDisk", "(I)V"⟩
abbrev cX1_freeDisk : ByteArray := prog_3_method_6_code
def yX1_freeDisk : MethodName := ⟨RX1, "freeDisk", "(I)V"⟩
abbrev cX1_addPair : ByteArray := prog_3_method_7_code
def yX1_addPair : MethodName := ⟨RX1, "addPair", "(II)V"⟩
abbrev cX1_pairsOrFull : ByteArray := prog_3_method_8_code
def yX1_pairsOrFull : MethodName := ⟨RX1, "pairsOrFull", "()I"⟩
abbrev cX1_hasPair : ByteArray := prog_3_method_9_code
def yX1_hasPair : MethodName := ⟨RX1, "hasPair", "(I)Z"⟩
abbrev cX1_leftRowOf : ByteArray := prog_3_method_10_code
def yX1_leftRowOf : MethodName := ⟨RX1, "leftRowOf", "(I)I"⟩
abbrev cX1_rightRowOf : ByteArray := prog_3_method_11_code
def yX1_rightRowOf : MethodName := ⟨RX1, "rightRowOf", "(I)I"⟩
abbrev cX1_figure : ByteArray := prog_3_method_12_code
def yX1_figure : MethodName := ⟨RX1, "figure", "(I)I"⟩
abbrev cX1_ofEvent : ByteArray := prog_3_method_13_code
def yX1_ofEvent : MethodName := ⟨RX1, "ofEvent", "(II)I"⟩
def RX2 : String := "JoinBench$Side"
def TX2 : u_T := fun k => match k with
  | 0 => ("JoinBench$Side", "sizes", "LJoinBench$Sizes;", true)
  | 1 => ("JoinBench$Side", "isLeft", "Z", true)
  | 2 => ("JoinBench$Side", "keys", "[I", true)
  | 3 => ("JoinBench$Side", "values", "[I", true)
  | 4 => ("JoinBench$Side", "order", "[I", true)
  | 5 => ("JoinBench$Side", "spare", "[I", true)
  | 6 => ("JoinBench$Side", "partEnds", "[I", true)
  | _ => ("JoinBench$Side", "count", "I", false)
def tyX2 : Nat → FieldType := fun k => match k with
  | 0 => .object "JoinBench$Sizes"
  | 1 => .boolean
  | 2 => .array .int
  | 3 => .array .int
  | 4 => .array .int
  | 5 => .array .int
  | 6 => .array .int
  | _ => .int
abbrev wsX20 : List Cond := u_ws RX2 TX2 8
theorem nmX2 : ∀ a, a < 8 → ∀ b, b < 8 → a ≠ b → (TX2 a).2.1 ≠ (TX2 b).2.1 := by decide +kernel
theorem tyX2_ok : ∀ k, k < 8 → parseFieldDescriptor (TX2 k).2.2.1 = some (tyX2 k) := by decide +kernel
abbrev cX2_init : ByteArray := prog_4_method_1_code
def yX2_init : MethodName := ⟨RX2, "<init>", "(LJoinBench$Sizes;Z)V"⟩
abbrev cX2_copyOf : ByteArray := prog_4_method_2_code
def yX2_copyOf : MethodName := ⟨RX2, "copyOf", "(LJoinBench$Table;)V"⟩
abbrev cX2_keyOf : ByteArray := prog_4_method_3_code
def yX2_keyOf : MethodName := ⟨RX2, "keyOf", "(I)I"⟩
abbrev cX2_valueOf : ByteArray := prog_4_method_4_code
def yX2_valueOf : MethodName := ⟨RX2, "valueOf", "(I)I"⟩
abbrev cX2_rowAt : ByteArray := prog_4_method_5_code
def yX2_rowAt : MethodName := ⟨RX2, "rowAt", "(I)I"⟩
abbrev cX2_keyAt : ByteArray := prog_4_method_6_code
def yX2_keyAt : MethodName := ⟨RX2, "keyAt", "(I)I"⟩
abbrev cX2_hasOnlyKey : ByteArray := prog_4_method_7_code
def yX2_hasOnlyKey : MethodName := ⟨RX2, "hasOnlyKey", "(III)Z"⟩
abbrev cX2_layInParts : ByteArray := prog_4_method_8_code
def yX2_layInParts : MethodName := ⟨RX2, "layInParts", "(III)I"⟩
abbrev cX2_partEnd : ByteArray := prog_4_method_9_code
def yX2_partEnd : MethodName := ⟨RX2, "partEnd", "(II)I"⟩
def RX3 : String := "JoinBench$Sizes"
def TX3 : u_T := fun k => match k with
  | _ => ("JoinBench$Sizes", "now", "[I", true)
def tyX3 : Nat → FieldType := fun k => match k with
  | _ => .array .int
abbrev wsX30 : List Cond := u_ws RX3 TX3 1
theorem nmX3 : ∀ a, a < 1 → ∀ b, b < 1 → a ≠ b → (TX3 a).2.1 ≠ (TX3 b).2.1 := by decide +kernel
theorem tyX3_ok : ∀ k, k < 1 → parseFieldDescriptor (TX3 k).2.2.1 = some (tyX3 k) := by decide +kernel
abbrev cX3_init : ByteArray := prog_5_method_1_code
def yX3_init : MethodName := ⟨RX3, "<init>", "()V"⟩
abbrev cX3_change : ByteArray := prog_5_method_2_code
def yX3_change : MethodName := ⟨RX3, "change", "(II)I"⟩
abbrev cX3_memory : ByteArray := prog_5_method_3_code
def yX3_memory : MethodName := ⟨RX3, "memory", "()I"⟩
abbrev cX3_partings : ByteArray := prog_5_method_4_code
def yX3_partings : MethodName := ⟨RX3, "partings", "()I"⟩
abbrev cX3_parts : ByteArray := prog_5_method_5_code
def yX3_parts : MethodName := ⟨RX3, "parts", "()I"⟩
abbrev cX3_blockPages : ByteArray := prog_5_method_6_code
def yX3_blockPages : MethodName := ⟨RX3, "blockPages", "()I"⟩
abbrev cX3_blockRows : ByteArray := prog_5_method_7_code
def yX3_blockRows : MethodName := ⟨RX3, "blockRows", "()I"⟩
abbrev cX3_pagesFor : ByteArray := prog_5_method_8_code
def yX3_pagesFor : MethodName := ⟨RX3, "pagesFor", "(I)I"⟩
abbrev cX3_partOf : ByteArray := prog_5_method_9_code
def yX3_partOf : MethodName := ⟨RX3, "partOf", "(II)I"⟩
abbrev cX3_hashOf : ByteArray := prog_5_method_10_code
def yX3_hashOf : MethodName := ⟨RX3, "hashOf", "(II)I"⟩
def RX4 : String := "JoinBench$Table"
def TX4 : u_T := fun k => match k with
  | 0 => ("JoinBench$Table", "keys", "[I", true)
  | 1 => ("JoinBench$Table", "values", "[I", true)
  | _ => ("JoinBench$Table", "count", "I", false)
def tyX4 : Nat → FieldType := fun k => match k with
  | 0 => .array .int
  | 1 => .array .int
  | _ => .int
abbrev wsX40 : List Cond := u_ws RX4 TX4 3
theorem nmX4 : ∀ a, a < 3 → ∀ b, b < 3 → a ≠ b → (TX4 a).2.1 ≠ (TX4 b).2.1 := by decide +kernel
theorem tyX4_ok : ∀ k, k < 3 → parseFieldDescriptor (TX4 k).2.2.1 = some (tyX4 k) := by decide +kernel
abbrev cX4_init : ByteArray := prog_6_method_1_code
def yX4_init : MethodName := ⟨RX4, "<init>", "()V"⟩
abbrev cX4_add : ByteArray := prog_6_method_2_code
def yX4_add : MethodName := ⟨RX4, "add", "(II)I"⟩
abbrev cX4_drop : ByteArray := prog_6_method_3_code
def yX4_drop : MethodName := ⟨RX4, "drop", "(I)I"⟩
def RX5 : String := "JoinBench"
def TX5 : u_T := fun k => match k with
  | 0 => ("JoinBench", "sizes", "LJoinBench$Sizes;", true)
  | 1 => ("JoinBench", "leftTable", "LJoinBench$Table;", true)
  | 2 => ("JoinBench", "rightTable", "LJoinBench$Table;", true)
  | 3 => ("JoinBench", "report", "LJoinBench$Report;", true)
  | _ => ("JoinBench", "joiner", "LJoinBench$Joiner;", true)
def tyX5 : Nat → FieldType := fun k => match k with
  | 0 => .object "JoinBench$Sizes"
  | 1 => .object "JoinBench$Table"
  | 2 => .object "JoinBench$Table"
  | 3 => .object "JoinBench$Report"
  | _ => .object "JoinBench$Joiner"
abbrev wsX50 : List Cond := u_ws RX5 TX5 5
theorem nmX5 : ∀ a, a < 5 → ∀ b, b < 5 → a ≠ b → (TX5 a).2.1 ≠ (TX5 b).2.1 := by decide +kernel
theorem tyX5_ok : ∀ k, k < 5 → parseFieldDescriptor (TX5 k).2.2.1 = some (tyX5 k) := by decide +kernel
abbrev cX5_init : ByteArray := prog_1_method_1_code
def yX5_init : MethodName := ⟨RX5, "<init>", "()V"⟩
abbrev cX5_row : ByteArray := prog_1_method_2_code
def yX5_row : MethodName := ⟨RX5, "row", "(III)I"⟩
abbrev cX5_cut : ByteArray := prog_1_method_3_code
def yX5_cut : MethodName := ⟨RX5, "cut", "(II)I"⟩
abbrev cX5_size : ByteArray := prog_1_method_4_code
def yX5_size : MethodName := ⟨RX5, "size", "(II)I"⟩
abbrev cX5_pages : ByteArray := prog_1_method_5_code
def yX5_pages : MethodName := ⟨RX5, "pages", "(I)I"⟩
abbrev cX5_part : ByteArray := prog_1_method_6_code
def yX5_part : MethodName := ⟨RX5, "part", "(II)I"⟩
abbrev cX5_join : ByteArray := prog_1_method_7_code
def yX5_join : MethodName := ⟨RX5, "join", "()I"⟩
abbrev cX5_pair : ByteArray := prog_1_method_8_code
def yX5_pair : MethodName := ⟨RX5, "pair", "(II)I"⟩
abbrev cX5_told : ByteArray := prog_1_method_9_code
def yX5_told : MethodName := ⟨RX5, "told", "(I)I"⟩
abbrev cX5_event : ByteArray := prog_1_method_10_code
def yX5_event : MethodName := ⟨RX5, "event", "(II)I"⟩
abbrev cX5_tableOf : ByteArray := prog_1_method_11_code
def yX5_tableOf : MethodName := ⟨RX5, "tableOf", "(I)LJoinBench$Table;"⟩
def RX6 : String := "JoinBenchModel"
def TX6 : u_T := fun k => match k with
  | 0 => ("JoinBenchModel", "keys", "[I", true)
  | 1 => ("JoinBenchModel", "values", "[I", true)
  | 2 => ("JoinBenchModel", "many", "[I", true)
  | 3 => ("JoinBenchModel", "per", "I", false)
  | 4 => ("JoinBenchModel", "memory", "I", false)
  | 5 => ("JoinBenchModel", "partings", "I", false)
  | 6 => ("JoinBenchModel", "rows", "[I", true)
  | 7 => ("JoinBenchModel", "begins", "[I", true)
  | 8 => ("JoinBenchModel", "next", "[I", true)
  | 9 => ("JoinBenchModel", "pairLeft", "[I", true)
  | 10 => ("JoinBenchModel", "pairRight", "[I", true)
  | 11 => ("JoinBenchModel", "pairKey", "[I", true)
  | 12 => ("JoinBenchModel", "valueLeft", "[I", true)
  | 13 => ("JoinBenchModel", "valueRight", "[I", true)
  | 14 => ("JoinBenchModel", "pairs", "I", false)
  | 15 => ("JoinBenchModel", "read", "I", false)
  | 16 => ("JoinBenchModel", "written", "I", false)
  | 17 => ("JoinBenchModel", "mostMemory", "I", false)
  | 18 => ("JoinBenchModel", "disk", "I", false)
  | 19 => ("JoinBenchModel", "mostDisk", "I", false)
  | 20 => ("JoinBenchModel", "level", "I", false)
  | 21 => ("JoinBenchModel", "events", "I", false)
  | 22 => ("JoinBenchModel", "ofKind", "[I", true)
  | _ => ("JoinBenchModel", "eventRow", "[I", true)
def tyX6 : Nat → FieldType := fun k => match k with
  | 0 => .array .int
  | 1 => .array .int
  | 2 => .array .int
  | 3 => .int
  | 4 => .int
  | 5 => .int
  | 6 => .array .int
  | 7 => .array .int
  | 8 => .array .int
  | 9 => .array .int
  | 10 => .array .int
  | 11 => .array .int
  | 12 => .array .int
  | 13 => .array .int
  | 14 => .int
  | 15 => .int
  | 16 => .int
  | 17 => .int
  | 18 => .int
  | 19 => .int
  | 20 => .int
  | 21 => .int
  | 22 => .array .int
  | _ => .array .int
abbrev wsX60 : List Cond := u_ws RX6 TX6 24
theorem nmX6 : ∀ a, a < 24 → ∀ b, b < 24 → a ≠ b → (TX6 a).2.1 ≠ (TX6 b).2.1 := by decide +kernel
theorem tyX6_ok : ∀ k, k < 24 → parseFieldDescriptor (TX6 k).2.2.1 = some (tyX6 k) := by decide +kernel
abbrev cX6_init : ByteArray := prog_8_method_1_code
def yX6_init : MethodName := ⟨RX6, "<init>", "()V"⟩
abbrev cX6_isTable : ByteArray := prog_8_method_2_code
def yX6_isTable : MethodName := ⟨RX6, "isTable", "(I)Z"⟩
abbrev cX6_row : ByteArray := prog_8_method_3_code
def yX6_row : MethodName := ⟨RX6, "row", "(III)I"⟩
abbrev cX6_cut : ByteArray := prog_8_method_4_code
def yX6_cut : MethodName := ⟨RX6, "cut", "(II)I"⟩
abbrev cX6_size : ByteArray := prog_8_method_5_code
def yX6_size : MethodName := ⟨RX6, "size", "(II)I"⟩
abbrev cX6_pagesOf : ByteArray := prog_8_method_6_code
def yX6_pagesOf : MethodName := ⟨RX6, "pagesOf", "(I)I"⟩
abbrev cX6_pages : ByteArray := prog_8_method_7_code
def yX6_pages : MethodName := ⟨RX6, "pages", "(I)I"⟩
abbrev cX6_partOf : ByteArray := prog_8_method_8_code
def yX6_partOf : MethodName := ⟨RX6, "partOf", "(II)I"⟩
abbrev cX6_part : ByteArray := prog_8_method_9_code
def yX6_part : MethodName := ⟨RX6, "part", "(II)I"⟩
abbrev cX6_beginOf : ByteArray := prog_8_method_10_code
def yX6_beginOf : MethodName := ⟨RX6, "beginOf", "(III)I"⟩
abbrev cX6_sizeOf : ByteArray := prog_8_method_11_code
def yX6_sizeOf : MethodName := ⟨RX6, "sizeOf", "(III)I"⟩
abbrev cX6_rowAt : ByteArray := prog_8_method_12_code
def yX6_rowAt : MethodName := ⟨RX6, "rowAt", "(IIII)I"⟩
abbrev cX6_keyAt : ByteArray := prog_8_method_13_code
def yX6_keyAt : MethodName := ⟨RX6, "keyAt", "(IIII)I"⟩
abbrev cX6_isOneKey : ByteArray := prog_8_method_14_code
def yX6_isOneKey : MethodName := ⟨RX6, "isOneKey", "(II)Z"⟩
abbrev cX6_makePair : ByteArray := prog_8_method_15_code
def yX6_makePair : MethodName := ⟨RX6, "makePair", "(II)V"⟩
abbrev cX6_meet : ByteArray := prog_8_method_16_code
def yX6_meet : MethodName := ⟨RX6, "meet", "(IIIII)V"⟩
abbrev cX6_note : ByteArray := prog_8_method_17_code
def yX6_note : MethodName := ⟨RX6, "note", "(IIIII)V"⟩
abbrev cX6_divide : ByteArray := prog_8_method_18_code
def yX6_divide : MethodName := ⟨RX6, "divide", "(II)V"⟩
abbrev cX6_pagesAt : ByteArray := prog_8_method_19_code
def yX6_pagesAt : MethodName := ⟨RX6, "pagesAt", "(II)I"⟩
abbrev cX6_joinSet : ByteArray := prog_8_method_20_code
def yX6_joinSet : MethodName := ⟨RX6, "joinSet", "(II)Z"⟩
abbrev cX6_begin : ByteArray := prog_8_method_21_code
def yX6_begin : MethodName := ⟨RX6, "begin", "()V"⟩
abbrev cX6_join : ByteArray := prog_8_method_22_code
def yX6_join : MethodName := ⟨RX6, "join", "()I"⟩
abbrev cX6_pair : ByteArray := prog_8_method_23_code
def yX6_pair : MethodName := ⟨RX6, "pair", "(II)I"⟩
abbrev cX6_told : ByteArray := prog_8_method_24_code
def yX6_told : MethodName := ⟨RX6, "told", "(I)I"⟩
abbrev cX6_event : ByteArray := prog_8_method_25_code
def yX6_event : MethodName := ⟨RX6, "event", "(II)I"⟩
def RJx8e188 : String := "java/lang/Cloneable"
def TJx8e188 : u_T := fun k => match k with
  | _ => ("", "", "", false)
def tyJx8e188 : Nat → FieldType := fun k => match k with
  | _ => .int
abbrev wsJx8e1880 : List Cond := u_ws RJx8e188 TJx8e188 0
theorem nmJx8e188 : ∀ a, a < 0 → ∀ b, b < 0 → a ≠ b → (TJx8e188 a).2.1 ≠ (TJx8e188 b).2.1 := by decide +kernel
theorem tyJx8e188_ok : ∀ k, k < 0 → parseFieldDescriptor (TJx8e188 k).2.2.1 = some (tyJx8e188 k) := by decide +kernel
def RJ9 : String := "java/lang/Math"
def TJ9 : u_T := fun k => match k with
  | _ => ("", "", "", false)
def tyJ9 : Nat → FieldType := fun k => match k with
  | _ => .int
abbrev wsJ90 : List Cond := u_ws RJ9 TJ9 0
theorem nmJ9 : ∀ a, a < 0 → ∀ b, b < 0 → a ≠ b → (TJ9 a).2.1 ≠ (TJ9 b).2.1 := by decide +kernel
theorem tyJ9_ok : ∀ k, k < 0 → parseFieldDescriptor (TJ9 k).2.2.1 = some (tyJ9 k) := by decide +kernel
abbrev cJ9_max_7cf53 : ByteArray := prog_10_method_65_code
def yJ9_max_7cf53 : MethodName := ⟨RJ9, "max", "(II)I"⟩
abbrev cJ9_min_7cf53 : ByteArray := prog_10_method_69_code
def yJ9_min_7cf53 : MethodName := ⟨RJ9, "min", "(II)I"⟩
def RJ10 : String := "java/lang/System"
def TJ10 : u_T := fun k => match k with
  | _ => ("", "", "", false)
def tyJ10 : Nat → FieldType := fun k => match k with
  | _ => .int
abbrev wsJ100 : List Cond := u_ws RJ10 TJ10 0
theorem nmJ10 : ∀ a, a < 0 → ∀ b, b < 0 → a ≠ b → (TJ10 a).2.1 ≠ (TJ10 b).2.1 := by decide +kernel
theorem tyJ10_ok : ∀ k, k < 0 → parseFieldDescriptor (TJ10 k).2.2.1 = some (tyJ10 k) := by decide +kernel
def RJ7 : String := "java/util/Arrays"
def TJ7 : u_T := fun k => match k with
  | _ => ("", "", "", false)
def tyJ7 : Nat → FieldType := fun k => match k with
  | _ => .int
abbrev wsJ70 : List Cond := u_ws RJ7 TJ7 0
theorem nmJ7 : ∀ a, a < 0 → ∀ b, b < 0 → a ≠ b → (TJ7 a).2.1 ≠ (TJ7 b).2.1 := by decide +kernel
theorem tyJ7_ok : ∀ k, k < 0 → parseFieldDescriptor (TJ7 k).2.2.1 = some (tyJ7 k) := by decide +kernel
abbrev cJ7_fill_53178 : ByteArray := prog_12_method_103_code
def yJ7_fill_53178 : MethodName := ⟨RJ7, "fill", "([II)V"⟩
def RL : String := "JoinBenchLaw"
abbrev cL_law : ByteArray := code
def yL_law : MethodName := ⟨RL, "law", "([I)Z"⟩
def wsX2_init : List Cond := .code yX2_init cX2_init 3 none :: ([.methodLink RX2 3 objectInit, .instanceMethod objectInit, .code objectInit ⟨#[0xb1]⟩ 1 none, .fieldLink RX2 9 "JoinBench$Side" "sizes" "LJoinBench$Sizes;", .fieldLink RX2 15 "JoinBench$Side" "isLeft" "Z", .arrayClass .int, .fieldLink RX2 19 "JoinBench$Side" "keys" "[I", .fieldLink RX2 23 "JoinBench$Side" "values" "[I", .fieldLink RX2 26 "JoinBench$Side" "order" "[I", .fieldLink RX2 29 "JoinBench$Side" "spare" "[I", .fieldLink RX2 32 "JoinBench$Side" "partEnds" "[I", .fieldLink RX2 35 "JoinBench$Side" "count" "I"] ++ wsX20)
def wsX0_init : List Cond := .code yX0_init cX0_init 3 none :: ([.methodLink RX0 3 objectInit, .instanceMethod objectInit, .code objectInit ⟨#[0xb1]⟩ 1 none, .fieldLink RX0 9 "JoinBench$Joiner" "sizes" "LJoinBench$Sizes;", .fieldLink RX0 15 "JoinBench$Joiner" "report" "LJoinBench$Report;", .classLink RX0 19 RX2, .instantiable RX2 8, .initialized RX2, .fieldLink RX0 24 "JoinBench$Joiner" "left" "LJoinBench$Side;", .fieldLink RX0 28 "JoinBench$Joiner" "right" "LJoinBench$Side;", .methodLink RX0 21 yX2_init, .instanceMethod yX2_init, .code yX2_init cX2_init 3 none, .methodLink RX2 3 objectInit, .fieldLink RX2 9 "JoinBench$Side" "sizes" "LJoinBench$Sizes;", .fieldLink RX2 15 "JoinBench$Side" "isLeft" "Z", .arrayClass .int, .fieldLink RX2 19 "JoinBench$Side" "keys" "[I", .fieldLink RX2 23 "JoinBench$Side" "values" "[I", .fieldLink RX2 26 "JoinBench$Side" "order" "[I", .fieldLink RX2 29 "JoinBench$Side" "spare" "[I", .fieldLink RX2 32 "JoinBench$Side" "partEnds" "[I", .fieldLink RX2 35 "JoinBench$Side" "count" "I"] ++ wsX00 ++ wsX20)
def wsX2_copyOf : List Cond := .code yX2_copyOf cX2_copyOf 3 none :: ([.fieldLink RX2 35 "JoinBench$Side" "count" "I", .fieldLink RX2 19 "JoinBench$Side" "keys" "[I", .methodLink RX2 43 arraycopyName, .native arraycopyName, .static arraycopyName, .initialized "java/lang/System", .fieldLink RX2 23 "JoinBench$Side" "values" "[I", .fieldLink RX2 26 "JoinBench$Side" "order" "[I"] ++ wsX40 ++ wsX20)
def wsJ7_fill_53178 : List Cond := .code yJ7_fill_53178 cJ7_fill_53178 4 none :: ([])
def wsX1_beginAnew : List Cond := .code yX1_beginAnew cX1_beginAnew 1 none :: ([.fieldLink RX1 11 "JoinBench$Report" "figures" "[I", .fieldLink RX1 21 "JoinBench$Report" "onDisk" "I", .methodLink RX1 25 yJ7_fill_53178, .static yJ7_fill_53178, .initialized RJ7, .code yJ7_fill_53178 cJ7_fill_53178 4 none] ++ wsX10)
def wsX3_pagesFor : List Cond := .code yX3_pagesFor cX3_pagesFor 3 (some .int) :: ([.fieldLink RX3 20 "JoinBench$Sizes" "now" "[I"] ++ wsX30)
def wsX1_addEvent : List Cond := .code yX1_addEvent cX1_addEvent 8 none :: ([.fieldLink RX1 11 "JoinBench$Report" "figures" "[I", .fieldLink RX1 15 "JoinBench$Report" "events" "[I", .methodLink RX1 31 Lib.Math.max.name, .static Lib.Math.max.name, .initialized "java/lang/Math", .code Lib.Math.max.name Lib.Math.max.code 2 (some .int)] ++ wsX10)
def wsX3_memory : List Cond := .code yX3_memory cX3_memory 1 (some .int) :: ([.fieldLink RX3 20 "JoinBench$Sizes" "now" "[I"] ++ wsX30)
def wsX1_takeMemory : List Cond := .code yX1_takeMemory cX1_takeMemory 2 none :: ([.fieldLink RX1 11 "JoinBench$Report" "figures" "[I", .methodLink RX1 31 Lib.Math.max.name, .static Lib.Math.max.name, .initialized "java/lang/Math", .code Lib.Math.max.name Lib.Math.max.code 2 (some .int)] ++ wsX10)
def wsX2_keyAt : List Cond := .code yX2_keyAt cX2_keyAt 2 (some .int) :: ([.fieldLink RX2 35 "JoinBench$Side" "count" "I", .fieldLink RX2 19 "JoinBench$Side" "keys" "[I", .fieldLink RX2 26 "JoinBench$Side" "order" "[I"] ++ wsX20)
def wsX3_hashOf : List Cond := .code yX3_hashOf cX3_hashOf 3 (some .int) :: ([.constant RX3 42 (-1640531527), .constant RX3 43 (1013904243), .constant RX3 44 (-2048144777)])
def wsX3_parts : List Cond := .code yX3_parts cX3_parts 1 (some .int) :: ([.fieldLink RX3 20 "JoinBench$Sizes" "now" "[I"] ++ wsX30)
def wsX3_partOf : List Cond := .code yX3_partOf cX3_partOf 6 (some .int) :: ([.constantLong RX3 37 (4294967295), .methodLink RX3 33 yX3_hashOf, .static yX3_hashOf, .initialized RX3, .code yX3_hashOf cX3_hashOf 3 (some .int), .constant RX3 42 (-1640531527), .constant RX3 43 (1013904243), .constant RX3 44 (-2048144777), .methodLink RX3 39 yX3_parts, .instanceMethod yX3_parts, .selects RX3 yX3_parts yX3_parts, .code yX3_parts cX3_parts 1 (some .int), .fieldLink RX3 20 "JoinBench$Sizes" "now" "[I"] ++ wsX30)
def wsX2_layInParts_r1 : List Cond := [Cond.fieldLink RX2 35 "JoinBench$Side" "count" "I", Cond.fieldLink RX2 29 "JoinBench$Side" "spare" "[I", Cond.fieldLink RX2 9 "JoinBench$Side" "sizes" "LJoinBench$Sizes;", Cond.fieldLink RX2 26 "JoinBench$Side" "order" "[I", Cond.fieldLink RX2 32 "JoinBench$Side" "partEnds" "[I", Cond.methodLink RX2 50 yX2_keyAt, Cond.instanceMethod yX2_keyAt, Cond.selects RX2 yX2_keyAt yX2_keyAt, Cond.initialized RX2, Cond.code yX2_keyAt cX2_keyAt 2 (some .int), Cond.fieldLink RX2 19 "JoinBench$Side" "keys" "[I", Cond.methodLink RX2 54 yX3_partOf, Cond.instanceMethod yX3_partOf, Cond.selects RX3 yX3_partOf yX3_partOf, Cond.initialized RX3, Cond.code yX3_partOf cX3_partOf 6 (some .int), Cond.constantLong RX3 37 (4294967295), Cond.methodLink RX3 33 yX3_hashOf, Cond.static yX3_hashOf, Cond.code yX3_hashOf cX3_hashOf 3 (some .int), Cond.constant RX3 42 (-1640531527), Cond.constant RX3 43 (1013904243), Cond.constant RX3 44 (-2048144777), Cond.methodLink RX3 39 yX3_parts]
def wsX2_layInParts_r2 : List Cond := [Cond.instanceMethod yX3_parts, Cond.selects RX3 yX3_parts yX3_parts, Cond.code yX3_parts cX3_parts 1 (some .int), Cond.fieldLink RX3 20 "JoinBench$Sizes" "now" "[I", Cond.methodLink RX2 60 yX3_parts, Cond.methodLink RX2 64 yX3_pagesFor, Cond.instanceMethod yX3_pagesFor, Cond.selects RX3 yX3_pagesFor yX3_pagesFor, Cond.code yX3_pagesFor cX3_pagesFor 3 (some .int)]
def wsX2_layInParts : List Cond := .code yX2_layInParts cX2_layInParts 9 (some .int) :: ((wsX2_layInParts_r1 ++ wsX2_layInParts_r2) ++ wsX20 ++ wsX30)
def wsX1_writeToDisk : List Cond := .code yX1_writeToDisk cX1_writeToDisk 2 none :: ([.fieldLink RX1 11 "JoinBench$Report" "figures" "[I", .fieldLink RX1 21 "JoinBench$Report" "onDisk" "I", .methodLink RX1 31 Lib.Math.max.name, .static Lib.Math.max.name, .initialized "java/lang/Math", .code Lib.Math.max.name Lib.Math.max.code 2 (some .int)] ++ wsX10)
def wsX2_partEnd : List Cond := .code yX2_partEnd cX2_partEnd 3 (some .int) :: ([.fieldLink RX2 32 "JoinBench$Side" "partEnds" "[I"] ++ wsX20)
def wsX1_freeDisk : List Cond := .code yX1_freeDisk cX1_freeDisk 2 none :: ([.fieldLink RX1 21 "JoinBench$Report" "onDisk" "I"] ++ wsX10)
def wsX3_blockPages : List Cond := .code yX3_blockPages cX3_blockPages 1 (some .int) :: ([.fieldLink RX3 20 "JoinBench$Sizes" "now" "[I"] ++ wsX30)
def wsX3_partings : List Cond := .code yX3_partings cX3_partings 1 (some .int) :: ([.fieldLink RX3 20 "JoinBench$Sizes" "now" "[I"] ++ wsX30)
def wsX2_hasOnlyKey : List Cond := .code yX2_hasOnlyKey cX2_hasOnlyKey 5 (some .boolean) :: ([.methodLink RX2 50 yX2_keyAt, .instanceMethod yX2_keyAt, .selects RX2 yX2_keyAt yX2_keyAt, .initialized RX2, .code yX2_keyAt cX2_keyAt 2 (some .int), .fieldLink RX2 35 "JoinBench$Side" "count" "I", .fieldLink RX2 19 "JoinBench$Side" "keys" "[I", .fieldLink RX2 26 "JoinBench$Side" "order" "[I"] ++ wsX20)
def wsX0_kindOf_r1 : List Cond := [Cond.methodLink RX0 62 Lib.Math.min.name, Cond.static Lib.Math.min.name, Cond.initialized "java/lang/Math", Cond.code Lib.Math.min.name Lib.Math.min.code 2 (some .int), Cond.fieldLink RX0 9 "JoinBench$Joiner" "sizes" "LJoinBench$Sizes;", Cond.fieldLink RX0 24 "JoinBench$Joiner" "left" "LJoinBench$Side;", Cond.fieldLink RX0 28 "JoinBench$Joiner" "right" "LJoinBench$Side;", Cond.methodLink RX0 68 yX3_pagesFor, Cond.instanceMethod yX3_pagesFor, Cond.selects RX3 yX3_pagesFor yX3_pagesFor, Cond.initialized RX3, Cond.code yX3_pagesFor cX3_pagesFor 3 (some .int), Cond.fieldLink RX3 20 "JoinBench$Sizes" "now" "[I", Cond.methodLink RX0 74 yX3_blockPages, Cond.instanceMethod yX3_blockPages, Cond.selects RX3 yX3_blockPages yX3_blockPages, Cond.code yX3_blockPages cX3_blockPages 1 (some .int), Cond.methodLink RX0 78 yX3_partings, Cond.instanceMethod yX3_partings, Cond.selects RX3 yX3_partings yX3_partings, Cond.code yX3_partings cX3_partings 1 (some .int), Cond.methodLink RX0 81 yX2_keyAt, Cond.instanceMethod yX2_keyAt, Cond.selects RX2 yX2_keyAt yX2_keyAt]
def wsX0_kindOf_r2 : List Cond := [Cond.initialized RX2, Cond.code yX2_keyAt cX2_keyAt 2 (some .int), Cond.fieldLink RX2 35 "JoinBench$Side" "count" "I", Cond.fieldLink RX2 19 "JoinBench$Side" "keys" "[I", Cond.fieldLink RX2 26 "JoinBench$Side" "order" "[I", Cond.methodLink RX0 84 yX2_hasOnlyKey, Cond.instanceMethod yX2_hasOnlyKey, Cond.selects RX2 yX2_hasOnlyKey yX2_hasOnlyKey, Cond.code yX2_hasOnlyKey cX2_hasOnlyKey 5 (some .boolean), Cond.methodLink RX2 50 yX2_keyAt]
def wsX0_kindOf : List Cond := .code yX0_kindOf cX0_kindOf 9 (some .int) :: ((wsX0_kindOf_r1 ++ wsX0_kindOf_r2) ++ wsX00 ++ wsX30 ++ wsX20)
def wsX3_blockRows : List Cond := .code yX3_blockRows cX3_blockRows 1 (some .int) :: ([.fieldLink RX3 20 "JoinBench$Sizes" "now" "[I", .methodLink RX3 29 yX3_blockPages, .instanceMethod yX3_blockPages, .selects RX3 yX3_blockPages yX3_blockPages, .initialized RX3, .code yX3_blockPages cX3_blockPages 1 (some .int)] ++ wsX30)
def wsX2_rowAt : List Cond := .code yX2_rowAt cX2_rowAt 2 (some .int) :: ([.fieldLink RX2 35 "JoinBench$Side" "count" "I", .fieldLink RX2 26 "JoinBench$Side" "order" "[I"] ++ wsX20)
def wsX1_addPair : List Cond := .code yX1_addPair cX1_addPair 4 none :: ([.fieldLink RX1 11 "JoinBench$Report" "figures" "[I", .fieldLink RX1 18 "JoinBench$Report" "pairs" "[I"] ++ wsX10)
def wsX0_matchRows : List Cond := .code yX0_matchRows cX0_matchRows 11 none :: ([.fieldLink RX0 15 "JoinBench$Joiner" "report" "LJoinBench$Report;", .methodLink RX0 81 yX2_keyAt, .instanceMethod yX2_keyAt, .selects RX2 yX2_keyAt yX2_keyAt, .initialized RX2, .code yX2_keyAt cX2_keyAt 2 (some .int), .fieldLink RX2 35 "JoinBench$Side" "count" "I", .fieldLink RX2 19 "JoinBench$Side" "keys" "[I", .fieldLink RX2 26 "JoinBench$Side" "order" "[I", .methodLink RX0 106 yX2_rowAt, .instanceMethod yX2_rowAt, .selects RX2 yX2_rowAt yX2_rowAt, .code yX2_rowAt cX2_rowAt 2 (some .int), .methodLink RX0 113 yX1_addPair, .instanceMethod yX1_addPair, .selects RX1 yX1_addPair yX1_addPair, .initialized RX1, .code yX1_addPair cX1_addPair 4 none, .fieldLink RX1 11 "JoinBench$Report" "figures" "[I", .fieldLink RX1 18 "JoinBench$Report" "pairs" "[I"] ++ wsX20 ++ wsX00 ++ wsX10)
def wsX0_passBlocks_r1 : List Cond := [Cond.fieldLink RX0 9 "JoinBench$Joiner" "sizes" "LJoinBench$Sizes;", Cond.methodLink RX0 99 Lib.Math.max.name, Cond.static Lib.Math.max.name, Cond.initialized "java/lang/Math", Cond.code Lib.Math.max.name Lib.Math.max.code 2 (some .int), Cond.methodLink RX0 62 Lib.Math.min.name, Cond.static Lib.Math.min.name, Cond.code Lib.Math.min.name Lib.Math.min.code 2 (some .int), Cond.methodLink RX0 96 yX3_blockRows, Cond.instanceMethod yX3_blockRows, Cond.selects RX3 yX3_blockRows yX3_blockRows, Cond.initialized RX3, Cond.code yX3_blockRows cX3_blockRows 1 (some .int), Cond.fieldLink RX3 20 "JoinBench$Sizes" "now" "[I", Cond.methodLink RX3 29 yX3_blockPages, Cond.instanceMethod yX3_blockPages, Cond.selects RX3 yX3_blockPages yX3_blockPages, Cond.code yX3_blockPages cX3_blockPages 1 (some .int), Cond.methodLink RX0 102 yX0_matchRows, Cond.instanceMethod yX0_matchRows, Cond.selects RX0 yX0_matchRows yX0_matchRows, Cond.initialized RX0, Cond.code yX0_matchRows cX0_matchRows 11 none, Cond.fieldLink RX0 15 "JoinBench$Joiner" "report" "LJoinBench$Report;"]
def wsX0_passBlocks_r2 : List Cond := [Cond.methodLink RX0 81 yX2_keyAt, Cond.instanceMethod yX2_keyAt, Cond.selects RX2 yX2_keyAt yX2_keyAt, Cond.initialized RX2, Cond.code yX2_keyAt cX2_keyAt 2 (some .int), Cond.fieldLink RX2 35 "JoinBench$Side" "count" "I", Cond.fieldLink RX2 19 "JoinBench$Side" "keys" "[I", Cond.fieldLink RX2 26 "JoinBench$Side" "order" "[I", Cond.methodLink RX0 106 yX2_rowAt, Cond.instanceMethod yX2_rowAt, Cond.selects RX2 yX2_rowAt yX2_rowAt, Cond.code yX2_rowAt cX2_rowAt 2 (some .int), Cond.methodLink RX0 113 yX1_addPair, Cond.instanceMethod yX1_addPair, Cond.selects RX1 yX1_addPair yX1_addPair, Cond.initialized RX1, Cond.code yX1_addPair cX1_addPair 4 none, Cond.fieldLink RX1 11 "JoinBench$Report" "figures" "[I", Cond.fieldLink RX1 18 "JoinBench$Report" "pairs" "[I"]
def wsX0_passBlocks : List Cond := .code yX0_passBlocks cX0_passBlocks 10 (some .int) :: ((wsX0_passBlocks_r1 ++ wsX0_passBlocks_r2) ++ wsX00 ++ wsX30 ++ wsX20 ++ wsX10)
def wsX0_joinBlocks_r1 : List Cond := [Cond.fieldLink RX0 9 "JoinBench$Joiner" "sizes" "LJoinBench$Sizes;", Cond.fieldLink RX0 15 "JoinBench$Joiner" "report" "LJoinBench$Report;", Cond.methodLink RX0 62 Lib.Math.min.name, Cond.static Lib.Math.min.name, Cond.initialized "java/lang/Math", Cond.code Lib.Math.min.name Lib.Math.min.code 2 (some .int), Cond.fieldLink RX0 24 "JoinBench$Joiner" "left" "LJoinBench$Side;", Cond.fieldLink RX0 28 "JoinBench$Joiner" "right" "LJoinBench$Side;", Cond.methodLink RX0 68 yX3_pagesFor, Cond.instanceMethod yX3_pagesFor, Cond.selects RX3 yX3_pagesFor yX3_pagesFor, Cond.initialized RX3, Cond.code yX3_pagesFor cX3_pagesFor 3 (some .int), Cond.fieldLink RX3 20 "JoinBench$Sizes" "now" "[I", Cond.methodLink RX0 74 yX3_blockPages, Cond.instanceMethod yX3_blockPages, Cond.selects RX3 yX3_blockPages yX3_blockPages, Cond.code yX3_blockPages cX3_blockPages 1 (some .int), Cond.methodLink RX0 88 yX1_takeMemory, Cond.instanceMethod yX1_takeMemory, Cond.selects RX1 yX1_takeMemory yX1_takeMemory, Cond.initialized RX1, Cond.code yX1_takeMemory cX1_takeMemory 2 none, Cond.fieldLink RX1 11 "JoinBench$Report" "figures" "[I"]
def wsX0_joinBlocks_r2 : List Cond := [Cond.methodLink RX1 31 Lib.Math.max.name, Cond.static Lib.Math.max.name, Cond.code Lib.Math.max.name Lib.Math.max.code 2 (some .int), Cond.methodLink RX0 92 yX0_passBlocks, Cond.instanceMethod yX0_passBlocks, Cond.selects RX0 yX0_passBlocks yX0_passBlocks, Cond.initialized RX0, Cond.code yX0_passBlocks cX0_passBlocks 10 (some .int), Cond.methodLink RX0 99 Lib.Math.max.name, Cond.methodLink RX0 96 yX3_blockRows, Cond.instanceMethod yX3_blockRows, Cond.selects RX3 yX3_blockRows yX3_blockRows, Cond.code yX3_blockRows cX3_blockRows 1 (some .int), Cond.methodLink RX3 29 yX3_blockPages, Cond.methodLink RX0 102 yX0_matchRows, Cond.instanceMethod yX0_matchRows, Cond.selects RX0 yX0_matchRows yX0_matchRows, Cond.code yX0_matchRows cX0_matchRows 11 none, Cond.methodLink RX0 81 yX2_keyAt, Cond.instanceMethod yX2_keyAt, Cond.selects RX2 yX2_keyAt yX2_keyAt, Cond.initialized RX2, Cond.code yX2_keyAt cX2_keyAt 2 (some .int), Cond.fieldLink RX2 35 "JoinBench$Side" "count" "I"]
def wsX0_joinBlocks_r3 : List Cond := [Cond.fieldLink RX2 19 "JoinBench$Side" "keys" "[I", Cond.fieldLink RX2 26 "JoinBench$Side" "order" "[I", Cond.methodLink RX0 106 yX2_rowAt, Cond.instanceMethod yX2_rowAt, Cond.selects RX2 yX2_rowAt yX2_rowAt, Cond.code yX2_rowAt cX2_rowAt 2 (some .int), Cond.methodLink RX0 113 yX1_addPair, Cond.instanceMethod yX1_addPair, Cond.selects RX1 yX1_addPair yX1_addPair, Cond.code yX1_addPair cX1_addPair 4 none, Cond.fieldLink RX1 18 "JoinBench$Report" "pairs" "[I"]
def wsX0_joinBlocks : List Cond := .code yX0_joinBlocks cX0_joinBlocks 8 (some .int) :: ((wsX0_joinBlocks_r1 ++ (wsX0_joinBlocks_r2 ++ wsX0_joinBlocks_r3)) ++ wsX00 ++ wsX30 ++ wsX10 ++ wsX20)
def wsX0_joinParts_r1 : List Cond := [Cond.fieldLink RX0 9 "JoinBench$Joiner" "sizes" "LJoinBench$Sizes;", Cond.fieldLink RX0 15 "JoinBench$Joiner" "report" "LJoinBench$Report;", Cond.fieldLink RX0 24 "JoinBench$Joiner" "left" "LJoinBench$Side;", Cond.fieldLink RX0 28 "JoinBench$Joiner" "right" "LJoinBench$Side;", Cond.methodLink RX0 68 yX3_pagesFor, Cond.instanceMethod yX3_pagesFor, Cond.selects RX3 yX3_pagesFor yX3_pagesFor, Cond.initialized RX3, Cond.code yX3_pagesFor cX3_pagesFor 3 (some .int), Cond.fieldLink RX3 20 "JoinBench$Sizes" "now" "[I", Cond.methodLink RX0 52 yX1_addEvent, Cond.instanceMethod yX1_addEvent, Cond.selects RX1 yX1_addEvent yX1_addEvent, Cond.initialized RX1, Cond.code yX1_addEvent cX1_addEvent 8 none, Cond.fieldLink RX1 11 "JoinBench$Report" "figures" "[I", Cond.fieldLink RX1 15 "JoinBench$Report" "events" "[I", Cond.methodLink RX1 31 Lib.Math.max.name, Cond.static Lib.Math.max.name, Cond.initialized "java/lang/Math", Cond.code Lib.Math.max.name Lib.Math.max.code 2 (some .int), Cond.methodLink RX0 117 yX3_memory, Cond.instanceMethod yX3_memory, Cond.selects RX3 yX3_memory yX3_memory]
def wsX0_joinParts_r2 : List Cond := [Cond.code yX3_memory cX3_memory 1 (some .int), Cond.methodLink RX0 88 yX1_takeMemory, Cond.instanceMethod yX1_takeMemory, Cond.selects RX1 yX1_takeMemory yX1_takeMemory, Cond.code yX1_takeMemory cX1_takeMemory 2 none, Cond.methodLink RX0 120 yX2_layInParts, Cond.instanceMethod yX2_layInParts, Cond.selects RX2 yX2_layInParts yX2_layInParts, Cond.initialized RX2, Cond.code yX2_layInParts cX2_layInParts 9 (some .int), Cond.fieldLink RX2 35 "JoinBench$Side" "count" "I", Cond.fieldLink RX2 29 "JoinBench$Side" "spare" "[I", Cond.fieldLink RX2 9 "JoinBench$Side" "sizes" "LJoinBench$Sizes;", Cond.fieldLink RX2 26 "JoinBench$Side" "order" "[I", Cond.fieldLink RX2 32 "JoinBench$Side" "partEnds" "[I", Cond.methodLink RX2 50 yX2_keyAt, Cond.instanceMethod yX2_keyAt, Cond.selects RX2 yX2_keyAt yX2_keyAt, Cond.code yX2_keyAt cX2_keyAt 2 (some .int), Cond.fieldLink RX2 19 "JoinBench$Side" "keys" "[I", Cond.methodLink RX2 54 yX3_partOf, Cond.instanceMethod yX3_partOf, Cond.selects RX3 yX3_partOf yX3_partOf, Cond.code yX3_partOf cX3_partOf 6 (some .int)]
def wsX0_joinParts_r3 : List Cond := [Cond.constantLong RX3 37 (4294967295), Cond.methodLink RX3 33 yX3_hashOf, Cond.static yX3_hashOf, Cond.code yX3_hashOf cX3_hashOf 3 (some .int), Cond.constant RX3 42 (-1640531527), Cond.constant RX3 43 (1013904243), Cond.constant RX3 44 (-2048144777), Cond.methodLink RX3 39 yX3_parts, Cond.instanceMethod yX3_parts, Cond.selects RX3 yX3_parts yX3_parts, Cond.code yX3_parts cX3_parts 1 (some .int), Cond.methodLink RX2 60 yX3_parts, Cond.methodLink RX2 64 yX3_pagesFor, Cond.methodLink RX0 124 yX1_writeToDisk, Cond.instanceMethod yX1_writeToDisk, Cond.selects RX1 yX1_writeToDisk yX1_writeToDisk, Cond.code yX1_writeToDisk cX1_writeToDisk 2 none, Cond.fieldLink RX1 21 "JoinBench$Report" "onDisk" "I", Cond.methodLink RX0 127 yX3_parts, Cond.methodLink RX0 130 yX2_partEnd, Cond.instanceMethod yX2_partEnd, Cond.selects RX2 yX2_partEnd yX2_partEnd, Cond.code yX2_partEnd cX2_partEnd 3 (some .int), Cond.methodLink RX0 44 yX0_joinRows]
def wsX0_joinParts_r4 : List Cond := [Cond.instanceMethod yX0_joinRows, Cond.selects RX0 yX0_joinRows yX0_joinRows, Cond.initialized RX0, Cond.methodLink RX0 133 yX1_freeDisk, Cond.instanceMethod yX1_freeDisk, Cond.selects RX1 yX1_freeDisk yX1_freeDisk, Cond.code yX1_freeDisk cX1_freeDisk 2 none, Cond.code yX0_joinRows cX0_joinRows 8 none, Cond.methodLink RX0 48 yX0_kindOf, Cond.instanceMethod yX0_kindOf, Cond.selects RX0 yX0_kindOf yX0_kindOf, Cond.code yX0_kindOf cX0_kindOf 9 (some .int), Cond.methodLink RX0 62 Lib.Math.min.name, Cond.static Lib.Math.min.name, Cond.code Lib.Math.min.name Lib.Math.min.code 2 (some .int), Cond.methodLink RX0 74 yX3_blockPages, Cond.instanceMethod yX3_blockPages, Cond.selects RX3 yX3_blockPages yX3_blockPages, Cond.code yX3_blockPages cX3_blockPages 1 (some .int), Cond.methodLink RX0 78 yX3_partings, Cond.instanceMethod yX3_partings, Cond.selects RX3 yX3_partings yX3_partings, Cond.code yX3_partings cX3_partings 1 (some .int), Cond.methodLink RX0 81 yX2_keyAt]
def wsX0_joinParts_r5 : List Cond := [Cond.methodLink RX0 84 yX2_hasOnlyKey, Cond.instanceMethod yX2_hasOnlyKey, Cond.selects RX2 yX2_hasOnlyKey yX2_hasOnlyKey, Cond.code yX2_hasOnlyKey cX2_hasOnlyKey 5 (some .boolean), Cond.methodLink RX0 55 yX0_joinParts, Cond.instanceMethod yX0_joinParts, Cond.selects RX0 yX0_joinParts yX0_joinParts, Cond.methodLink RX0 58 yX0_joinBlocks, Cond.instanceMethod yX0_joinBlocks, Cond.selects RX0 yX0_joinBlocks yX0_joinBlocks, Cond.code yX0_joinBlocks cX0_joinBlocks 8 (some .int), Cond.methodLink RX0 92 yX0_passBlocks, Cond.instanceMethod yX0_passBlocks, Cond.selects RX0 yX0_passBlocks yX0_passBlocks, Cond.code yX0_passBlocks cX0_passBlocks 10 (some .int), Cond.methodLink RX0 99 Lib.Math.max.name, Cond.methodLink RX0 96 yX3_blockRows, Cond.instanceMethod yX3_blockRows, Cond.selects RX3 yX3_blockRows yX3_blockRows, Cond.code yX3_blockRows cX3_blockRows 1 (some .int), Cond.methodLink RX3 29 yX3_blockPages, Cond.methodLink RX0 102 yX0_matchRows, Cond.instanceMethod yX0_matchRows, Cond.selects RX0 yX0_matchRows yX0_matchRows]
def wsX0_joinParts_r6 : List Cond := [Cond.code yX0_matchRows cX0_matchRows 11 none, Cond.methodLink RX0 106 yX2_rowAt, Cond.instanceMethod yX2_rowAt, Cond.selects RX2 yX2_rowAt yX2_rowAt, Cond.code yX2_rowAt cX2_rowAt 2 (some .int), Cond.methodLink RX0 113 yX1_addPair, Cond.instanceMethod yX1_addPair, Cond.selects RX1 yX1_addPair yX1_addPair, Cond.code yX1_addPair cX1_addPair 4 none, Cond.fieldLink RX1 18 "JoinBench$Report" "pairs" "[I"]
def wsX0_joinParts : List Cond := .code yX0_joinParts cX0_joinParts 14 none :: ((wsX0_joinParts_r1 ++ (wsX0_joinParts_r2 ++ (wsX0_joinParts_r3 ++ (wsX0_joinParts_r4 ++ (wsX0_joinParts_r5 ++ wsX0_joinParts_r6))))) ++ wsX00 ++ wsX30 ++ wsX10 ++ wsX20)
def wsX0_joinRows_r1 : List Cond := [Cond.fieldLink RX0 15 "JoinBench$Joiner" "report" "LJoinBench$Report;", Cond.methodLink RX0 48 yX0_kindOf, Cond.instanceMethod yX0_kindOf, Cond.selects RX0 yX0_kindOf yX0_kindOf, Cond.initialized RX0, Cond.code yX0_kindOf cX0_kindOf 9 (some .int), Cond.methodLink RX0 62 Lib.Math.min.name, Cond.static Lib.Math.min.name, Cond.initialized "java/lang/Math", Cond.code Lib.Math.min.name Lib.Math.min.code 2 (some .int), Cond.fieldLink RX0 9 "JoinBench$Joiner" "sizes" "LJoinBench$Sizes;", Cond.fieldLink RX0 24 "JoinBench$Joiner" "left" "LJoinBench$Side;", Cond.fieldLink RX0 28 "JoinBench$Joiner" "right" "LJoinBench$Side;", Cond.methodLink RX0 68 yX3_pagesFor, Cond.instanceMethod yX3_pagesFor, Cond.selects RX3 yX3_pagesFor yX3_pagesFor, Cond.initialized RX3, Cond.code yX3_pagesFor cX3_pagesFor 3 (some .int), Cond.fieldLink RX3 20 "JoinBench$Sizes" "now" "[I", Cond.methodLink RX0 74 yX3_blockPages, Cond.instanceMethod yX3_blockPages, Cond.selects RX3 yX3_blockPages yX3_blockPages, Cond.code yX3_blockPages cX3_blockPages 1 (some .int), Cond.methodLink RX0 78 yX3_partings]
def wsX0_joinRows_r2 : List Cond := [Cond.instanceMethod yX3_partings, Cond.selects RX3 yX3_partings yX3_partings, Cond.code yX3_partings cX3_partings 1 (some .int), Cond.methodLink RX0 81 yX2_keyAt, Cond.instanceMethod yX2_keyAt, Cond.selects RX2 yX2_keyAt yX2_keyAt, Cond.initialized RX2, Cond.code yX2_keyAt cX2_keyAt 2 (some .int), Cond.fieldLink RX2 35 "JoinBench$Side" "count" "I", Cond.fieldLink RX2 19 "JoinBench$Side" "keys" "[I", Cond.fieldLink RX2 26 "JoinBench$Side" "order" "[I", Cond.methodLink RX0 84 yX2_hasOnlyKey, Cond.instanceMethod yX2_hasOnlyKey, Cond.selects RX2 yX2_hasOnlyKey yX2_hasOnlyKey, Cond.code yX2_hasOnlyKey cX2_hasOnlyKey 5 (some .boolean), Cond.methodLink RX2 50 yX2_keyAt, Cond.methodLink RX0 52 yX1_addEvent, Cond.instanceMethod yX1_addEvent, Cond.selects RX1 yX1_addEvent yX1_addEvent, Cond.initialized RX1, Cond.code yX1_addEvent cX1_addEvent 8 none, Cond.fieldLink RX1 11 "JoinBench$Report" "figures" "[I", Cond.fieldLink RX1 15 "JoinBench$Report" "events" "[I", Cond.methodLink RX1 31 Lib.Math.max.name]
def wsX0_joinRows_r3 : List Cond := [Cond.static Lib.Math.max.name, Cond.code Lib.Math.max.name Lib.Math.max.code 2 (some .int), Cond.methodLink RX0 55 yX0_joinParts, Cond.instanceMethod yX0_joinParts, Cond.selects RX0 yX0_joinParts yX0_joinParts, Cond.methodLink RX0 58 yX0_joinBlocks, Cond.instanceMethod yX0_joinBlocks, Cond.selects RX0 yX0_joinBlocks yX0_joinBlocks, Cond.code yX0_joinBlocks cX0_joinBlocks 8 (some .int), Cond.methodLink RX0 88 yX1_takeMemory, Cond.instanceMethod yX1_takeMemory, Cond.selects RX1 yX1_takeMemory yX1_takeMemory, Cond.code yX1_takeMemory cX1_takeMemory 2 none, Cond.methodLink RX0 92 yX0_passBlocks, Cond.instanceMethod yX0_passBlocks, Cond.selects RX0 yX0_passBlocks yX0_passBlocks, Cond.code yX0_passBlocks cX0_passBlocks 10 (some .int), Cond.methodLink RX0 99 Lib.Math.max.name, Cond.methodLink RX0 96 yX3_blockRows, Cond.instanceMethod yX3_blockRows, Cond.selects RX3 yX3_blockRows yX3_blockRows, Cond.code yX3_blockRows cX3_blockRows 1 (some .int), Cond.methodLink RX3 29 yX3_blockPages, Cond.methodLink RX0 102 yX0_matchRows]
def wsX0_joinRows_r4 : List Cond := [Cond.instanceMethod yX0_matchRows, Cond.selects RX0 yX0_matchRows yX0_matchRows, Cond.code yX0_matchRows cX0_matchRows 11 none, Cond.methodLink RX0 106 yX2_rowAt, Cond.instanceMethod yX2_rowAt, Cond.selects RX2 yX2_rowAt yX2_rowAt, Cond.code yX2_rowAt cX2_rowAt 2 (some .int), Cond.methodLink RX0 113 yX1_addPair, Cond.instanceMethod yX1_addPair, Cond.selects RX1 yX1_addPair yX1_addPair, Cond.code yX1_addPair cX1_addPair 4 none, Cond.fieldLink RX1 18 "JoinBench$Report" "pairs" "[I", Cond.code yX0_joinParts cX0_joinParts 14 none, Cond.methodLink RX0 117 yX3_memory, Cond.instanceMethod yX3_memory, Cond.selects RX3 yX3_memory yX3_memory, Cond.code yX3_memory cX3_memory 1 (some .int), Cond.methodLink RX0 120 yX2_layInParts, Cond.instanceMethod yX2_layInParts, Cond.selects RX2 yX2_layInParts yX2_layInParts, Cond.code yX2_layInParts cX2_layInParts 9 (some .int), Cond.fieldLink RX2 29 "JoinBench$Side" "spare" "[I", Cond.fieldLink RX2 9 "JoinBench$Side" "sizes" "LJoinBench$Sizes;", Cond.fieldLink RX2 32 "JoinBench$Side" "partEnds" "[I"]
def wsX0_joinRows_r5 : List Cond := [Cond.methodLink RX2 54 yX3_partOf, Cond.instanceMethod yX3_partOf, Cond.selects RX3 yX3_partOf yX3_partOf, Cond.code yX3_partOf cX3_partOf 6 (some .int), Cond.constantLong RX3 37 (4294967295), Cond.methodLink RX3 33 yX3_hashOf, Cond.static yX3_hashOf, Cond.code yX3_hashOf cX3_hashOf 3 (some .int), Cond.constant RX3 42 (-1640531527), Cond.constant RX3 43 (1013904243), Cond.constant RX3 44 (-2048144777), Cond.methodLink RX3 39 yX3_parts, Cond.instanceMethod yX3_parts, Cond.selects RX3 yX3_parts yX3_parts, Cond.code yX3_parts cX3_parts 1 (some .int), Cond.methodLink RX2 60 yX3_parts, Cond.methodLink RX2 64 yX3_pagesFor, Cond.methodLink RX0 124 yX1_writeToDisk, Cond.instanceMethod yX1_writeToDisk, Cond.selects RX1 yX1_writeToDisk yX1_writeToDisk, Cond.code yX1_writeToDisk cX1_writeToDisk 2 none, Cond.fieldLink RX1 21 "JoinBench$Report" "onDisk" "I", Cond.methodLink RX0 127 yX3_parts, Cond.methodLink RX0 130 yX2_partEnd]
def wsX0_joinRows_r6 : List Cond := [Cond.instanceMethod yX2_partEnd, Cond.selects RX2 yX2_partEnd yX2_partEnd, Cond.code yX2_partEnd cX2_partEnd 3 (some .int), Cond.methodLink RX0 44 yX0_joinRows, Cond.instanceMethod yX0_joinRows, Cond.selects RX0 yX0_joinRows yX0_joinRows, Cond.methodLink RX0 133 yX1_freeDisk, Cond.instanceMethod yX1_freeDisk, Cond.selects RX1 yX1_freeDisk yX1_freeDisk, Cond.code yX1_freeDisk cX1_freeDisk 2 none]
def wsX0_joinRows : List Cond := .code yX0_joinRows cX0_joinRows 8 none :: ((wsX0_joinRows_r1 ++ (wsX0_joinRows_r2 ++ (wsX0_joinRows_r3 ++ (wsX0_joinRows_r4 ++ (wsX0_joinRows_r5 ++ wsX0_joinRows_r6))))) ++ wsX00 ++ wsX30 ++ wsX10 ++ wsX20)
def wsX0_joinTables_r1 : List Cond := [Cond.fieldLink RX0 24 "JoinBench$Joiner" "left" "LJoinBench$Side;", Cond.fieldLink RX0 28 "JoinBench$Joiner" "right" "LJoinBench$Side;", Cond.fieldLink RX0 15 "JoinBench$Joiner" "report" "LJoinBench$Report;", Cond.methodLink RX0 31 yX2_copyOf, Cond.instanceMethod yX2_copyOf, Cond.selects RX2 yX2_copyOf yX2_copyOf, Cond.initialized RX2, Cond.code yX2_copyOf cX2_copyOf 3 none, Cond.fieldLink RX2 35 "JoinBench$Side" "count" "I", Cond.fieldLink RX2 19 "JoinBench$Side" "keys" "[I", Cond.methodLink RX2 43 arraycopyName, Cond.native arraycopyName, Cond.static arraycopyName, Cond.initialized "java/lang/System", Cond.fieldLink RX2 23 "JoinBench$Side" "values" "[I", Cond.fieldLink RX2 26 "JoinBench$Side" "order" "[I", Cond.methodLink RX0 35 yX1_beginAnew, Cond.instanceMethod yX1_beginAnew, Cond.selects RX1 yX1_beginAnew yX1_beginAnew, Cond.initialized RX1, Cond.code yX1_beginAnew cX1_beginAnew 1 none, Cond.fieldLink RX1 11 "JoinBench$Report" "figures" "[I", Cond.fieldLink RX1 21 "JoinBench$Report" "onDisk" "I", Cond.methodLink RX1 25 yJ7_fill_53178]
def wsX0_joinTables_r2 : List Cond := [Cond.static yJ7_fill_53178, Cond.initialized RJ7, Cond.code yJ7_fill_53178 cJ7_fill_53178 4 none, Cond.methodLink RX0 44 yX0_joinRows, Cond.instanceMethod yX0_joinRows, Cond.selects RX0 yX0_joinRows yX0_joinRows, Cond.initialized RX0, Cond.code yX0_joinRows cX0_joinRows 8 none, Cond.methodLink RX0 48 yX0_kindOf, Cond.instanceMethod yX0_kindOf, Cond.selects RX0 yX0_kindOf yX0_kindOf, Cond.code yX0_kindOf cX0_kindOf 9 (some .int), Cond.methodLink RX0 62 Lib.Math.min.name, Cond.static Lib.Math.min.name, Cond.initialized "java/lang/Math", Cond.code Lib.Math.min.name Lib.Math.min.code 2 (some .int), Cond.fieldLink RX0 9 "JoinBench$Joiner" "sizes" "LJoinBench$Sizes;", Cond.methodLink RX0 68 yX3_pagesFor, Cond.instanceMethod yX3_pagesFor, Cond.selects RX3 yX3_pagesFor yX3_pagesFor, Cond.initialized RX3, Cond.code yX3_pagesFor cX3_pagesFor 3 (some .int), Cond.fieldLink RX3 20 "JoinBench$Sizes" "now" "[I", Cond.methodLink RX0 74 yX3_blockPages]
def wsX0_joinTables_r3 : List Cond := [Cond.instanceMethod yX3_blockPages, Cond.selects RX3 yX3_blockPages yX3_blockPages, Cond.code yX3_blockPages cX3_blockPages 1 (some .int), Cond.methodLink RX0 78 yX3_partings, Cond.instanceMethod yX3_partings, Cond.selects RX3 yX3_partings yX3_partings, Cond.code yX3_partings cX3_partings 1 (some .int), Cond.methodLink RX0 81 yX2_keyAt, Cond.instanceMethod yX2_keyAt, Cond.selects RX2 yX2_keyAt yX2_keyAt, Cond.code yX2_keyAt cX2_keyAt 2 (some .int), Cond.methodLink RX0 84 yX2_hasOnlyKey, Cond.instanceMethod yX2_hasOnlyKey, Cond.selects RX2 yX2_hasOnlyKey yX2_hasOnlyKey, Cond.code yX2_hasOnlyKey cX2_hasOnlyKey 5 (some .boolean), Cond.methodLink RX2 50 yX2_keyAt, Cond.methodLink RX0 52 yX1_addEvent, Cond.instanceMethod yX1_addEvent, Cond.selects RX1 yX1_addEvent yX1_addEvent, Cond.code yX1_addEvent cX1_addEvent 8 none, Cond.fieldLink RX1 15 "JoinBench$Report" "events" "[I", Cond.methodLink RX1 31 Lib.Math.max.name, Cond.static Lib.Math.max.name, Cond.code Lib.Math.max.name Lib.Math.max.code 2 (some .int)]
def wsX0_joinTables_r4 : List Cond := [Cond.methodLink RX0 55 yX0_joinParts, Cond.instanceMethod yX0_joinParts, Cond.selects RX0 yX0_joinParts yX0_joinParts, Cond.methodLink RX0 58 yX0_joinBlocks, Cond.instanceMethod yX0_joinBlocks, Cond.selects RX0 yX0_joinBlocks yX0_joinBlocks, Cond.code yX0_joinBlocks cX0_joinBlocks 8 (some .int), Cond.methodLink RX0 88 yX1_takeMemory, Cond.instanceMethod yX1_takeMemory, Cond.selects RX1 yX1_takeMemory yX1_takeMemory, Cond.code yX1_takeMemory cX1_takeMemory 2 none, Cond.methodLink RX0 92 yX0_passBlocks, Cond.instanceMethod yX0_passBlocks, Cond.selects RX0 yX0_passBlocks yX0_passBlocks, Cond.code yX0_passBlocks cX0_passBlocks 10 (some .int), Cond.methodLink RX0 99 Lib.Math.max.name, Cond.methodLink RX0 96 yX3_blockRows, Cond.instanceMethod yX3_blockRows, Cond.selects RX3 yX3_blockRows yX3_blockRows, Cond.code yX3_blockRows cX3_blockRows 1 (some .int), Cond.methodLink RX3 29 yX3_blockPages, Cond.methodLink RX0 102 yX0_matchRows, Cond.instanceMethod yX0_matchRows, Cond.selects RX0 yX0_matchRows yX0_matchRows]
def wsX0_joinTables_r5 : List Cond := [Cond.code yX0_matchRows cX0_matchRows 11 none, Cond.methodLink RX0 106 yX2_rowAt, Cond.instanceMethod yX2_rowAt, Cond.selects RX2 yX2_rowAt yX2_rowAt, Cond.code yX2_rowAt cX2_rowAt 2 (some .int), Cond.methodLink RX0 113 yX1_addPair, Cond.instanceMethod yX1_addPair, Cond.selects RX1 yX1_addPair yX1_addPair, Cond.code yX1_addPair cX1_addPair 4 none, Cond.fieldLink RX1 18 "JoinBench$Report" "pairs" "[I", Cond.code yX0_joinParts cX0_joinParts 14 none, Cond.methodLink RX0 117 yX3_memory, Cond.instanceMethod yX3_memory, Cond.selects RX3 yX3_memory yX3_memory, Cond.code yX3_memory cX3_memory 1 (some .int), Cond.methodLink RX0 120 yX2_layInParts, Cond.instanceMethod yX2_layInParts, Cond.selects RX2 yX2_layInParts yX2_layInParts, Cond.code yX2_layInParts cX2_layInParts 9 (some .int), Cond.fieldLink RX2 29 "JoinBench$Side" "spare" "[I", Cond.fieldLink RX2 9 "JoinBench$Side" "sizes" "LJoinBench$Sizes;", Cond.fieldLink RX2 32 "JoinBench$Side" "partEnds" "[I", Cond.methodLink RX2 54 yX3_partOf, Cond.instanceMethod yX3_partOf]
def wsX0_joinTables_r6 : List Cond := [Cond.selects RX3 yX3_partOf yX3_partOf, Cond.code yX3_partOf cX3_partOf 6 (some .int), Cond.constantLong RX3 37 (4294967295), Cond.methodLink RX3 33 yX3_hashOf, Cond.static yX3_hashOf, Cond.code yX3_hashOf cX3_hashOf 3 (some .int), Cond.constant RX3 42 (-1640531527), Cond.constant RX3 43 (1013904243), Cond.constant RX3 44 (-2048144777), Cond.methodLink RX3 39 yX3_parts, Cond.instanceMethod yX3_parts, Cond.selects RX3 yX3_parts yX3_parts, Cond.code yX3_parts cX3_parts 1 (some .int), Cond.methodLink RX2 60 yX3_parts, Cond.methodLink RX2 64 yX3_pagesFor, Cond.methodLink RX0 124 yX1_writeToDisk, Cond.instanceMethod yX1_writeToDisk, Cond.selects RX1 yX1_writeToDisk yX1_writeToDisk, Cond.code yX1_writeToDisk cX1_writeToDisk 2 none, Cond.methodLink RX0 127 yX3_parts, Cond.methodLink RX0 130 yX2_partEnd, Cond.instanceMethod yX2_partEnd, Cond.selects RX2 yX2_partEnd yX2_partEnd, Cond.code yX2_partEnd cX2_partEnd 3 (some .int)]
def wsX0_joinTables_r7 : List Cond := [Cond.methodLink RX0 133 yX1_freeDisk, Cond.instanceMethod yX1_freeDisk, Cond.selects RX1 yX1_freeDisk yX1_freeDisk, Cond.code yX1_freeDisk cX1_freeDisk 2 none]
def wsX0_joinTables : List Cond := .code yX0_joinTables cX0_joinTables 3 none :: ((wsX0_joinTables_r1 ++ (wsX0_joinTables_r2 ++ (wsX0_joinTables_r3 ++ (wsX0_joinTables_r4 ++ (wsX0_joinTables_r5 ++ (wsX0_joinTables_r6 ++ wsX0_joinTables_r7)))))) ++ wsX00 ++ wsX20 ++ wsX40 ++ wsX10 ++ wsX30)
def wsX1_init : List Cond := .code yX1_init cX1_init 1 none :: ([.methodLink RX1 3 objectInit, .instanceMethod objectInit, .code objectInit ⟨#[0xb1]⟩ 1 none, .arrayClass .int, .fieldLink RX1 11 "JoinBench$Report" "figures" "[I", .fieldLink RX1 15 "JoinBench$Report" "events" "[I", .fieldLink RX1 18 "JoinBench$Report" "pairs" "[I", .fieldLink RX1 21 "JoinBench$Report" "onDisk" "I"] ++ wsX10)
def wsX1_pairsOrFull : List Cond := .code yX1_pairsOrFull cX1_pairsOrFull 1 (some .int) :: ([.fieldLink RX1 11 "JoinBench$Report" "figures" "[I"] ++ wsX10)
def wsX1_hasPair : List Cond := .code yX1_hasPair cX1_hasPair 2 (some .boolean) :: ([.methodLink RX1 37 yX1_pairsOrFull, .instanceMethod yX1_pairsOrFull, .selects RX1 yX1_pairsOrFull yX1_pairsOrFull, .initialized RX1, .code yX1_pairsOrFull cX1_pairsOrFull 1 (some .int), .fieldLink RX1 11 "JoinBench$Report" "figures" "[I"] ++ wsX10)
def wsX1_leftRowOf : List Cond := .code yX1_leftRowOf cX1_leftRowOf 2 (some .int) :: ([.fieldLink RX1 18 "JoinBench$Report" "pairs" "[I", .methodLink RX1 41 yX1_hasPair, .instanceMethod yX1_hasPair, .selects RX1 yX1_hasPair yX1_hasPair, .initialized RX1, .code yX1_hasPair cX1_hasPair 2 (some .boolean), .methodLink RX1 37 yX1_pairsOrFull, .instanceMethod yX1_pairsOrFull, .selects RX1 yX1_pairsOrFull yX1_pairsOrFull, .code yX1_pairsOrFull cX1_pairsOrFull 1 (some .int), .fieldLink RX1 11 "JoinBench$Report" "figures" "[I"] ++ wsX10)
def wsX1_rightRowOf : List Cond := .code yX1_rightRowOf cX1_rightRowOf 2 (some .int) :: ([.fieldLink RX1 18 "JoinBench$Report" "pairs" "[I", .methodLink RX1 41 yX1_hasPair, .instanceMethod yX1_hasPair, .selects RX1 yX1_hasPair yX1_hasPair, .initialized RX1, .code yX1_hasPair cX1_hasPair 2 (some .boolean), .methodLink RX1 37 yX1_pairsOrFull, .instanceMethod yX1_pairsOrFull, .selects RX1 yX1_pairsOrFull yX1_pairsOrFull, .code yX1_pairsOrFull cX1_pairsOrFull 1 (some .int), .fieldLink RX1 11 "JoinBench$Report" "figures" "[I"] ++ wsX10)
def wsX1_figure : List Cond := .code yX1_figure cX1_figure 2 (some .int) :: ([.fieldLink RX1 11 "JoinBench$Report" "figures" "[I"] ++ wsX10)
def wsX1_ofEvent : List Cond := .code yX1_ofEvent cX1_ofEvent 3 (some .int) :: ([.fieldLink RX1 11 "JoinBench$Report" "figures" "[I", .methodLink RX1 45 Lib.Math.min.name, .static Lib.Math.min.name, .initialized "java/lang/Math", .code Lib.Math.min.name Lib.Math.min.code 2 (some .int), .fieldLink RX1 15 "JoinBench$Report" "events" "[I"] ++ wsX10)
def wsX2_keyOf : List Cond := .code yX2_keyOf cX2_keyOf 2 (some .int) :: ([.fieldLink RX2 35 "JoinBench$Side" "count" "I", .fieldLink RX2 19 "JoinBench$Side" "keys" "[I"] ++ wsX20)
def wsX2_valueOf : List Cond := .code yX2_valueOf cX2_valueOf 2 (some .int) :: ([.fieldLink RX2 35 "JoinBench$Side" "count" "I", .fieldLink RX2 23 "JoinBench$Side" "values" "[I"] ++ wsX20)
def wsX3_init : List Cond := .code yX3_init cX3_init 1 none :: ([.methodLink RX3 3 objectInit, .instanceMethod objectInit, .code objectInit ⟨#[0xb1]⟩ 1 none, .fieldLink RX3 9 "JoinBench$Sizes" "AT_FIRST" "[I", .methodLink RX3 15 ⟨"[I", "clone", "()Ljava/lang/Object;"⟩, .sameMethod "[I" "java/lang/Object" "clone" "()Ljava/lang/Object;", .native ⟨"java/lang/Object", "clone", "()Ljava/lang/Object;"⟩, .instanceMethod ⟨"java/lang/Object", "clone", "()Ljava/lang/Object;"⟩, .selects "[I" ⟨"[I", "clone", "()Ljava/lang/Object;"⟩ ⟨"java/lang/Object", "clone", "()Ljava/lang/Object;"⟩, .classLink RX3 16 "[I", .fieldLink RX3 20 "JoinBench$Sizes" "now" "[I"] ++ wsX30)
def wsX3_change : List Cond := .code yX3_change cX3_change 4 (some .int) :: ([.fieldLink RX3 20 "JoinBench$Sizes" "now" "[I", .fieldLink RX3 23 "JoinBench$Sizes" "LEAST" "[I", .fieldLink RX3 26 "JoinBench$Sizes" "MOST" "[I"] ++ wsX30)
def wsX4_init : List Cond := .code yX4_init cX4_init 1 none :: ([.methodLink RX4 3 objectInit, .instanceMethod objectInit, .code objectInit ⟨#[0xb1]⟩ 1 none, .arrayClass .int, .fieldLink RX4 9 "JoinBench$Table" "keys" "[I", .fieldLink RX4 15 "JoinBench$Table" "values" "[I", .fieldLink RX4 18 "JoinBench$Table" "count" "I"] ++ wsX40)
def wsX4_add : List Cond := .code yX4_add cX4_add 3 (some .int) :: ([.fieldLink RX4 18 "JoinBench$Table" "count" "I", .fieldLink RX4 9 "JoinBench$Table" "keys" "[I", .fieldLink RX4 15 "JoinBench$Table" "values" "[I"] ++ wsX40)
def wsX4_drop : List Cond := .code yX4_drop cX4_drop 2 (some .int) :: ([.fieldLink RX4 18 "JoinBench$Table" "count" "I"] ++ wsX40)
def wsX5_init_r1 : List Cond := [Cond.methodLink RX5 3 objectInit, Cond.instanceMethod objectInit, Cond.code objectInit ⟨#[0xb1]⟩ 1 none, Cond.classLink RX5 9 RX3, Cond.instantiable RX3 1, Cond.initialized RX3, Cond.fieldLink RX5 12 "JoinBench" "sizes" "LJoinBench$Sizes;", Cond.classLink RX5 16 RX4, Cond.instantiable RX4 3, Cond.initialized RX4, Cond.fieldLink RX5 19 "JoinBench" "leftTable" "LJoinBench$Table;", Cond.fieldLink RX5 23 "JoinBench" "rightTable" "LJoinBench$Table;", Cond.classLink RX5 26 RX1, Cond.instantiable RX1 4, Cond.initialized RX1, Cond.fieldLink RX5 29 "JoinBench" "report" "LJoinBench$Report;", Cond.classLink RX5 33 RX0, Cond.instantiable RX0 4, Cond.initialized RX0, Cond.fieldLink RX5 38 "JoinBench" "joiner" "LJoinBench$Joiner;", Cond.methodLink RX5 11 yX3_init, Cond.instanceMethod yX3_init, Cond.code yX3_init cX3_init 1 none, Cond.methodLink RX3 3 objectInit]
def wsX5_init_r2 : List Cond := [Cond.fieldLink RX3 9 "JoinBench$Sizes" "AT_FIRST" "[I", Cond.methodLink RX3 15 ⟨"[I", "clone", "()Ljava/lang/Object;"⟩, Cond.sameMethod "[I" "java/lang/Object" "clone" "()Ljava/lang/Object;", Cond.native ⟨"java/lang/Object", "clone", "()Ljava/lang/Object;"⟩, Cond.instanceMethod ⟨"java/lang/Object", "clone", "()Ljava/lang/Object;"⟩, Cond.selects "[I" ⟨"[I", "clone", "()Ljava/lang/Object;"⟩ ⟨"java/lang/Object", "clone", "()Ljava/lang/Object;"⟩, Cond.classLink RX3 16 "[I", Cond.fieldLink RX3 20 "JoinBench$Sizes" "now" "[I", Cond.methodLink RX5 18 yX4_init, Cond.instanceMethod yX4_init, Cond.code yX4_init cX4_init 1 none, Cond.methodLink RX4 3 objectInit, Cond.arrayClass .int, Cond.fieldLink RX4 9 "JoinBench$Table" "keys" "[I", Cond.fieldLink RX4 15 "JoinBench$Table" "values" "[I", Cond.fieldLink RX4 18 "JoinBench$Table" "count" "I", Cond.methodLink RX5 28 yX1_init, Cond.instanceMethod yX1_init, Cond.code yX1_init cX1_init 1 none, Cond.methodLink RX1 3 objectInit, Cond.fieldLink RX1 11 "JoinBench$Report" "figures" "[I", Cond.fieldLink RX1 15 "JoinBench$Report" "events" "[I", Cond.fieldLink RX1 18 "JoinBench$Report" "pairs" "[I", Cond.fieldLink RX1 21 "JoinBench$Report" "onDisk" "I"]
def wsX5_init_r3 : List Cond := [Cond.methodLink RX5 35 yX0_init, Cond.instanceMethod yX0_init, Cond.code yX0_init cX0_init 3 none, Cond.methodLink RX0 3 objectInit, Cond.fieldLink RX0 9 "JoinBench$Joiner" "sizes" "LJoinBench$Sizes;", Cond.fieldLink RX0 15 "JoinBench$Joiner" "report" "LJoinBench$Report;", Cond.classLink RX0 19 RX2, Cond.instantiable RX2 8, Cond.initialized RX2, Cond.fieldLink RX0 24 "JoinBench$Joiner" "left" "LJoinBench$Side;", Cond.fieldLink RX0 28 "JoinBench$Joiner" "right" "LJoinBench$Side;", Cond.methodLink RX0 21 yX2_init, Cond.instanceMethod yX2_init, Cond.code yX2_init cX2_init 3 none, Cond.methodLink RX2 3 objectInit, Cond.fieldLink RX2 9 "JoinBench$Side" "sizes" "LJoinBench$Sizes;", Cond.fieldLink RX2 15 "JoinBench$Side" "isLeft" "Z", Cond.fieldLink RX2 19 "JoinBench$Side" "keys" "[I", Cond.fieldLink RX2 23 "JoinBench$Side" "values" "[I", Cond.fieldLink RX2 26 "JoinBench$Side" "order" "[I", Cond.fieldLink RX2 29 "JoinBench$Side" "spare" "[I", Cond.fieldLink RX2 32 "JoinBench$Side" "partEnds" "[I", Cond.fieldLink RX2 35 "JoinBench$Side" "count" "I"]
def wsX5_init : List Cond := .code yX5_init cX5_init 1 none :: ((wsX5_init_r1 ++ (wsX5_init_r2 ++ wsX5_init_r3)) ++ wsX30 ++ wsX50 ++ wsX40 ++ wsX10 ++ wsX00 ++ wsX20)
def wsX5_tableOf : List Cond := .code yX5_tableOf cX5_tableOf 2 (some (.object "JoinBench$Table")) :: ([.fieldLink RX5 19 "JoinBench" "leftTable" "LJoinBench$Table;", .fieldLink RX5 23 "JoinBench" "rightTable" "LJoinBench$Table;"] ++ wsX50)
def wsX5_row : List Cond := .code yX5_row cX5_row 5 (some .int) :: ([.methodLink RX5 42 yX5_tableOf, .instanceMethod yX5_tableOf, .selects RX5 yX5_tableOf yX5_tableOf, .initialized RX5, .code yX5_tableOf cX5_tableOf 2 (some (.object "JoinBench$Table")), .fieldLink RX5 19 "JoinBench" "leftTable" "LJoinBench$Table;", .fieldLink RX5 23 "JoinBench" "rightTable" "LJoinBench$Table;", .methodLink RX5 46 yX4_add, .instanceMethod yX4_add, .selects RX4 yX4_add yX4_add, .initialized RX4, .code yX4_add cX4_add 3 (some .int), .fieldLink RX4 18 "JoinBench$Table" "count" "I", .fieldLink RX4 9 "JoinBench$Table" "keys" "[I", .fieldLink RX4 15 "JoinBench$Table" "values" "[I"] ++ wsX50 ++ wsX40)
def wsX5_cut : List Cond := .code yX5_cut cX5_cut 4 (some .int) :: ([.methodLink RX5 42 yX5_tableOf, .instanceMethod yX5_tableOf, .selects RX5 yX5_tableOf yX5_tableOf, .initialized RX5, .code yX5_tableOf cX5_tableOf 2 (some (.object "JoinBench$Table")), .fieldLink RX5 19 "JoinBench" "leftTable" "LJoinBench$Table;", .fieldLink RX5 23 "JoinBench" "rightTable" "LJoinBench$Table;", .methodLink RX5 50 yX4_drop, .instanceMethod yX4_drop, .selects RX4 yX4_drop yX4_drop, .initialized RX4, .code yX4_drop cX4_drop 2 (some .int), .fieldLink RX4 18 "JoinBench$Table" "count" "I"] ++ wsX50 ++ wsX40)
def wsX5_size : List Cond := .code yX5_size cX5_size 3 (some .int) :: ([.fieldLink RX5 12 "JoinBench" "sizes" "LJoinBench$Sizes;", .methodLink RX5 54 yX3_change, .instanceMethod yX3_change, .selects RX3 yX3_change yX3_change, .initialized RX3, .code yX3_change cX3_change 4 (some .int), .fieldLink RX3 20 "JoinBench$Sizes" "now" "[I", .fieldLink RX3 23 "JoinBench$Sizes" "LEAST" "[I", .fieldLink RX3 26 "JoinBench$Sizes" "MOST" "[I"] ++ wsX50 ++ wsX30)
def wsX5_pages : List Cond := .code yX5_pages cX5_pages 3 (some .int) :: ([.fieldLink RX5 12 "JoinBench" "sizes" "LJoinBench$Sizes;", .methodLink RX5 42 yX5_tableOf, .instanceMethod yX5_tableOf, .selects RX5 yX5_tableOf yX5_tableOf, .initialized RX5, .code yX5_tableOf cX5_tableOf 2 (some (.object "JoinBench$Table")), .fieldLink RX5 19 "JoinBench" "leftTable" "LJoinBench$Table;", .fieldLink RX5 23 "JoinBench" "rightTable" "LJoinBench$Table;", .methodLink RX5 61 yX3_pagesFor, .instanceMethod yX3_pagesFor, .selects RX3 yX3_pagesFor yX3_pagesFor, .initialized RX3, .code yX3_pagesFor cX3_pagesFor 3 (some .int), .fieldLink RX3 20 "JoinBench$Sizes" "now" "[I"] ++ wsX50 ++ wsX40 ++ wsX30)
def wsX5_part : List Cond := .code yX5_part cX5_part 3 (some .int) :: ([.fieldLink RX5 12 "JoinBench" "sizes" "LJoinBench$Sizes;", .methodLink RX5 64 yX3_partOf, .instanceMethod yX3_partOf, .selects RX3 yX3_partOf yX3_partOf, .initialized RX3, .code yX3_partOf cX3_partOf 6 (some .int), .constantLong RX3 37 (4294967295), .methodLink RX3 33 yX3_hashOf, .static yX3_hashOf, .code yX3_hashOf cX3_hashOf 3 (some .int), .constant RX3 42 (-1640531527), .constant RX3 43 (1013904243), .constant RX3 44 (-2048144777), .methodLink RX3 39 yX3_parts, .instanceMethod yX3_parts, .selects RX3 yX3_parts yX3_parts, .code yX3_parts cX3_parts 1 (some .int), .fieldLink RX3 20 "JoinBench$Sizes" "now" "[I"] ++ wsX50 ++ wsX30)
def wsX5_join_r1 : List Cond := [Cond.fieldLink RX5 38 "JoinBench" "joiner" "LJoinBench$Joiner;", Cond.fieldLink RX5 19 "JoinBench" "leftTable" "LJoinBench$Table;", Cond.fieldLink RX5 23 "JoinBench" "rightTable" "LJoinBench$Table;", Cond.fieldLink RX5 29 "JoinBench" "report" "LJoinBench$Report;", Cond.methodLink RX5 67 yX0_joinTables, Cond.instanceMethod yX0_joinTables, Cond.selects RX0 yX0_joinTables yX0_joinTables, Cond.initialized RX0, Cond.code yX0_joinTables cX0_joinTables 3 none, Cond.fieldLink RX0 24 "JoinBench$Joiner" "left" "LJoinBench$Side;", Cond.fieldLink RX0 28 "JoinBench$Joiner" "right" "LJoinBench$Side;", Cond.fieldLink RX0 15 "JoinBench$Joiner" "report" "LJoinBench$Report;", Cond.methodLink RX0 31 yX2_copyOf, Cond.instanceMethod yX2_copyOf, Cond.selects RX2 yX2_copyOf yX2_copyOf, Cond.initialized RX2, Cond.code yX2_copyOf cX2_copyOf 3 none, Cond.fieldLink RX2 35 "JoinBench$Side" "count" "I", Cond.fieldLink RX2 19 "JoinBench$Side" "keys" "[I", Cond.methodLink RX2 43 arraycopyName, Cond.native arraycopyName, Cond.static arraycopyName, Cond.initialized "java/lang/System", Cond.fieldLink RX2 23 "JoinBench$Side" "values" "[I"]
def wsX5_join_r2 : List Cond := [Cond.fieldLink RX2 26 "JoinBench$Side" "order" "[I", Cond.methodLink RX0 35 yX1_beginAnew, Cond.instanceMethod yX1_beginAnew, Cond.selects RX1 yX1_beginAnew yX1_beginAnew, Cond.initialized RX1, Cond.code yX1_beginAnew cX1_beginAnew 1 none, Cond.fieldLink RX1 11 "JoinBench$Report" "figures" "[I", Cond.fieldLink RX1 21 "JoinBench$Report" "onDisk" "I", Cond.methodLink RX1 25 yJ7_fill_53178, Cond.static yJ7_fill_53178, Cond.initialized RJ7, Cond.code yJ7_fill_53178 cJ7_fill_53178 4 none, Cond.methodLink RX0 44 yX0_joinRows, Cond.instanceMethod yX0_joinRows, Cond.selects RX0 yX0_joinRows yX0_joinRows, Cond.code yX0_joinRows cX0_joinRows 8 none, Cond.methodLink RX0 48 yX0_kindOf, Cond.instanceMethod yX0_kindOf, Cond.selects RX0 yX0_kindOf yX0_kindOf, Cond.code yX0_kindOf cX0_kindOf 9 (some .int), Cond.methodLink RX0 62 Lib.Math.min.name, Cond.static Lib.Math.min.name, Cond.initialized "java/lang/Math", Cond.code Lib.Math.min.name Lib.Math.min.code 2 (some .int)]
def wsX5_join_r3 : List Cond := [Cond.fieldLink RX0 9 "JoinBench$Joiner" "sizes" "LJoinBench$Sizes;", Cond.methodLink RX0 68 yX3_pagesFor, Cond.instanceMethod yX3_pagesFor, Cond.selects RX3 yX3_pagesFor yX3_pagesFor, Cond.initialized RX3, Cond.code yX3_pagesFor cX3_pagesFor 3 (some .int), Cond.fieldLink RX3 20 "JoinBench$Sizes" "now" "[I", Cond.methodLink RX0 74 yX3_blockPages, Cond.instanceMethod yX3_blockPages, Cond.selects RX3 yX3_blockPages yX3_blockPages, Cond.code yX3_blockPages cX3_blockPages 1 (some .int), Cond.methodLink RX0 78 yX3_partings, Cond.instanceMethod yX3_partings, Cond.selects RX3 yX3_partings yX3_partings, Cond.code yX3_partings cX3_partings 1 (some .int), Cond.methodLink RX0 81 yX2_keyAt, Cond.instanceMethod yX2_keyAt, Cond.selects RX2 yX2_keyAt yX2_keyAt, Cond.code yX2_keyAt cX2_keyAt 2 (some .int), Cond.methodLink RX0 84 yX2_hasOnlyKey, Cond.instanceMethod yX2_hasOnlyKey, Cond.selects RX2 yX2_hasOnlyKey yX2_hasOnlyKey, Cond.code yX2_hasOnlyKey cX2_hasOnlyKey 5 (some .boolean), Cond.methodLink RX2 50 yX2_keyAt]
def wsX5_join_r4 : List Cond := [Cond.methodLink RX0 52 yX1_addEvent, Cond.instanceMethod yX1_addEvent, Cond.selects RX1 yX1_addEvent yX1_addEvent, Cond.code yX1_addEvent cX1_addEvent 8 none, Cond.fieldLink RX1 15 "JoinBench$Report" "events" "[I", Cond.methodLink RX1 31 Lib.Math.max.name, Cond.static Lib.Math.max.name, Cond.code Lib.Math.max.name Lib.Math.max.code 2 (some .int), Cond.methodLink RX0 55 yX0_joinParts, Cond.instanceMethod yX0_joinParts, Cond.selects RX0 yX0_joinParts yX0_joinParts, Cond.methodLink RX0 58 yX0_joinBlocks, Cond.instanceMethod yX0_joinBlocks, Cond.selects RX0 yX0_joinBlocks yX0_joinBlocks, Cond.code yX0_joinBlocks cX0_joinBlocks 8 (some .int), Cond.methodLink RX0 88 yX1_takeMemory, Cond.instanceMethod yX1_takeMemory, Cond.selects RX1 yX1_takeMemory yX1_takeMemory, Cond.code yX1_takeMemory cX1_takeMemory 2 none, Cond.methodLink RX0 92 yX0_passBlocks, Cond.instanceMethod yX0_passBlocks, Cond.selects RX0 yX0_passBlocks yX0_passBlocks, Cond.code yX0_passBlocks cX0_passBlocks 10 (some .int), Cond.methodLink RX0 99 Lib.Math.max.name]
def wsX5_join_r5 : List Cond := [Cond.methodLink RX0 96 yX3_blockRows, Cond.instanceMethod yX3_blockRows, Cond.selects RX3 yX3_blockRows yX3_blockRows, Cond.code yX3_blockRows cX3_blockRows 1 (some .int), Cond.methodLink RX3 29 yX3_blockPages, Cond.methodLink RX0 102 yX0_matchRows, Cond.instanceMethod yX0_matchRows, Cond.selects RX0 yX0_matchRows yX0_matchRows, Cond.code yX0_matchRows cX0_matchRows 11 none, Cond.methodLink RX0 106 yX2_rowAt, Cond.instanceMethod yX2_rowAt, Cond.selects RX2 yX2_rowAt yX2_rowAt, Cond.code yX2_rowAt cX2_rowAt 2 (some .int), Cond.methodLink RX0 113 yX1_addPair, Cond.instanceMethod yX1_addPair, Cond.selects RX1 yX1_addPair yX1_addPair, Cond.code yX1_addPair cX1_addPair 4 none, Cond.fieldLink RX1 18 "JoinBench$Report" "pairs" "[I", Cond.code yX0_joinParts cX0_joinParts 14 none, Cond.methodLink RX0 117 yX3_memory, Cond.instanceMethod yX3_memory, Cond.selects RX3 yX3_memory yX3_memory, Cond.code yX3_memory cX3_memory 1 (some .int), Cond.methodLink RX0 120 yX2_layInParts]
def wsX5_join_r6 : List Cond := [Cond.instanceMethod yX2_layInParts, Cond.selects RX2 yX2_layInParts yX2_layInParts, Cond.code yX2_layInParts cX2_layInParts 9 (some .int), Cond.fieldLink RX2 29 "JoinBench$Side" "spare" "[I", Cond.fieldLink RX2 9 "JoinBench$Side" "sizes" "LJoinBench$Sizes;", Cond.fieldLink RX2 32 "JoinBench$Side" "partEnds" "[I", Cond.methodLink RX2 54 yX3_partOf, Cond.instanceMethod yX3_partOf, Cond.selects RX3 yX3_partOf yX3_partOf, Cond.code yX3_partOf cX3_partOf 6 (some .int), Cond.constantLong RX3 37 (4294967295), Cond.methodLink RX3 33 yX3_hashOf, Cond.static yX3_hashOf, Cond.code yX3_hashOf cX3_hashOf 3 (some .int), Cond.constant RX3 42 (-1640531527), Cond.constant RX3 43 (1013904243), Cond.constant RX3 44 (-2048144777), Cond.methodLink RX3 39 yX3_parts, Cond.instanceMethod yX3_parts, Cond.selects RX3 yX3_parts yX3_parts, Cond.code yX3_parts cX3_parts 1 (some .int), Cond.methodLink RX2 60 yX3_parts, Cond.methodLink RX2 64 yX3_pagesFor, Cond.methodLink RX0 124 yX1_writeToDisk]
def wsX5_join_r7 : List Cond := [Cond.instanceMethod yX1_writeToDisk, Cond.selects RX1 yX1_writeToDisk yX1_writeToDisk, Cond.code yX1_writeToDisk cX1_writeToDisk 2 none, Cond.methodLink RX0 127 yX3_parts, Cond.methodLink RX0 130 yX2_partEnd, Cond.instanceMethod yX2_partEnd, Cond.selects RX2 yX2_partEnd yX2_partEnd, Cond.code yX2_partEnd cX2_partEnd 3 (some .int), Cond.methodLink RX0 133 yX1_freeDisk, Cond.instanceMethod yX1_freeDisk, Cond.selects RX1 yX1_freeDisk yX1_freeDisk, Cond.code yX1_freeDisk cX1_freeDisk 2 none, Cond.methodLink RX5 71 yX1_pairsOrFull, Cond.instanceMethod yX1_pairsOrFull, Cond.selects RX1 yX1_pairsOrFull yX1_pairsOrFull, Cond.code yX1_pairsOrFull cX1_pairsOrFull 1 (some .int)]
def wsX5_join : List Cond := .code yX5_join cX5_join 1 (some .int) :: ((wsX5_join_r1 ++ (wsX5_join_r2 ++ (wsX5_join_r3 ++ (wsX5_join_r4 ++ (wsX5_join_r5 ++ (wsX5_join_r6 ++ wsX5_join_r7)))))) ++ wsX50 ++ wsX00 ++ wsX20 ++ wsX40 ++ wsX10 ++ wsX30)
def wsX5_pair_r1 : List Cond := [Cond.fieldLink RX5 29 "JoinBench" "report" "LJoinBench$Report;", Cond.fieldLink RX5 38 "JoinBench" "joiner" "LJoinBench$Joiner;", Cond.methodLink RX5 75 yX1_hasPair, Cond.instanceMethod yX1_hasPair, Cond.selects RX1 yX1_hasPair yX1_hasPair, Cond.initialized RX1, Cond.code yX1_hasPair cX1_hasPair 2 (some .boolean), Cond.methodLink RX1 37 yX1_pairsOrFull, Cond.instanceMethod yX1_pairsOrFull, Cond.selects RX1 yX1_pairsOrFull yX1_pairsOrFull, Cond.code yX1_pairsOrFull cX1_pairsOrFull 1 (some .int), Cond.fieldLink RX1 11 "JoinBench$Report" "figures" "[I", Cond.methodLink RX5 79 yX1_leftRowOf, Cond.instanceMethod yX1_leftRowOf, Cond.selects RX1 yX1_leftRowOf yX1_leftRowOf, Cond.code yX1_leftRowOf cX1_leftRowOf 2 (some .int), Cond.fieldLink RX1 18 "JoinBench$Report" "pairs" "[I", Cond.methodLink RX1 41 yX1_hasPair, Cond.methodLink RX5 82 yX1_rightRowOf, Cond.instanceMethod yX1_rightRowOf, Cond.selects RX1 yX1_rightRowOf yX1_rightRowOf, Cond.code yX1_rightRowOf cX1_rightRowOf 2 (some .int), Cond.methodLink RX5 89 yX2_keyOf, Cond.instanceMethod yX2_keyOf]
def wsX5_pair_r2 : List Cond := [Cond.selects RX2 yX2_keyOf yX2_keyOf, Cond.initialized RX2, Cond.code yX2_keyOf cX2_keyOf 2 (some .int), Cond.fieldLink RX2 35 "JoinBench$Side" "count" "I", Cond.fieldLink RX2 19 "JoinBench$Side" "keys" "[I", Cond.methodLink RX5 94 yX2_valueOf, Cond.instanceMethod yX2_valueOf, Cond.selects RX2 yX2_valueOf yX2_valueOf, Cond.code yX2_valueOf cX2_valueOf 2 (some .int), Cond.fieldLink RX2 23 "JoinBench$Side" "values" "[I"]
def wsX5_pair : List Cond := .code yX5_pair cX5_pair 5 (some .int) :: ((wsX5_pair_r1 ++ wsX5_pair_r2) ++ wsX50 ++ wsX00 ++ wsX10 ++ wsX20)
def wsX5_told : List Cond := .code yX5_told cX5_told 2 (some .int) :: ([.fieldLink RX5 29 "JoinBench" "report" "LJoinBench$Report;", .methodLink RX5 100 yX1_figure, .instanceMethod yX1_figure, .selects RX1 yX1_figure yX1_figure, .initialized RX1, .code yX1_figure cX1_figure 2 (some .int), .fieldLink RX1 11 "JoinBench$Report" "figures" "[I"] ++ wsX50 ++ wsX10)
def wsX5_event : List Cond := .code yX5_event cX5_event 3 (some .int) :: ([.fieldLink RX5 29 "JoinBench" "report" "LJoinBench$Report;", .methodLink RX5 103 yX1_ofEvent, .instanceMethod yX1_ofEvent, .selects RX1 yX1_ofEvent yX1_ofEvent, .initialized RX1, .code yX1_ofEvent cX1_ofEvent 3 (some .int), .fieldLink RX1 11 "JoinBench$Report" "figures" "[I", .methodLink RX1 45 Lib.Math.min.name, .static Lib.Math.min.name, .initialized "java/lang/Math", .code Lib.Math.min.name Lib.Math.min.code 2 (some .int), .fieldLink RX1 15 "JoinBench$Report" "events" "[I"] ++ wsX50 ++ wsX10)
def wsX6_init : List Cond := .code yX6_init cX6_init 1 none :: ([.methodLink RX6 1 objectInit, .instanceMethod objectInit, .code objectInit ⟨#[0xb1]⟩ 1 none, .arrayClass .int, .fieldLink RX6 7 "JoinBenchModel" "keys" "[I", .fieldLink RX6 13 "JoinBenchModel" "values" "[I", .fieldLink RX6 16 "JoinBenchModel" "many" "[I", .fieldLink RX6 19 "JoinBenchModel" "per" "I", .fieldLink RX6 23 "JoinBenchModel" "memory" "I", .fieldLink RX6 26 "JoinBenchModel" "partings" "I", .fieldLink RX6 29 "JoinBenchModel" "rows" "[I", .fieldLink RX6 32 "JoinBenchModel" "begins" "[I", .fieldLink RX6 35 "JoinBenchModel" "next" "[I", .fieldLink RX6 38 "JoinBenchModel" "pairLeft" "[I", .fieldLink RX6 41 "JoinBenchModel" "pairRight" "[I", .fieldLink RX6 44 "JoinBenchModel" "pairKey" "[I", .fieldLink RX6 47 "JoinBenchModel" "valueLeft" "[I", .fieldLink RX6 50 "JoinBenchModel" "valueRight" "[I", .fieldLink RX6 53 "JoinBenchModel" "level" "I", .fieldLink RX6 56 "JoinBenchModel" "ofKind" "[I", .fieldLink RX6 59 "JoinBenchModel" "eventRow" "[I"] ++ wsX60)
def wsX6_isTable : List Cond := .code yX6_isTable cX6_isTable 1 (some .boolean) :: ([])
def wsX6_row : List Cond := .code yX6_row cX6_row 4 (some .int) :: ([.fieldLink RX6 16 "JoinBenchModel" "many" "[I", .fieldLink RX6 7 "JoinBenchModel" "keys" "[I", .fieldLink RX6 13 "JoinBenchModel" "values" "[I", .methodLink RX6 62 yX6_isTable, .static yX6_isTable, .initialized RX6, .code yX6_isTable cX6_isTable 1 (some .boolean)] ++ wsX60)
def wsX6_cut : List Cond := .code yX6_cut cX6_cut 3 (some .int) :: ([.fieldLink RX6 16 "JoinBenchModel" "many" "[I", .methodLink RX6 62 yX6_isTable, .static yX6_isTable, .initialized RX6, .code yX6_isTable cX6_isTable 1 (some .boolean)] ++ wsX60)
def wsX6_size : List Cond := .code yX6_size cX6_size 5 (some .int) :: ([.fieldLink RX6 19 "JoinBenchModel" "per" "I", .fieldLink RX6 23 "JoinBenchModel" "memory" "I", .fieldLink RX6 26 "JoinBenchModel" "partings" "I"] ++ wsX60)
def wsX6_pagesOf : List Cond := .code yX6_pagesOf cX6_pagesOf 2 (some .int) :: ([.fieldLink RX6 19 "JoinBenchModel" "per" "I"] ++ wsX60)
def wsX6_pages : List Cond := .code yX6_pages cX6_pages 2 (some .int) :: ([.fieldLink RX6 16 "JoinBenchModel" "many" "[I", .methodLink RX6 62 yX6_isTable, .static yX6_isTable, .initialized RX6, .code yX6_isTable cX6_isTable 1 (some .boolean), .methodLink RX6 66 yX6_pagesOf, .instanceMethod yX6_pagesOf, .selects RX6 yX6_pagesOf yX6_pagesOf, .code yX6_pagesOf cX6_pagesOf 2 (some .int), .fieldLink RX6 19 "JoinBenchModel" "per" "I"] ++ wsX60)
def wsX6_partOf : List Cond := .code yX6_partOf cX6_partOf 4 (some .int) :: ([.constant RX6 70 (-1640531527), .constant RX6 71 (1013904243), .constant RX6 72 (-2048144777), .constantLong RX6 73 (4294967295), .fieldLink RX6 23 "JoinBenchModel" "memory" "I"] ++ wsX60)
def wsX6_part : List Cond := .code yX6_part cX6_part 3 (some .int) :: ([.methodLink RX6 75 yX6_partOf, .instanceMethod yX6_partOf, .selects RX6 yX6_partOf yX6_partOf, .initialized RX6, .code yX6_partOf cX6_partOf 4 (some .int), .constant RX6 70 (-1640531527), .constant RX6 71 (1013904243), .constant RX6 72 (-2048144777), .constantLong RX6 73 (4294967295), .fieldLink RX6 23 "JoinBenchModel" "memory" "I"] ++ wsX60)
def wsX6_beginOf : List Cond := .code yX6_beginOf cX6_beginOf 4 (some .int) :: ([.fieldLink RX6 32 "JoinBenchModel" "begins" "[I"] ++ wsX60)
def wsX6_sizeOf : List Cond := .code yX6_sizeOf cX6_sizeOf 4 (some .int) :: ([.methodLink RX6 79 yX6_beginOf, .instanceMethod yX6_beginOf, .selects RX6 yX6_beginOf yX6_beginOf, .initialized RX6, .code yX6_beginOf cX6_beginOf 4 (some .int), .fieldLink RX6 32 "JoinBenchModel" "begins" "[I"] ++ wsX60)
def wsX6_rowAt : List Cond := .code yX6_rowAt cX6_rowAt 5 (some .int) :: ([.fieldLink RX6 29 "JoinBenchModel" "rows" "[I", .methodLink RX6 79 yX6_beginOf, .instanceMethod yX6_beginOf, .selects RX6 yX6_beginOf yX6_beginOf, .initialized RX6, .code yX6_beginOf cX6_beginOf 4 (some .int), .fieldLink RX6 32 "JoinBenchModel" "begins" "[I"] ++ wsX60)
def wsX6_keyAt : List Cond := .code yX6_keyAt cX6_keyAt 5 (some .int) :: ([.fieldLink RX6 7 "JoinBenchModel" "keys" "[I", .methodLink RX6 83 yX6_rowAt, .instanceMethod yX6_rowAt, .selects RX6 yX6_rowAt yX6_rowAt, .initialized RX6, .code yX6_rowAt cX6_rowAt 5 (some .int), .fieldLink RX6 29 "JoinBenchModel" "rows" "[I", .methodLink RX6 79 yX6_beginOf, .instanceMethod yX6_beginOf, .selects RX6 yX6_beginOf yX6_beginOf, .code yX6_beginOf cX6_beginOf 4 (some .int), .fieldLink RX6 32 "JoinBenchModel" "begins" "[I"] ++ wsX60)
def wsX6_isOneKey : List Cond := .code yX6_isOneKey cX6_isOneKey 6 (some .boolean) :: ([.methodLink RX6 87 yX6_keyAt, .instanceMethod yX6_keyAt, .selects RX6 yX6_keyAt yX6_keyAt, .initialized RX6, .code yX6_keyAt cX6_keyAt 5 (some .int), .fieldLink RX6 7 "JoinBenchModel" "keys" "[I", .methodLink RX6 83 yX6_rowAt, .instanceMethod yX6_rowAt, .selects RX6 yX6_rowAt yX6_rowAt, .code yX6_rowAt cX6_rowAt 5 (some .int), .fieldLink RX6 29 "JoinBenchModel" "rows" "[I", .methodLink RX6 79 yX6_beginOf, .instanceMethod yX6_beginOf, .selects RX6 yX6_beginOf yX6_beginOf, .code yX6_beginOf cX6_beginOf 4 (some .int), .fieldLink RX6 32 "JoinBenchModel" "begins" "[I", .methodLink RX6 90 yX6_sizeOf, .instanceMethod yX6_sizeOf, .selects RX6 yX6_sizeOf yX6_sizeOf, .code yX6_sizeOf cX6_sizeOf 4 (some .int)] ++ wsX60)
def wsX6_makePair : List Cond := .code yX6_makePair cX6_makePair 3 none :: ([.fieldLink RX6 93 "JoinBenchModel" "pairs" "I", .fieldLink RX6 38 "JoinBenchModel" "pairLeft" "[I", .fieldLink RX6 41 "JoinBenchModel" "pairRight" "[I", .fieldLink RX6 44 "JoinBenchModel" "pairKey" "[I", .fieldLink RX6 7 "JoinBenchModel" "keys" "[I", .fieldLink RX6 47 "JoinBenchModel" "valueLeft" "[I", .fieldLink RX6 13 "JoinBenchModel" "values" "[I", .fieldLink RX6 50 "JoinBenchModel" "valueRight" "[I"] ++ wsX60)
def wsX6_meet_r1 : List Cond := [Cond.methodLink RX6 90 yX6_sizeOf, Cond.instanceMethod yX6_sizeOf, Cond.selects RX6 yX6_sizeOf yX6_sizeOf, Cond.initialized RX6, Cond.code yX6_sizeOf cX6_sizeOf 4 (some .int), Cond.methodLink RX6 79 yX6_beginOf, Cond.instanceMethod yX6_beginOf, Cond.selects RX6 yX6_beginOf yX6_beginOf, Cond.code yX6_beginOf cX6_beginOf 4 (some .int), Cond.fieldLink RX6 32 "JoinBenchModel" "begins" "[I", Cond.methodLink RX6 87 yX6_keyAt, Cond.instanceMethod yX6_keyAt, Cond.selects RX6 yX6_keyAt yX6_keyAt, Cond.code yX6_keyAt cX6_keyAt 5 (some .int), Cond.fieldLink RX6 7 "JoinBenchModel" "keys" "[I", Cond.methodLink RX6 83 yX6_rowAt, Cond.instanceMethod yX6_rowAt, Cond.selects RX6 yX6_rowAt yX6_rowAt, Cond.code yX6_rowAt cX6_rowAt 5 (some .int), Cond.fieldLink RX6 29 "JoinBenchModel" "rows" "[I", Cond.methodLink RX6 96 yX6_makePair, Cond.instanceMethod yX6_makePair, Cond.selects RX6 yX6_makePair yX6_makePair, Cond.code yX6_makePair cX6_makePair 3 none]
def wsX6_meet_r2 : List Cond := [Cond.fieldLink RX6 93 "JoinBenchModel" "pairs" "I", Cond.fieldLink RX6 38 "JoinBenchModel" "pairLeft" "[I", Cond.fieldLink RX6 41 "JoinBenchModel" "pairRight" "[I", Cond.fieldLink RX6 44 "JoinBenchModel" "pairKey" "[I", Cond.fieldLink RX6 47 "JoinBenchModel" "valueLeft" "[I", Cond.fieldLink RX6 13 "JoinBenchModel" "values" "[I", Cond.fieldLink RX6 50 "JoinBenchModel" "valueRight" "[I"]
def wsX6_meet : List Cond := .code yX6_meet cX6_meet 11 none :: ((wsX6_meet_r1 ++ wsX6_meet_r2) ++ wsX60)
def wsX6_note : List Cond := .code yX6_note cX6_note 6 none :: ([.fieldLink RX6 100 "JoinBenchModel" "events" "I", .fieldLink RX6 59 "JoinBenchModel" "eventRow" "[I", .fieldLink RX6 56 "JoinBenchModel" "ofKind" "[I", .fieldLink RX6 103 "JoinBenchModel" "read" "I", .fieldLink RX6 106 "JoinBenchModel" "mostMemory" "I", .fieldLink RX6 53 "JoinBenchModel" "level" "I", .methodLink RX6 90 yX6_sizeOf, .instanceMethod yX6_sizeOf, .selects RX6 yX6_sizeOf yX6_sizeOf, .initialized RX6, .code yX6_sizeOf cX6_sizeOf 4 (some .int), .methodLink RX6 79 yX6_beginOf, .instanceMethod yX6_beginOf, .selects RX6 yX6_beginOf yX6_beginOf, .code yX6_beginOf cX6_beginOf 4 (some .int), .fieldLink RX6 32 "JoinBenchModel" "begins" "[I"] ++ wsX60)
def wsX6_pagesAt : List Cond := .code yX6_pagesAt cX6_pagesAt 3 (some .int) :: ([.methodLink RX6 90 yX6_sizeOf, .instanceMethod yX6_sizeOf, .selects RX6 yX6_sizeOf yX6_sizeOf, .initialized RX6, .code yX6_sizeOf cX6_sizeOf 4 (some .int), .methodLink RX6 79 yX6_beginOf, .instanceMethod yX6_beginOf, .selects RX6 yX6_beginOf yX6_beginOf, .code yX6_beginOf cX6_beginOf 4 (some .int), .fieldLink RX6 32 "JoinBenchModel" "begins" "[I", .methodLink RX6 66 yX6_pagesOf, .instanceMethod yX6_pagesOf, .selects RX6 yX6_pagesOf yX6_pagesOf, .code yX6_pagesOf cX6_pagesOf 2 (some .int), .fieldLink RX6 19 "JoinBenchModel" "per" "I"] ++ wsX60)
def wsX6_divide_r1 : List Cond := [Cond.fieldLink RX6 23 "JoinBenchModel" "memory" "I", Cond.fieldLink RX6 32 "JoinBenchModel" "begins" "[I", Cond.fieldLink RX6 29 "JoinBenchModel" "rows" "[I", Cond.fieldLink RX6 109 "JoinBenchModel" "written" "I", Cond.fieldLink RX6 115 "JoinBenchModel" "disk" "I", Cond.fieldLink RX6 118 "JoinBenchModel" "mostDisk" "I", Cond.fieldLink RX6 35 "JoinBenchModel" "next" "[I", Cond.methodLink RX6 90 yX6_sizeOf, Cond.instanceMethod yX6_sizeOf, Cond.selects RX6 yX6_sizeOf yX6_sizeOf, Cond.initialized RX6, Cond.code yX6_sizeOf cX6_sizeOf 4 (some .int), Cond.methodLink RX6 79 yX6_beginOf, Cond.instanceMethod yX6_beginOf, Cond.selects RX6 yX6_beginOf yX6_beginOf, Cond.code yX6_beginOf cX6_beginOf 4 (some .int), Cond.methodLink RX6 87 yX6_keyAt, Cond.instanceMethod yX6_keyAt, Cond.selects RX6 yX6_keyAt yX6_keyAt, Cond.code yX6_keyAt cX6_keyAt 5 (some .int), Cond.fieldLink RX6 7 "JoinBenchModel" "keys" "[I", Cond.methodLink RX6 83 yX6_rowAt, Cond.instanceMethod yX6_rowAt, Cond.selects RX6 yX6_rowAt yX6_rowAt]
def wsX6_divide_r2 : List Cond := [Cond.code yX6_rowAt cX6_rowAt 5 (some .int), Cond.methodLink RX6 75 yX6_partOf, Cond.instanceMethod yX6_partOf, Cond.selects RX6 yX6_partOf yX6_partOf, Cond.code yX6_partOf cX6_partOf 4 (some .int), Cond.constant RX6 70 (-1640531527), Cond.constant RX6 71 (1013904243), Cond.constant RX6 72 (-2048144777), Cond.constantLong RX6 73 (4294967295), Cond.methodLink RX6 112 yX6_pagesAt, Cond.instanceMethod yX6_pagesAt, Cond.selects RX6 yX6_pagesAt yX6_pagesAt, Cond.code yX6_pagesAt cX6_pagesAt 3 (some .int), Cond.methodLink RX6 66 yX6_pagesOf, Cond.instanceMethod yX6_pagesOf, Cond.selects RX6 yX6_pagesOf yX6_pagesOf, Cond.code yX6_pagesOf cX6_pagesOf 2 (some .int), Cond.fieldLink RX6 19 "JoinBenchModel" "per" "I"]
def wsX6_divide : List Cond := .code yX6_divide cX6_divide 8 none :: ((wsX6_divide_r1 ++ wsX6_divide_r2) ++ wsX60)
def wsX6_joinSet_r1 : List Cond := [Cond.fieldLink RX6 23 "JoinBenchModel" "memory" "I", Cond.fieldLink RX6 26 "JoinBenchModel" "partings" "I", Cond.fieldLink RX6 19 "JoinBenchModel" "per" "I", Cond.methodLink RX6 90 yX6_sizeOf, Cond.instanceMethod yX6_sizeOf, Cond.selects RX6 yX6_sizeOf yX6_sizeOf, Cond.initialized RX6, Cond.code yX6_sizeOf cX6_sizeOf 4 (some .int), Cond.methodLink RX6 79 yX6_beginOf, Cond.instanceMethod yX6_beginOf, Cond.selects RX6 yX6_beginOf yX6_beginOf, Cond.code yX6_beginOf cX6_beginOf 4 (some .int), Cond.fieldLink RX6 32 "JoinBenchModel" "begins" "[I", Cond.methodLink RX6 121 yX6_note, Cond.instanceMethod yX6_note, Cond.selects RX6 yX6_note yX6_note, Cond.code yX6_note cX6_note 6 none, Cond.fieldLink RX6 100 "JoinBenchModel" "events" "I", Cond.fieldLink RX6 59 "JoinBenchModel" "eventRow" "[I", Cond.fieldLink RX6 56 "JoinBenchModel" "ofKind" "[I", Cond.fieldLink RX6 103 "JoinBenchModel" "read" "I", Cond.fieldLink RX6 106 "JoinBenchModel" "mostMemory" "I", Cond.fieldLink RX6 53 "JoinBenchModel" "level" "I", Cond.methodLink RX6 66 yX6_pagesOf]
def wsX6_joinSet_r2 : List Cond := [Cond.instanceMethod yX6_pagesOf, Cond.selects RX6 yX6_pagesOf yX6_pagesOf, Cond.code yX6_pagesOf cX6_pagesOf 2 (some .int), Cond.methodLink RX6 125 yX6_meet, Cond.instanceMethod yX6_meet, Cond.selects RX6 yX6_meet yX6_meet, Cond.code yX6_meet cX6_meet 11 none, Cond.methodLink RX6 87 yX6_keyAt, Cond.instanceMethod yX6_keyAt, Cond.selects RX6 yX6_keyAt yX6_keyAt, Cond.code yX6_keyAt cX6_keyAt 5 (some .int), Cond.fieldLink RX6 7 "JoinBenchModel" "keys" "[I", Cond.methodLink RX6 83 yX6_rowAt, Cond.instanceMethod yX6_rowAt, Cond.selects RX6 yX6_rowAt yX6_rowAt, Cond.code yX6_rowAt cX6_rowAt 5 (some .int), Cond.fieldLink RX6 29 "JoinBenchModel" "rows" "[I", Cond.methodLink RX6 96 yX6_makePair, Cond.instanceMethod yX6_makePair, Cond.selects RX6 yX6_makePair yX6_makePair, Cond.code yX6_makePair cX6_makePair 3 none, Cond.fieldLink RX6 93 "JoinBenchModel" "pairs" "I", Cond.fieldLink RX6 38 "JoinBenchModel" "pairLeft" "[I", Cond.fieldLink RX6 41 "JoinBenchModel" "pairRight" "[I"]
def wsX6_joinSet_r3 : List Cond := [Cond.fieldLink RX6 44 "JoinBenchModel" "pairKey" "[I", Cond.fieldLink RX6 47 "JoinBenchModel" "valueLeft" "[I", Cond.fieldLink RX6 13 "JoinBenchModel" "values" "[I", Cond.fieldLink RX6 50 "JoinBenchModel" "valueRight" "[I", Cond.methodLink RX6 128 yX6_isOneKey, Cond.instanceMethod yX6_isOneKey, Cond.selects RX6 yX6_isOneKey yX6_isOneKey, Cond.code yX6_isOneKey cX6_isOneKey 6 (some .boolean), Cond.methodLink RX6 132 yX6_divide, Cond.instanceMethod yX6_divide, Cond.selects RX6 yX6_divide yX6_divide, Cond.code yX6_divide cX6_divide 8 none, Cond.fieldLink RX6 109 "JoinBenchModel" "written" "I", Cond.fieldLink RX6 115 "JoinBenchModel" "disk" "I", Cond.fieldLink RX6 118 "JoinBenchModel" "mostDisk" "I", Cond.fieldLink RX6 35 "JoinBenchModel" "next" "[I", Cond.methodLink RX6 75 yX6_partOf, Cond.instanceMethod yX6_partOf, Cond.selects RX6 yX6_partOf yX6_partOf, Cond.code yX6_partOf cX6_partOf 4 (some .int), Cond.constant RX6 70 (-1640531527), Cond.constant RX6 71 (1013904243), Cond.constant RX6 72 (-2048144777), Cond.constantLong RX6 73 (4294967295)]
def wsX6_joinSet_r4 : List Cond := [Cond.methodLink RX6 112 yX6_pagesAt, Cond.instanceMethod yX6_pagesAt, Cond.selects RX6 yX6_pagesAt yX6_pagesAt, Cond.code yX6_pagesAt cX6_pagesAt 3 (some .int)]
def wsX6_joinSet : List Cond := .code yX6_joinSet cX6_joinSet 11 (some .boolean) :: ((wsX6_joinSet_r1 ++ (wsX6_joinSet_r2 ++ (wsX6_joinSet_r3 ++ wsX6_joinSet_r4))) ++ wsX60)
def wsX6_begin : List Cond := .code yX6_begin cX6_begin 3 none :: ([.fieldLink RX6 93 "JoinBenchModel" "pairs" "I", .fieldLink RX6 103 "JoinBenchModel" "read" "I", .fieldLink RX6 109 "JoinBenchModel" "written" "I", .fieldLink RX6 106 "JoinBenchModel" "mostMemory" "I", .fieldLink RX6 115 "JoinBenchModel" "disk" "I", .fieldLink RX6 118 "JoinBenchModel" "mostDisk" "I", .fieldLink RX6 53 "JoinBenchModel" "level" "I", .fieldLink RX6 100 "JoinBenchModel" "events" "I", .fieldLink RX6 56 "JoinBenchModel" "ofKind" "[I", .fieldLink RX6 32 "JoinBenchModel" "begins" "[I", .fieldLink RX6 16 "JoinBenchModel" "many" "[I", .fieldLink RX6 29 "JoinBenchModel" "rows" "[I"] ++ wsX60)
def wsX6_join_r1 : List Cond := [Cond.fieldLink RX6 35 "JoinBenchModel" "next" "[I", Cond.fieldLink RX6 23 "JoinBenchModel" "memory" "I", Cond.fieldLink RX6 115 "JoinBenchModel" "disk" "I", Cond.fieldLink RX6 93 "JoinBenchModel" "pairs" "I", Cond.methodLink RX6 135 yX6_begin, Cond.instanceMethod yX6_begin, Cond.selects RX6 yX6_begin yX6_begin, Cond.initialized RX6, Cond.code yX6_begin cX6_begin 3 none, Cond.fieldLink RX6 103 "JoinBenchModel" "read" "I", Cond.fieldLink RX6 109 "JoinBenchModel" "written" "I", Cond.fieldLink RX6 106 "JoinBenchModel" "mostMemory" "I", Cond.fieldLink RX6 118 "JoinBenchModel" "mostDisk" "I", Cond.fieldLink RX6 53 "JoinBenchModel" "level" "I", Cond.fieldLink RX6 100 "JoinBenchModel" "events" "I", Cond.fieldLink RX6 56 "JoinBenchModel" "ofKind" "[I", Cond.fieldLink RX6 32 "JoinBenchModel" "begins" "[I", Cond.fieldLink RX6 16 "JoinBenchModel" "many" "[I", Cond.fieldLink RX6 29 "JoinBenchModel" "rows" "[I", Cond.methodLink RX6 138 yX6_joinSet, Cond.instanceMethod yX6_joinSet, Cond.selects RX6 yX6_joinSet yX6_joinSet, Cond.code yX6_joinSet cX6_joinSet 11 (some .boolean), Cond.fieldLink RX6 26 "JoinBenchModel" "partings" "I"]
def wsX6_join_r2 : List Cond := [Cond.fieldLink RX6 19 "JoinBenchModel" "per" "I", Cond.methodLink RX6 90 yX6_sizeOf, Cond.instanceMethod yX6_sizeOf, Cond.selects RX6 yX6_sizeOf yX6_sizeOf, Cond.code yX6_sizeOf cX6_sizeOf 4 (some .int), Cond.methodLink RX6 79 yX6_beginOf, Cond.instanceMethod yX6_beginOf, Cond.selects RX6 yX6_beginOf yX6_beginOf, Cond.code yX6_beginOf cX6_beginOf 4 (some .int), Cond.methodLink RX6 121 yX6_note, Cond.instanceMethod yX6_note, Cond.selects RX6 yX6_note yX6_note, Cond.code yX6_note cX6_note 6 none, Cond.fieldLink RX6 59 "JoinBenchModel" "eventRow" "[I", Cond.methodLink RX6 66 yX6_pagesOf, Cond.instanceMethod yX6_pagesOf, Cond.selects RX6 yX6_pagesOf yX6_pagesOf, Cond.code yX6_pagesOf cX6_pagesOf 2 (some .int), Cond.methodLink RX6 125 yX6_meet, Cond.instanceMethod yX6_meet, Cond.selects RX6 yX6_meet yX6_meet, Cond.code yX6_meet cX6_meet 11 none, Cond.methodLink RX6 87 yX6_keyAt, Cond.instanceMethod yX6_keyAt]
def wsX6_join_r3 : List Cond := [Cond.selects RX6 yX6_keyAt yX6_keyAt, Cond.code yX6_keyAt cX6_keyAt 5 (some .int), Cond.fieldLink RX6 7 "JoinBenchModel" "keys" "[I", Cond.methodLink RX6 83 yX6_rowAt, Cond.instanceMethod yX6_rowAt, Cond.selects RX6 yX6_rowAt yX6_rowAt, Cond.code yX6_rowAt cX6_rowAt 5 (some .int), Cond.methodLink RX6 96 yX6_makePair, Cond.instanceMethod yX6_makePair, Cond.selects RX6 yX6_makePair yX6_makePair, Cond.code yX6_makePair cX6_makePair 3 none, Cond.fieldLink RX6 38 "JoinBenchModel" "pairLeft" "[I", Cond.fieldLink RX6 41 "JoinBenchModel" "pairRight" "[I", Cond.fieldLink RX6 44 "JoinBenchModel" "pairKey" "[I", Cond.fieldLink RX6 47 "JoinBenchModel" "valueLeft" "[I", Cond.fieldLink RX6 13 "JoinBenchModel" "values" "[I", Cond.fieldLink RX6 50 "JoinBenchModel" "valueRight" "[I", Cond.methodLink RX6 128 yX6_isOneKey, Cond.instanceMethod yX6_isOneKey, Cond.selects RX6 yX6_isOneKey yX6_isOneKey, Cond.code yX6_isOneKey cX6_isOneKey 6 (some .boolean), Cond.methodLink RX6 132 yX6_divide, Cond.instanceMethod yX6_divide, Cond.selects RX6 yX6_divide yX6_divide]
def wsX6_join_r4 : List Cond := [Cond.code yX6_divide cX6_divide 8 none, Cond.methodLink RX6 75 yX6_partOf, Cond.instanceMethod yX6_partOf, Cond.selects RX6 yX6_partOf yX6_partOf, Cond.code yX6_partOf cX6_partOf 4 (some .int), Cond.constant RX6 70 (-1640531527), Cond.constant RX6 71 (1013904243), Cond.constant RX6 72 (-2048144777), Cond.constantLong RX6 73 (4294967295), Cond.methodLink RX6 112 yX6_pagesAt, Cond.instanceMethod yX6_pagesAt, Cond.selects RX6 yX6_pagesAt yX6_pagesAt, Cond.code yX6_pagesAt cX6_pagesAt 3 (some .int)]
def wsX6_join : List Cond := .code yX6_join cX6_join 3 (some .int) :: ((wsX6_join_r1 ++ (wsX6_join_r2 ++ (wsX6_join_r3 ++ wsX6_join_r4))) ++ wsX60)
def wsX6_pair : List Cond := .code yX6_pair cX6_pair 3 (some .int) :: ([.fieldLink RX6 93 "JoinBenchModel" "pairs" "I", .fieldLink RX6 38 "JoinBenchModel" "pairLeft" "[I", .fieldLink RX6 41 "JoinBenchModel" "pairRight" "[I", .fieldLink RX6 44 "JoinBenchModel" "pairKey" "[I", .fieldLink RX6 47 "JoinBenchModel" "valueLeft" "[I", .fieldLink RX6 50 "JoinBenchModel" "valueRight" "[I"] ++ wsX60)
def wsX6_told : List Cond := .code yX6_told cX6_told 2 (some .int) :: ([.fieldLink RX6 103 "JoinBenchModel" "read" "I", .fieldLink RX6 109 "JoinBenchModel" "written" "I", .fieldLink RX6 106 "JoinBenchModel" "mostMemory" "I", .fieldLink RX6 118 "JoinBenchModel" "mostDisk" "I", .fieldLink RX6 53 "JoinBenchModel" "level" "I", .fieldLink RX6 100 "JoinBenchModel" "events" "I", .fieldLink RX6 56 "JoinBenchModel" "ofKind" "[I", .fieldLink RX6 93 "JoinBenchModel" "pairs" "I"] ++ wsX60)
def wsX6_event : List Cond := .code yX6_event cX6_event 3 (some .int) :: ([.fieldLink RX6 100 "JoinBenchModel" "events" "I", .fieldLink RX6 59 "JoinBenchModel" "eventRow" "[I"] ++ wsX60)
def wsJ9_max_7cf53 : List Cond := .code yJ9_max_7cf53 cJ9_max_7cf53 2 (some .int) :: ([])
def wsJ9_min_7cf53 : List Cond := .code yJ9_min_7cf53 cJ9_min_7cf53 2 (some .int) :: ([])
def wsL_law_r1 : List Cond := [Cond.classLink RL 7 RX5, Cond.instantiable RX5 5, Cond.initialized RX5, Cond.classLink RL 10 RX6, Cond.instantiable RX6 24, Cond.initialized RX6, Cond.methodLink RL 9 yX5_init, Cond.instanceMethod yX5_init, Cond.code yX5_init cX5_init 1 none, Cond.methodLink RX5 3 objectInit, Cond.instanceMethod objectInit, Cond.code objectInit ⟨#[0xb1]⟩ 1 none, Cond.classLink RX5 9 RX3, Cond.instantiable RX3 1, Cond.initialized RX3, Cond.fieldLink RX5 12 "JoinBench" "sizes" "LJoinBench$Sizes;", Cond.classLink RX5 16 RX4, Cond.instantiable RX4 3, Cond.initialized RX4, Cond.fieldLink RX5 19 "JoinBench" "leftTable" "LJoinBench$Table;", Cond.fieldLink RX5 23 "JoinBench" "rightTable" "LJoinBench$Table;", Cond.classLink RX5 26 RX1, Cond.instantiable RX1 4, Cond.initialized RX1]
def wsL_law_r2 : List Cond := [Cond.fieldLink RX5 29 "JoinBench" "report" "LJoinBench$Report;", Cond.classLink RX5 33 RX0, Cond.instantiable RX0 4, Cond.initialized RX0, Cond.fieldLink RX5 38 "JoinBench" "joiner" "LJoinBench$Joiner;", Cond.methodLink RX5 11 yX3_init, Cond.instanceMethod yX3_init, Cond.code yX3_init cX3_init 1 none, Cond.methodLink RX3 3 objectInit, Cond.fieldLink RX3 9 "JoinBench$Sizes" "AT_FIRST" "[I", Cond.methodLink RX3 15 ⟨"[I", "clone", "()Ljava/lang/Object;"⟩, Cond.sameMethod "[I" "java/lang/Object" "clone" "()Ljava/lang/Object;", Cond.native ⟨"java/lang/Object", "clone", "()Ljava/lang/Object;"⟩, Cond.instanceMethod ⟨"java/lang/Object", "clone", "()Ljava/lang/Object;"⟩, Cond.selects "[I" ⟨"[I", "clone", "()Ljava/lang/Object;"⟩ ⟨"java/lang/Object", "clone", "()Ljava/lang/Object;"⟩, Cond.classLink RX3 16 "[I", Cond.fieldLink RX3 20 "JoinBench$Sizes" "now" "[I", Cond.methodLink RX5 18 yX4_init, Cond.instanceMethod yX4_init, Cond.code yX4_init cX4_init 1 none, Cond.methodLink RX4 3 objectInit, Cond.arrayClass .int, Cond.fieldLink RX4 9 "JoinBench$Table" "keys" "[I", Cond.fieldLink RX4 15 "JoinBench$Table" "values" "[I"]
def wsL_law_r3 : List Cond := [Cond.fieldLink RX4 18 "JoinBench$Table" "count" "I", Cond.methodLink RX5 28 yX1_init, Cond.instanceMethod yX1_init, Cond.code yX1_init cX1_init 1 none, Cond.methodLink RX1 3 objectInit, Cond.fieldLink RX1 11 "JoinBench$Report" "figures" "[I", Cond.fieldLink RX1 15 "JoinBench$Report" "events" "[I", Cond.fieldLink RX1 18 "JoinBench$Report" "pairs" "[I", Cond.fieldLink RX1 21 "JoinBench$Report" "onDisk" "I", Cond.methodLink RX5 35 yX0_init, Cond.instanceMethod yX0_init, Cond.code yX0_init cX0_init 3 none, Cond.methodLink RX0 3 objectInit, Cond.fieldLink RX0 9 "JoinBench$Joiner" "sizes" "LJoinBench$Sizes;", Cond.fieldLink RX0 15 "JoinBench$Joiner" "report" "LJoinBench$Report;", Cond.classLink RX0 19 RX2, Cond.instantiable RX2 8, Cond.initialized RX2, Cond.fieldLink RX0 24 "JoinBench$Joiner" "left" "LJoinBench$Side;", Cond.fieldLink RX0 28 "JoinBench$Joiner" "right" "LJoinBench$Side;", Cond.methodLink RX0 21 yX2_init, Cond.instanceMethod yX2_init, Cond.code yX2_init cX2_init 3 none, Cond.methodLink RX2 3 objectInit]
def wsL_law_r4 : List Cond := [Cond.fieldLink RX2 9 "JoinBench$Side" "sizes" "LJoinBench$Sizes;", Cond.fieldLink RX2 15 "JoinBench$Side" "isLeft" "Z", Cond.fieldLink RX2 19 "JoinBench$Side" "keys" "[I", Cond.fieldLink RX2 23 "JoinBench$Side" "values" "[I", Cond.fieldLink RX2 26 "JoinBench$Side" "order" "[I", Cond.fieldLink RX2 29 "JoinBench$Side" "spare" "[I", Cond.fieldLink RX2 32 "JoinBench$Side" "partEnds" "[I", Cond.fieldLink RX2 35 "JoinBench$Side" "count" "I", Cond.methodLink RL 12 yX6_init, Cond.instanceMethod yX6_init, Cond.code yX6_init cX6_init 1 none, Cond.methodLink RX6 1 objectInit, Cond.fieldLink RX6 7 "JoinBenchModel" "keys" "[I", Cond.fieldLink RX6 13 "JoinBenchModel" "values" "[I", Cond.fieldLink RX6 16 "JoinBenchModel" "many" "[I", Cond.fieldLink RX6 19 "JoinBenchModel" "per" "I", Cond.fieldLink RX6 23 "JoinBenchModel" "memory" "I", Cond.fieldLink RX6 26 "JoinBenchModel" "partings" "I", Cond.fieldLink RX6 29 "JoinBenchModel" "rows" "[I", Cond.fieldLink RX6 32 "JoinBenchModel" "begins" "[I", Cond.fieldLink RX6 35 "JoinBenchModel" "next" "[I", Cond.fieldLink RX6 38 "JoinBenchModel" "pairLeft" "[I", Cond.fieldLink RX6 41 "JoinBenchModel" "pairRight" "[I", Cond.fieldLink RX6 44 "JoinBenchModel" "pairKey" "[I"]
def wsL_law_r5 : List Cond := [Cond.fieldLink RX6 47 "JoinBenchModel" "valueLeft" "[I", Cond.fieldLink RX6 50 "JoinBenchModel" "valueRight" "[I", Cond.fieldLink RX6 53 "JoinBenchModel" "level" "I", Cond.fieldLink RX6 56 "JoinBenchModel" "ofKind" "[I", Cond.fieldLink RX6 59 "JoinBenchModel" "eventRow" "[I", Cond.methodLink RL 13 yX5_row, Cond.instanceMethod yX5_row, Cond.selects RX5 yX5_row yX5_row, Cond.code yX5_row cX5_row 5 (some .int), Cond.methodLink RX5 42 yX5_tableOf, Cond.instanceMethod yX5_tableOf, Cond.selects RX5 yX5_tableOf yX5_tableOf, Cond.code yX5_tableOf cX5_tableOf 2 (some (.object "JoinBench$Table")), Cond.methodLink RX5 46 yX4_add, Cond.instanceMethod yX4_add, Cond.selects RX4 yX4_add yX4_add, Cond.code yX4_add cX4_add 3 (some .int), Cond.methodLink RL 17 yX6_row, Cond.instanceMethod yX6_row, Cond.selects RX6 yX6_row yX6_row, Cond.code yX6_row cX6_row 4 (some .int), Cond.methodLink RX6 62 yX6_isTable, Cond.static yX6_isTable, Cond.code yX6_isTable cX6_isTable 1 (some .boolean)]
def wsL_law_r6 : List Cond := [Cond.methodLink RL 18 yX5_cut, Cond.instanceMethod yX5_cut, Cond.selects RX5 yX5_cut yX5_cut, Cond.code yX5_cut cX5_cut 4 (some .int), Cond.methodLink RX5 50 yX4_drop, Cond.instanceMethod yX4_drop, Cond.selects RX4 yX4_drop yX4_drop, Cond.code yX4_drop cX4_drop 2 (some .int), Cond.methodLink RL 22 yX6_cut, Cond.instanceMethod yX6_cut, Cond.selects RX6 yX6_cut yX6_cut, Cond.code yX6_cut cX6_cut 3 (some .int), Cond.methodLink RL 23 yX5_size, Cond.instanceMethod yX5_size, Cond.selects RX5 yX5_size yX5_size, Cond.code yX5_size cX5_size 3 (some .int), Cond.methodLink RX5 54 yX3_change, Cond.instanceMethod yX3_change, Cond.selects RX3 yX3_change yX3_change, Cond.code yX3_change cX3_change 4 (some .int), Cond.fieldLink RX3 23 "JoinBench$Sizes" "LEAST" "[I", Cond.fieldLink RX3 26 "JoinBench$Sizes" "MOST" "[I", Cond.methodLink RL 26 yX6_size, Cond.instanceMethod yX6_size]
def wsL_law_r7 : List Cond := [Cond.selects RX6 yX6_size yX6_size, Cond.code yX6_size cX6_size 5 (some .int), Cond.methodLink RL 27 yX5_pages, Cond.instanceMethod yX5_pages, Cond.selects RX5 yX5_pages yX5_pages, Cond.code yX5_pages cX5_pages 3 (some .int), Cond.methodLink RX5 61 yX3_pagesFor, Cond.instanceMethod yX3_pagesFor, Cond.selects RX3 yX3_pagesFor yX3_pagesFor, Cond.code yX3_pagesFor cX3_pagesFor 3 (some .int), Cond.methodLink RL 31 yX6_pages, Cond.instanceMethod yX6_pages, Cond.selects RX6 yX6_pages yX6_pages, Cond.code yX6_pages cX6_pages 2 (some .int), Cond.methodLink RX6 66 yX6_pagesOf, Cond.instanceMethod yX6_pagesOf, Cond.selects RX6 yX6_pagesOf yX6_pagesOf, Cond.code yX6_pagesOf cX6_pagesOf 2 (some .int), Cond.methodLink RL 32 yX5_part, Cond.instanceMethod yX5_part, Cond.selects RX5 yX5_part yX5_part, Cond.code yX5_part cX5_part 3 (some .int), Cond.methodLink RX5 64 yX3_partOf, Cond.instanceMethod yX3_partOf]
def wsL_law_r8 : List Cond := [Cond.selects RX3 yX3_partOf yX3_partOf, Cond.code yX3_partOf cX3_partOf 6 (some .int), Cond.constantLong RX3 37 (4294967295), Cond.methodLink RX3 33 yX3_hashOf, Cond.static yX3_hashOf, Cond.code yX3_hashOf cX3_hashOf 3 (some .int), Cond.constant RX3 42 (-1640531527), Cond.constant RX3 43 (1013904243), Cond.constant RX3 44 (-2048144777), Cond.methodLink RX3 39 yX3_parts, Cond.instanceMethod yX3_parts, Cond.selects RX3 yX3_parts yX3_parts, Cond.code yX3_parts cX3_parts 1 (some .int), Cond.methodLink RL 35 yX6_part, Cond.instanceMethod yX6_part, Cond.selects RX6 yX6_part yX6_part, Cond.code yX6_part cX6_part 3 (some .int), Cond.methodLink RX6 75 yX6_partOf, Cond.instanceMethod yX6_partOf, Cond.selects RX6 yX6_partOf yX6_partOf, Cond.code yX6_partOf cX6_partOf 4 (some .int), Cond.constant RX6 70 (-1640531527), Cond.constant RX6 71 (1013904243), Cond.constant RX6 72 (-2048144777)]
def wsL_law_r9 : List Cond := [Cond.constantLong RX6 73 (4294967295), Cond.methodLink RL 36 yX5_join, Cond.instanceMethod yX5_join, Cond.selects RX5 yX5_join yX5_join, Cond.code yX5_join cX5_join 1 (some .int), Cond.methodLink RX5 67 yX0_joinTables, Cond.instanceMethod yX0_joinTables, Cond.selects RX0 yX0_joinTables yX0_joinTables, Cond.code yX0_joinTables cX0_joinTables 3 none, Cond.methodLink RX0 31 yX2_copyOf, Cond.instanceMethod yX2_copyOf, Cond.selects RX2 yX2_copyOf yX2_copyOf, Cond.code yX2_copyOf cX2_copyOf 3 none, Cond.methodLink RX2 43 arraycopyName, Cond.native arraycopyName, Cond.static arraycopyName, Cond.initialized "java/lang/System", Cond.methodLink RX0 35 yX1_beginAnew, Cond.instanceMethod yX1_beginAnew, Cond.selects RX1 yX1_beginAnew yX1_beginAnew, Cond.code yX1_beginAnew cX1_beginAnew 1 none, Cond.methodLink RX1 25 yJ7_fill_53178, Cond.static yJ7_fill_53178, Cond.initialized RJ7]
def wsL_law_r10 : List Cond := [Cond.code yJ7_fill_53178 cJ7_fill_53178 4 none, Cond.methodLink RX0 44 yX0_joinRows, Cond.instanceMethod yX0_joinRows, Cond.selects RX0 yX0_joinRows yX0_joinRows, Cond.code yX0_joinRows cX0_joinRows 8 none, Cond.methodLink RX0 48 yX0_kindOf, Cond.instanceMethod yX0_kindOf, Cond.selects RX0 yX0_kindOf yX0_kindOf, Cond.code yX0_kindOf cX0_kindOf 9 (some .int), Cond.methodLink RX0 62 Lib.Math.min.name, Cond.static Lib.Math.min.name, Cond.initialized "java/lang/Math", Cond.code Lib.Math.min.name Lib.Math.min.code 2 (some .int), Cond.methodLink RX0 68 yX3_pagesFor, Cond.methodLink RX0 74 yX3_blockPages, Cond.instanceMethod yX3_blockPages, Cond.selects RX3 yX3_blockPages yX3_blockPages, Cond.code yX3_blockPages cX3_blockPages 1 (some .int), Cond.methodLink RX0 78 yX3_partings, Cond.instanceMethod yX3_partings, Cond.selects RX3 yX3_partings yX3_partings, Cond.code yX3_partings cX3_partings 1 (some .int), Cond.methodLink RX0 81 yX2_keyAt, Cond.instanceMethod yX2_keyAt]
def wsL_law_r11 : List Cond := [Cond.selects RX2 yX2_keyAt yX2_keyAt, Cond.code yX2_keyAt cX2_keyAt 2 (some .int), Cond.methodLink RX0 84 yX2_hasOnlyKey, Cond.instanceMethod yX2_hasOnlyKey, Cond.selects RX2 yX2_hasOnlyKey yX2_hasOnlyKey, Cond.code yX2_hasOnlyKey cX2_hasOnlyKey 5 (some .boolean), Cond.methodLink RX2 50 yX2_keyAt, Cond.methodLink RX0 52 yX1_addEvent, Cond.instanceMethod yX1_addEvent, Cond.selects RX1 yX1_addEvent yX1_addEvent, Cond.code yX1_addEvent cX1_addEvent 8 none, Cond.methodLink RX1 31 Lib.Math.max.name, Cond.static Lib.Math.max.name, Cond.code Lib.Math.max.name Lib.Math.max.code 2 (some .int), Cond.methodLink RX0 55 yX0_joinParts, Cond.instanceMethod yX0_joinParts, Cond.selects RX0 yX0_joinParts yX0_joinParts, Cond.methodLink RX0 58 yX0_joinBlocks, Cond.instanceMethod yX0_joinBlocks, Cond.selects RX0 yX0_joinBlocks yX0_joinBlocks, Cond.code yX0_joinBlocks cX0_joinBlocks 8 (some .int), Cond.methodLink RX0 88 yX1_takeMemory, Cond.instanceMethod yX1_takeMemory, Cond.selects RX1 yX1_takeMemory yX1_takeMemory]
def wsL_law_r12 : List Cond := [Cond.code yX1_takeMemory cX1_takeMemory 2 none, Cond.methodLink RX0 92 yX0_passBlocks, Cond.instanceMethod yX0_passBlocks, Cond.selects RX0 yX0_passBlocks yX0_passBlocks, Cond.code yX0_passBlocks cX0_passBlocks 10 (some .int), Cond.methodLink RX0 99 Lib.Math.max.name, Cond.methodLink RX0 96 yX3_blockRows, Cond.instanceMethod yX3_blockRows, Cond.selects RX3 yX3_blockRows yX3_blockRows, Cond.code yX3_blockRows cX3_blockRows 1 (some .int), Cond.methodLink RX3 29 yX3_blockPages, Cond.methodLink RX0 102 yX0_matchRows, Cond.instanceMethod yX0_matchRows, Cond.selects RX0 yX0_matchRows yX0_matchRows, Cond.code yX0_matchRows cX0_matchRows 11 none, Cond.methodLink RX0 106 yX2_rowAt, Cond.instanceMethod yX2_rowAt, Cond.selects RX2 yX2_rowAt yX2_rowAt, Cond.code yX2_rowAt cX2_rowAt 2 (some .int), Cond.methodLink RX0 113 yX1_addPair, Cond.instanceMethod yX1_addPair, Cond.selects RX1 yX1_addPair yX1_addPair, Cond.code yX1_addPair cX1_addPair 4 none, Cond.code yX0_joinParts cX0_joinParts 14 none]
def wsL_law_r13 : List Cond := [Cond.methodLink RX0 117 yX3_memory, Cond.instanceMethod yX3_memory, Cond.selects RX3 yX3_memory yX3_memory, Cond.code yX3_memory cX3_memory 1 (some .int), Cond.methodLink RX0 120 yX2_layInParts, Cond.instanceMethod yX2_layInParts, Cond.selects RX2 yX2_layInParts yX2_layInParts, Cond.code yX2_layInParts cX2_layInParts 9 (some .int), Cond.methodLink RX2 54 yX3_partOf, Cond.methodLink RX2 60 yX3_parts, Cond.methodLink RX2 64 yX3_pagesFor, Cond.methodLink RX0 124 yX1_writeToDisk, Cond.instanceMethod yX1_writeToDisk, Cond.selects RX1 yX1_writeToDisk yX1_writeToDisk, Cond.code yX1_writeToDisk cX1_writeToDisk 2 none, Cond.methodLink RX0 127 yX3_parts, Cond.methodLink RX0 130 yX2_partEnd, Cond.instanceMethod yX2_partEnd, Cond.selects RX2 yX2_partEnd yX2_partEnd, Cond.code yX2_partEnd cX2_partEnd 3 (some .int), Cond.methodLink RX0 133 yX1_freeDisk, Cond.instanceMethod yX1_freeDisk, Cond.selects RX1 yX1_freeDisk yX1_freeDisk, Cond.code yX1_freeDisk cX1_freeDisk 2 none]
def wsL_law_r14 : List Cond := [Cond.methodLink RX5 71 yX1_pairsOrFull, Cond.instanceMethod yX1_pairsOrFull, Cond.selects RX1 yX1_pairsOrFull yX1_pairsOrFull, Cond.code yX1_pairsOrFull cX1_pairsOrFull 1 (some .int), Cond.methodLink RL 40 yX6_join, Cond.instanceMethod yX6_join, Cond.selects RX6 yX6_join yX6_join, Cond.code yX6_join cX6_join 3 (some .int), Cond.fieldLink RX6 115 "JoinBenchModel" "disk" "I", Cond.fieldLink RX6 93 "JoinBenchModel" "pairs" "I", Cond.methodLink RX6 135 yX6_begin, Cond.instanceMethod yX6_begin, Cond.selects RX6 yX6_begin yX6_begin, Cond.code yX6_begin cX6_begin 3 none, Cond.fieldLink RX6 103 "JoinBenchModel" "read" "I", Cond.fieldLink RX6 109 "JoinBenchModel" "written" "I", Cond.fieldLink RX6 106 "JoinBenchModel" "mostMemory" "I", Cond.fieldLink RX6 118 "JoinBenchModel" "mostDisk" "I", Cond.fieldLink RX6 100 "JoinBenchModel" "events" "I", Cond.methodLink RX6 138 yX6_joinSet, Cond.instanceMethod yX6_joinSet, Cond.selects RX6 yX6_joinSet yX6_joinSet, Cond.code yX6_joinSet cX6_joinSet 11 (some .boolean), Cond.methodLink RX6 90 yX6_sizeOf]
def wsL_law_r15 : List Cond := [Cond.instanceMethod yX6_sizeOf, Cond.selects RX6 yX6_sizeOf yX6_sizeOf, Cond.code yX6_sizeOf cX6_sizeOf 4 (some .int), Cond.methodLink RX6 79 yX6_beginOf, Cond.instanceMethod yX6_beginOf, Cond.selects RX6 yX6_beginOf yX6_beginOf, Cond.code yX6_beginOf cX6_beginOf 4 (some .int), Cond.methodLink RX6 121 yX6_note, Cond.instanceMethod yX6_note, Cond.selects RX6 yX6_note yX6_note, Cond.code yX6_note cX6_note 6 none, Cond.methodLink RX6 125 yX6_meet, Cond.instanceMethod yX6_meet, Cond.selects RX6 yX6_meet yX6_meet, Cond.code yX6_meet cX6_meet 11 none, Cond.methodLink RX6 87 yX6_keyAt, Cond.instanceMethod yX6_keyAt, Cond.selects RX6 yX6_keyAt yX6_keyAt, Cond.code yX6_keyAt cX6_keyAt 5 (some .int), Cond.methodLink RX6 83 yX6_rowAt, Cond.instanceMethod yX6_rowAt, Cond.selects RX6 yX6_rowAt yX6_rowAt, Cond.code yX6_rowAt cX6_rowAt 5 (some .int), Cond.methodLink RX6 96 yX6_makePair]
def wsL_law_r16 : List Cond := [Cond.instanceMethod yX6_makePair, Cond.selects RX6 yX6_makePair yX6_makePair, Cond.code yX6_makePair cX6_makePair 3 none, Cond.methodLink RX6 128 yX6_isOneKey, Cond.instanceMethod yX6_isOneKey, Cond.selects RX6 yX6_isOneKey yX6_isOneKey, Cond.code yX6_isOneKey cX6_isOneKey 6 (some .boolean), Cond.methodLink RX6 132 yX6_divide, Cond.instanceMethod yX6_divide, Cond.selects RX6 yX6_divide yX6_divide, Cond.code yX6_divide cX6_divide 8 none, Cond.methodLink RX6 112 yX6_pagesAt, Cond.instanceMethod yX6_pagesAt, Cond.selects RX6 yX6_pagesAt yX6_pagesAt, Cond.code yX6_pagesAt cX6_pagesAt 3 (some .int), Cond.methodLink RL 41 yX5_pair, Cond.instanceMethod yX5_pair, Cond.selects RX5 yX5_pair yX5_pair, Cond.code yX5_pair cX5_pair 5 (some .int), Cond.methodLink RX5 75 yX1_hasPair, Cond.instanceMethod yX1_hasPair, Cond.selects RX1 yX1_hasPair yX1_hasPair, Cond.code yX1_hasPair cX1_hasPair 2 (some .boolean), Cond.methodLink RX1 37 yX1_pairsOrFull]
def wsL_law_r17 : List Cond := [Cond.methodLink RX5 79 yX1_leftRowOf, Cond.instanceMethod yX1_leftRowOf, Cond.selects RX1 yX1_leftRowOf yX1_leftRowOf, Cond.code yX1_leftRowOf cX1_leftRowOf 2 (some .int), Cond.methodLink RX1 41 yX1_hasPair, Cond.methodLink RX5 82 yX1_rightRowOf, Cond.instanceMethod yX1_rightRowOf, Cond.selects RX1 yX1_rightRowOf yX1_rightRowOf, Cond.code yX1_rightRowOf cX1_rightRowOf 2 (some .int), Cond.methodLink RX5 89 yX2_keyOf, Cond.instanceMethod yX2_keyOf, Cond.selects RX2 yX2_keyOf yX2_keyOf, Cond.code yX2_keyOf cX2_keyOf 2 (some .int), Cond.methodLink RX5 94 yX2_valueOf, Cond.instanceMethod yX2_valueOf, Cond.selects RX2 yX2_valueOf yX2_valueOf, Cond.code yX2_valueOf cX2_valueOf 2 (some .int), Cond.methodLink RL 44 yX6_pair, Cond.instanceMethod yX6_pair, Cond.selects RX6 yX6_pair yX6_pair, Cond.code yX6_pair cX6_pair 3 (some .int), Cond.methodLink RL 45 yX5_told, Cond.instanceMethod yX5_told, Cond.selects RX5 yX5_told yX5_told]
def wsL_law_r18 : List Cond := [Cond.code yX5_told cX5_told 2 (some .int), Cond.methodLink RX5 100 yX1_figure, Cond.instanceMethod yX1_figure, Cond.selects RX1 yX1_figure yX1_figure, Cond.code yX1_figure cX1_figure 2 (some .int), Cond.methodLink RL 48 yX6_told, Cond.instanceMethod yX6_told, Cond.selects RX6 yX6_told yX6_told, Cond.code yX6_told cX6_told 2 (some .int), Cond.methodLink RL 49 yX5_event, Cond.instanceMethod yX5_event, Cond.selects RX5 yX5_event yX5_event, Cond.code yX5_event cX5_event 3 (some .int), Cond.methodLink RX5 103 yX1_ofEvent, Cond.instanceMethod yX1_ofEvent, Cond.selects RX1 yX1_ofEvent yX1_ofEvent, Cond.code yX1_ofEvent cX1_ofEvent 3 (some .int), Cond.methodLink RX1 45 Lib.Math.min.name, Cond.methodLink RL 52 yX6_event, Cond.instanceMethod yX6_event, Cond.selects RX6 yX6_event yX6_event, Cond.code yX6_event cX6_event 3 (some .int)]
def wsL_law : List Cond := (wsL_law_r1 ++ (wsL_law_r2 ++ (wsL_law_r3 ++ (wsL_law_r4 ++ (wsL_law_r5 ++ (wsL_law_r6 ++ (wsL_law_r7 ++ (wsL_law_r8 ++ (wsL_law_r9 ++ (wsL_law_r10 ++ (wsL_law_r11 ++ (wsL_law_r12 ++ (wsL_law_r13 ++ (wsL_law_r14 ++ (wsL_law_r15 ++ (wsL_law_r16 ++ (wsL_law_r17 ++ wsL_law_r18))))))))))))))))) ++ wsX50 ++ wsX60 ++ wsX30 ++ wsX40 ++ wsX10 ++ wsX00 ++ wsX20 ++ ([] : List Cond)
end
section
set_option maxRecDepth 20000 in
theorem ggX0_init_X2_init : GoodIn wsX0_init wsX2_init := goodIn_r _ [13, 14, 2, 3, 15, 16, 17, 18, 19, 20, 21, 22, 23, 28, 29, 30, 31, 32, 33, 34, 35] (by decide +kernel) (by decide +kernel)
set_option maxRecDepth 20000 in
theorem gX0_init_X2_init : GoodIn wsX0_init (wsX2_init) := ggX0_init_X2_init
theorem dX0_init_0 : decode cX0_init 0 = .ok (.aload_n 0, 1) := by decide +kernel
theorem dX0_init_1 : decode cX0_init 1 = .ok (.invokespecial 3, 3) := by decide +kernel
theorem dX0_init_4 : decode cX0_init 4 = .ok (.aload_n 0, 1) := by decide +kernel
theorem dX0_init_5 : decode cX0_init 5 = .ok (.aload_n 1, 1) := by decide +kernel
theorem dX0_init_6 : decode cX0_init 6 = .ok (.putfield 9, 3) := by decide +kernel
theorem dX0_init_9 : decode cX0_init 9 = .ok (.aload_n 0, 1) := by decide +kernel
theorem dX0_init_10 : decode cX0_init 10 = .ok (.aload_n 2, 1) := by decide +kernel
theorem dX0_init_11 : decode cX0_init 11 = .ok (.putfield 15, 3) := by decide +kernel
theorem dX0_init_14 : decode cX0_init 14 = .ok (.aload_n 0, 1) := by decide +kernel
theorem dX0_init_15 : decode cX0_init 15 = .ok (.new 19, 3) := by decide +kernel
theorem dX0_init_18 : decode cX0_init 18 = .ok (.dup, 1) := by decide +kernel
theorem dX0_init_19 : decode cX0_init 19 = .ok (.aload_n 1, 1) := by decide +kernel
theorem dX0_init_20 : decode cX0_init 20 = .ok (.iconst 1, 1) := by decide +kernel
theorem dX0_init_21 : decode cX0_init 21 = .ok (.invokespecial 21, 3) := by decide +kernel
theorem dX0_init_24 : decode cX0_init 24 = .ok (.putfield 24, 3) := by decide +kernel
theorem dX0_init_27 : decode cX0_init 27 = .ok (.aload_n 0, 1) := by decide +kernel
theorem dX0_init_28 : decode cX0_init 28 = .ok (.new 19, 3) := by decide +kernel
theorem dX0_init_31 : decode cX0_init 31 = .ok (.dup, 1) := by decide +kernel
theorem dX0_init_32 : decode cX0_init 32 = .ok (.aload_n 1, 1) := by decide +kernel
theorem dX0_init_33 : decode cX0_init 33 = .ok (.iconst 0, 1) := by decide +kernel
theorem dX0_init_34 : decode cX0_init 34 = .ok (.invokespecial 21, 3) := by decide +kernel
theorem dX0_init_37 : decode cX0_init 37 = .ok (.putfield 28, 3) := by decide +kernel
theorem dX0_init_40 : decode cX0_init 40 = .ok (.return_, 1) := by decide +kernel
set_option maxRecDepth 20000 in
theorem ggX0_joinTables_X2_copyOf : GoodIn wsX0_joinTables wsX2_copyOf := goodIn_r _ [8, 9, 10, 11, 12, 13, 14, 15, 16, 161, 162, 163, 153, 154, 155, 156, 157, 158, 159, 160] (by decide +kernel) (by decide +kernel)
set_option maxRecDepth 20000 in
theorem gX0_joinTables_X2_copyOf : GoodIn wsX0_joinTables (wsV RX0 31 RX2 yX2_copyOf wsX2_copyOf) := goodIn_app (goodIn_of _ (by decide +kernel)) ggX0_joinTables_X2_copyOf
set_option maxRecDepth 20000 in
theorem ggX0_joinTables_X1_beginAnew : GoodIn wsX0_joinTables wsX1_beginAnew := goodIn_r _ [21, 22, 23, 24, 25, 26, 27, 164, 165, 166, 167] (by decide +kernel) (by decide +kernel)
set_option maxRecDepth 20000 in
theorem gX0_joinTables_X1_beginAnew : GoodIn wsX0_joinTables (wsV RX0 35 RX1 yX1_beginAnew wsX1_beginAnew) := goodIn_app (goodIn_of _ (by decide +kernel)) ggX0_joinTables_X1_beginAnew
set_option maxRecDepth 20000 in
theorem ggX0_joinTables_X0_joinRows : GoodIn wsX0_joinTables wsX0_joinRows := goodIn_r _ [32, 3, 33, 34, 35, 31, 36, 37, 38, 39, 40, 41, 1, 2, 42, 43, 44, 45, 46, 47, 48, 49, 50, 51, 52, 53, 54, 55, 56, 57, 58, 7, 59, 9, 10, 16, 60, 61, 62, 63, 64, 65, 66, 67, 20, 68, 22, 69, 70, 71, 72, 73, 74, 75, 76, 77, 78, 79, 80, 81, 82, 83, 84, 85, 86, 87, 88, 89, 90, 91, 92, 93, 94, 95, 96, 97, 98, 99, 100, 101, 102, 103, 104, 105, 106, 107, 108, 109, 110, 111, 112, 113, 114, 115, 116, 117, 118, 119, 120, 121, 122, 123, 124, 125, 126, 127, 128, 129, 130, 131, 132, 133, 134, 135, 136, 137, 138, 139, 23, 140, 141, 142, 143, 144, 28, 29, 30, 145, 146, 147, 148, 149, 150, 151, 152, 168, 164, 165, 166, 167, 153, 154, 155, 156, 157, 158, 159, 160] (by decide +kernel) (by decide +kernel)
set_option maxRecDepth 20000 in
theorem gX0_joinTables_X0_joinRows : GoodIn wsX0_joinTables (wsV RX0 44 RX0 yX0_joinRows wsX0_joinRows) := goodIn_app (goodIn_of _ (by decide +kernel)) ggX0_joinTables_X0_joinRows
theorem dX0_joinTables_0 : decode cX0_joinTables 0 = .ok (.aload_n 0, 1) := by decide +kernel
theorem dX0_joinTables_1 : decode cX0_joinTables 1 = .ok (.getfield 24, 3) := by decide +kernel
theorem dX0_joinTables_4 : decode cX0_joinTables 4 = .ok (.aload_n 1, 1) := by decide +kernel
theorem dX0_joinTables_5 : decode cX0_joinTables 5 = .ok (.invokevirtual 31, 3) := by decide +kernel
theorem dX0_joinTables_8 : decode cX0_joinTables 8 = .ok (.aload_n 0, 1) := by decide +kernel
theorem dX0_joinTables_9 : decode cX0_joinTables 9 = .ok (.getfield 28, 3) := by decide +kernel
theorem dX0_joinTables_12 : decode cX0_joinTables 12 = .ok (.aload_n 2, 1) := by decide +kernel
theorem dX0_joinTables_13 : decode cX0_joinTables 13 = .ok (.invokevirtual 31, 3) := by decide +kernel
theorem dX0_joinTables_16 : decode cX0_joinTables 16 = .ok (.aload_n 0, 1) := by decide +kernel
theorem dX0_joinTables_17 : decode cX0_joinTables 17 = .ok (.getfield 15, 3) := by decide +kernel
theorem dX0_joinTables_20 : decode cX0_joinTables 20 = .ok (.invokevirtual 35, 3) := by decide +kernel
theorem dX0_joinTables_23 : decode cX0_joinTables 23 = .ok (.aload_n 0, 1) := by decide +kernel
theorem dX0_joinTables_24 : decode cX0_joinTables 24 = .ok (.iconst 0, 1) := by decide +kernel
theorem dX0_joinTables_25 : decode cX0_joinTables 25 = .ok (.aload_n 0, 1) := by decide +kernel
theorem dX0_joinTables_26 : decode cX0_joinTables 26 = .ok (.getfield 24, 3) := by decide +kernel
theorem dX0_joinTables_29 : decode cX0_joinTables 29 = .ok (.getfield 40, 3) := by decide +kernel
theorem dX0_joinTables_32 : decode cX0_joinTables 32 = .ok (.iconst 0, 1) := by decide +kernel
theorem dX0_joinTables_33 : decode cX0_joinTables 33 = .ok (.aload_n 0, 1) := by decide +kernel
theorem dX0_joinTables_34 : decode cX0_joinTables 34 = .ok (.getfield 28, 3) := by decide +kernel
theorem dX0_joinTables_37 : decode cX0_joinTables 37 = .ok (.getfield 40, 3) := by decide +kernel
theorem dX0_joinTables_40 : decode cX0_joinTables 40 = .ok (.iconst 0, 1) := by decide +kernel
theorem dX0_joinTables_41 : decode cX0_joinTables 41 = .ok (.invokevirtual 44, 3) := by decide +kernel
theorem dX0_joinTables_44 : decode cX0_joinTables 44 = .ok (.return_, 1) := by decide +kernel
set_option maxRecDepth 20000 in
theorem ggX0_joinRows_X0_kindOf : GoodIn wsX0_joinRows wsX0_kindOf := goodIn_r _ [6, 7, 8, 9, 10, 11, 12, 13, 14, 15, 16, 17, 18, 19, 20, 21, 22, 23, 24, 25, 26, 27, 28, 29, 30, 31, 32, 33, 34, 35, 36, 37, 38, 39, 40, 131, 132, 133, 134, 135, 140, 141, 142, 143, 144, 145, 146, 147] (by decide +kernel) (by decide +kernel)
set_option maxRecDepth 20000 in
theorem gX0_joinRows_X0_kindOf : GoodIn wsX0_joinRows (wsV RX0 48 RX0 yX0_kindOf wsX0_kindOf) := goodIn_app (goodIn_of _ (by decide +kernel)) ggX0_joinRows_X0_kindOf
set_option maxRecDepth 20000 in
theorem ggX0_joinRows_X1_addEvent : GoodIn wsX0_joinRows wsX1_addEvent := goodIn_r _ [45, 46, 47, 48, 49, 9, 50, 136, 137, 138, 139] (by decide +kernel) (by decide +kernel)
set_option maxRecDepth 20000 in
theorem gX0_joinRows_X1_addEvent : GoodIn wsX0_joinRows (wsV RX0 52 RX1 yX1_addEvent wsX1_addEvent) := goodIn_app (goodIn_of _ (by decide +kernel)) ggX0_joinRows_X1_addEvent
set_option maxRecDepth 20000 in
theorem ggX0_joinRows_X0_joinParts : GoodIn wsX0_joinRows wsX0_joinParts := goodIn_r _ [85, 11, 1, 12, 13, 14, 15, 16, 17, 18, 19, 41, 42, 43, 44, 45, 46, 47, 48, 49, 9, 50, 86, 87, 88, 89, 58, 59, 60, 61, 90, 91, 92, 31, 93, 33, 94, 95, 35, 96, 40, 29, 30, 32, 34, 97, 98, 99, 100, 101, 102, 103, 104, 105, 106, 107, 108, 109, 110, 111, 112, 113, 114, 115, 116, 117, 118, 119, 120, 121, 122, 123, 124, 125, 126, 5, 127, 128, 129, 130, 0, 2, 3, 4, 6, 7, 8, 10, 20, 21, 22, 23, 24, 25, 26, 27, 28, 36, 37, 38, 39, 51, 52, 53, 54, 55, 56, 57, 62, 63, 64, 65, 66, 67, 68, 69, 70, 71, 72, 73, 74, 75, 76, 77, 78, 79, 80, 81, 82, 83, 84, 131, 132, 133, 134, 135, 136, 137, 138, 139, 140, 141, 142, 143, 144, 145, 146, 147] (by decide +kernel) (by decide +kernel)
set_option maxRecDepth 20000 in
theorem gX0_joinRows_X0_joinParts : GoodIn wsX0_joinRows (wsV RX0 55 RX0 yX0_joinParts wsX0_joinParts) := goodIn_app (goodIn_of _ (by decide +kernel)) ggX0_joinRows_X0_joinParts
set_option maxRecDepth 20000 in
theorem ggX0_joinRows_X0_joinBlocks : GoodIn wsX0_joinRows wsX0_joinBlocks := goodIn_r _ [57, 11, 1, 7, 8, 9, 10, 12, 13, 14, 15, 16, 17, 18, 19, 20, 21, 22, 23, 58, 59, 60, 44, 61, 46, 48, 49, 50, 62, 63, 64, 5, 65, 66, 67, 68, 69, 70, 71, 72, 73, 74, 75, 28, 29, 30, 31, 32, 33, 34, 35, 76, 77, 78, 79, 80, 81, 82, 83, 84, 131, 132, 133, 134, 135, 136, 137, 138, 139, 140, 141, 142, 143, 144, 145, 146, 147] (by decide +kernel) (by decide +kernel)
set_option maxRecDepth 20000 in
theorem gX0_joinRows_X0_joinBlocks : GoodIn wsX0_joinRows (wsV RX0 58 RX0 yX0_joinBlocks wsX0_joinBlocks) := goodIn_app (goodIn_of _ (by decide +kernel)) ggX0_joinRows_X0_joinBlocks
theorem dX0_joinRows_0 : decode cX0_joinRows 0 = .ok (.aload_n 0, 1) := by decide +kernel
theorem dX0_joinRows_1 : decode cX0_joinRows 1 = .ok (.iload_n 1, 1) := by decide +kernel
theorem dX0_joinRows_2 : decode cX0_joinRows 2 = .ok (.iload_n 2, 1) := by decide +kernel
theorem dX0_joinRows_3 : decode cX0_joinRows 3 = .ok (.iload_n 3, 1) := by decide +kernel
theorem dX0_joinRows_4 : decode cX0_joinRows 4 = .ok (.iload 4, 2) := by decide +kernel
theorem dX0_joinRows_6 : decode cX0_joinRows 6 = .ok (.iload 5, 2) := by decide +kernel
theorem dX0_joinRows_8 : decode cX0_joinRows 8 = .ok (.invokevirtual 48, 3) := by decide +kernel
theorem dX0_joinRows_11 : decode cX0_joinRows 11 = .ok (.istore 6, 2) := by decide +kernel
theorem dX0_joinRows_13 : decode cX0_joinRows 13 = .ok (.iload 6, 2) := by decide +kernel
theorem dX0_joinRows_15 : decode cX0_joinRows 15 = .ok (.ifCond .ne 25, 3) := by decide +kernel
theorem dX0_joinRows_18 : decode cX0_joinRows 18 = .ok (.aload_n 0, 1) := by decide +kernel
theorem dX0_joinRows_19 : decode cX0_joinRows 19 = .ok (.getfield 15, 3) := by decide +kernel
theorem dX0_joinRows_22 : decode cX0_joinRows 22 = .ok (.iload 6, 2) := by decide +kernel
theorem dX0_joinRows_24 : decode cX0_joinRows 24 = .ok (.iload 5, 2) := by decide +kernel
theorem dX0_joinRows_26 : decode cX0_joinRows 26 = .ok (.iload_n 2, 1) := by decide +kernel
theorem dX0_joinRows_27 : decode cX0_joinRows 27 = .ok (.iload_n 1, 1) := by decide +kernel
theorem dX0_joinRows_28 : decode cX0_joinRows 28 = .ok (.isub, 1) := by decide +kernel
theorem dX0_joinRows_29 : decode cX0_joinRows 29 = .ok (.iload 4, 2) := by decide +kernel
theorem dX0_joinRows_31 : decode cX0_joinRows 31 = .ok (.iload_n 3, 1) := by decide +kernel
theorem dX0_joinRows_32 : decode cX0_joinRows 32 = .ok (.isub, 1) := by decide +kernel
theorem dX0_joinRows_33 : decode cX0_joinRows 33 = .ok (.iconst 0, 1) := by decide +kernel
theorem dX0_joinRows_34 : decode cX0_joinRows 34 = .ok (.invokevirtual 52, 3) := by decide +kernel
theorem dX0_joinRows_37 : decode cX0_joinRows 37 = .ok (.goto 54, 3) := by decide +kernel
theorem dX0_joinRows_40 : decode cX0_joinRows 40 = .ok (.iload 6, 2) := by decide +kernel
theorem dX0_joinRows_42 : decode cX0_joinRows 42 = .ok (.iconst 3, 1) := by decide +kernel
theorem dX0_joinRows_43 : decode cX0_joinRows 43 = .ok (.if_icmp .ne 17, 3) := by decide +kernel
theorem dX0_joinRows_46 : decode cX0_joinRows 46 = .ok (.aload_n 0, 1) := by decide +kernel
theorem dX0_joinRows_47 : decode cX0_joinRows 47 = .ok (.iload_n 1, 1) := by decide +kernel
theorem dX0_joinRows_48 : decode cX0_joinRows 48 = .ok (.iload_n 2, 1) := by decide +kernel
theorem dX0_joinRows_49 : decode cX0_joinRows 49 = .ok (.iload_n 3, 1) := by decide +kernel
theorem dX0_joinRows_50 : decode cX0_joinRows 50 = .ok (.iload 4, 2) := by decide +kernel
theorem dX0_joinRows_52 : decode cX0_joinRows 52 = .ok (.iload 5, 2) := by decide +kernel
theorem dX0_joinRows_54 : decode cX0_joinRows 54 = .ok (.invokevirtual 55, 3) := by decide +kernel
theorem dX0_joinRows_57 : decode cX0_joinRows 57 = .ok (.goto 34, 3) := by decide +kernel
theorem dX0_joinRows_60 : decode cX0_joinRows 60 = .ok (.aload_n 0, 1) := by decide +kernel
theorem dX0_joinRows_61 : decode cX0_joinRows 61 = .ok (.iload_n 1, 1) := by decide +kernel
theorem dX0_joinRows_62 : decode cX0_joinRows 62 = .ok (.iload_n 2, 1) := by decide +kernel
theorem dX0_joinRows_63 : decode cX0_joinRows 63 = .ok (.iload_n 3, 1) := by decide +kernel
theorem dX0_joinRows_64 : decode cX0_joinRows 64 = .ok (.iload 4, 2) := by decide +kernel
theorem dX0_joinRows_66 : decode cX0_joinRows 66 = .ok (.invokevirtual 58, 3) := by decide +kernel
theorem dX0_joinRows_69 : decode cX0_joinRows 69 = .ok (.istore 7, 2) := by decide +kernel
theorem dX0_joinRows_71 : decode cX0_joinRows 71 = .ok (.aload_n 0, 1) := by decide +kernel
theorem dX0_joinRows_72 : decode cX0_joinRows 72 = .ok (.getfield 15, 3) := by decide +kernel
theorem dX0_joinRows_75 : decode cX0_joinRows 75 = .ok (.iload 6, 2) := by decide +kernel
theorem dX0_joinRows_77 : decode cX0_joinRows 77 = .ok (.iload 5, 2) := by decide +kernel
theorem dX0_joinRows_79 : decode cX0_joinRows 79 = .ok (.iload_n 2, 1) := by decide +kernel
theorem dX0_joinRows_80 : decode cX0_joinRows 80 = .ok (.iload_n 1, 1) := by decide +kernel
theorem dX0_joinRows_81 : decode cX0_joinRows 81 = .ok (.isub, 1) := by decide +kernel
theorem dX0_joinRows_82 : decode cX0_joinRows 82 = .ok (.iload 4, 2) := by decide +kernel
theorem dX0_joinRows_84 : decode cX0_joinRows 84 = .ok (.iload_n 3, 1) := by decide +kernel
theorem dX0_joinRows_85 : decode cX0_joinRows 85 = .ok (.isub, 1) := by decide +kernel
theorem dX0_joinRows_86 : decode cX0_joinRows 86 = .ok (.iload 7, 2) := by decide +kernel
theorem dX0_joinRows_88 : decode cX0_joinRows 88 = .ok (.invokevirtual 52, 3) := by decide +kernel
theorem dX0_joinRows_91 : decode cX0_joinRows 91 = .ok (.return_, 1) := by decide +kernel
set_option maxRecDepth 20000 in
theorem ggX0_kindOf_X3_pagesFor : GoodIn wsX0_kindOf wsX3_pagesFor := goodIn_r _ [12, 13, 39] (by decide +kernel) (by decide +kernel)
set_option maxRecDepth 20000 in
theorem gX0_kindOf_X3_pagesFor : GoodIn wsX0_kindOf (wsV RX0 68 RX3 yX3_pagesFor wsX3_pagesFor) := goodIn_app (goodIn_of _ (by decide +kernel)) ggX0_kindOf_X3_pagesFor
set_option maxRecDepth 20000 in
theorem ggX0_kindOf_X3_blockPages : GoodIn wsX0_kindOf wsX3_blockPages := goodIn_r _ [17, 13, 39] (by decide +kernel) (by decide +kernel)
set_option maxRecDepth 20000 in
theorem gX0_kindOf_X3_blockPages : GoodIn wsX0_kindOf (wsV RX0 74 RX3 yX3_blockPages wsX3_blockPages) := goodIn_app (goodIn_of _ (by decide +kernel)) ggX0_kindOf_X3_blockPages
set_option maxRecDepth 20000 in
theorem ggX0_kindOf_X3_partings : GoodIn wsX0_kindOf wsX3_partings := goodIn_r _ [21, 13, 39] (by decide +kernel) (by decide +kernel)
set_option maxRecDepth 20000 in
theorem gX0_kindOf_X3_partings : GoodIn wsX0_kindOf (wsV RX0 78 RX3 yX3_partings wsX3_partings) := goodIn_app (goodIn_of _ (by decide +kernel)) ggX0_kindOf_X3_partings
set_option maxRecDepth 20000 in
theorem ggX0_kindOf_X2_keyAt : GoodIn wsX0_kindOf wsX2_keyAt := goodIn_r _ [26, 27, 28, 29, 40, 41, 42, 43, 44, 45, 46, 47] (by decide +kernel) (by decide +kernel)
set_option maxRecDepth 20000 in
theorem gX0_kindOf_X2_keyAt : GoodIn wsX0_kindOf (wsV RX0 81 RX2 yX2_keyAt wsX2_keyAt) := goodIn_app (goodIn_of _ (by decide +kernel)) ggX0_kindOf_X2_keyAt
set_option maxRecDepth 20000 in
theorem ggX0_kindOf_X2_hasOnlyKey : GoodIn wsX0_kindOf wsX2_hasOnlyKey := goodIn_r _ [33, 34, 23, 24, 25, 26, 27, 28, 29, 40, 41, 42, 43, 44, 45, 46, 47] (by decide +kernel) (by decide +kernel)
set_option maxRecDepth 20000 in
theorem gX0_kindOf_X2_hasOnlyKey : GoodIn wsX0_kindOf (wsV RX0 84 RX2 yX2_hasOnlyKey wsX2_hasOnlyKey) := goodIn_app (goodIn_of _ (by decide +kernel)) ggX0_kindOf_X2_hasOnlyKey
theorem dX0_kindOf_0 : decode cX0_kindOf 0 = .ok (.iload_n 2, 1) := by decide +kernel
theorem dX0_kindOf_1 : decode cX0_kindOf 1 = .ok (.iload_n 1, 1) := by decide +kernel
theorem dX0_kindOf_2 : decode cX0_kindOf 2 = .ok (.isub, 1) := by decide +kernel
theorem dX0_kindOf_3 : decode cX0_kindOf 3 = .ok (.iload 4, 2) := by decide +kernel
theorem dX0_kindOf_5 : decode cX0_kindOf 5 = .ok (.iload_n 3, 1) := by decide +kernel
theorem dX0_kindOf_6 : decode cX0_kindOf 6 = .ok (.isub, 1) := by decide +kernel
theorem dX0_kindOf_7 : decode cX0_kindOf 7 = .ok (.invokestatic 62, 3) := by decide +kernel
theorem dX0_kindOf_10 : decode cX0_kindOf 10 = .ok (.istore 6, 2) := by decide +kernel
theorem dX0_kindOf_12 : decode cX0_kindOf 12 = .ok (.iload 6, 2) := by decide +kernel
theorem dX0_kindOf_14 : decode cX0_kindOf 14 = .ok (.ifCond .gt 5, 3) := by decide +kernel
theorem dX0_kindOf_17 : decode cX0_kindOf 17 = .ok (.iconst 0, 1) := by decide +kernel
theorem dX0_kindOf_18 : decode cX0_kindOf 18 = .ok (.ireturn, 1) := by decide +kernel
theorem dX0_kindOf_19 : decode cX0_kindOf 19 = .ok (.aload_n 0, 1) := by decide +kernel
theorem dX0_kindOf_20 : decode cX0_kindOf 20 = .ok (.getfield 9, 3) := by decide +kernel
theorem dX0_kindOf_23 : decode cX0_kindOf 23 = .ok (.iload 6, 2) := by decide +kernel
theorem dX0_kindOf_25 : decode cX0_kindOf 25 = .ok (.invokevirtual 68, 3) := by decide +kernel
theorem dX0_kindOf_28 : decode cX0_kindOf 28 = .ok (.aload_n 0, 1) := by decide +kernel
theorem dX0_kindOf_29 : decode cX0_kindOf 29 = .ok (.getfield 9, 3) := by decide +kernel
theorem dX0_kindOf_32 : decode cX0_kindOf 32 = .ok (.invokevirtual 74, 3) := by decide +kernel
theorem dX0_kindOf_35 : decode cX0_kindOf 35 = .ok (.if_icmp .gt 5, 3) := by decide +kernel
theorem dX0_kindOf_38 : decode cX0_kindOf 38 = .ok (.iconst 1, 1) := by decide +kernel
theorem dX0_kindOf_39 : decode cX0_kindOf 39 = .ok (.ireturn, 1) := by decide +kernel
theorem dX0_kindOf_40 : decode cX0_kindOf 40 = .ok (.iload 5, 2) := by decide +kernel
theorem dX0_kindOf_42 : decode cX0_kindOf 42 = .ok (.aload_n 0, 1) := by decide +kernel
theorem dX0_kindOf_43 : decode cX0_kindOf 43 = .ok (.getfield 9, 3) := by decide +kernel
theorem dX0_kindOf_46 : decode cX0_kindOf 46 = .ok (.invokevirtual 78, 3) := by decide +kernel
theorem dX0_kindOf_49 : decode cX0_kindOf 49 = .ok (.if_icmp .lt 5, 3) := by decide +kernel
theorem dX0_kindOf_52 : decode cX0_kindOf 52 = .ok (.iconst 2, 1) := by decide +kernel
theorem dX0_kindOf_53 : decode cX0_kindOf 53 = .ok (.ireturn, 1) := by decide +kernel
theorem dX0_kindOf_54 : decode cX0_kindOf 54 = .ok (.aload_n 0, 1) := by decide +kernel
theorem dX0_kindOf_55 : decode cX0_kindOf 55 = .ok (.getfield 24, 3) := by decide +kernel
theorem dX0_kindOf_58 : decode cX0_kindOf 58 = .ok (.iload_n 1, 1) := by decide +kernel
theorem dX0_kindOf_59 : decode cX0_kindOf 59 = .ok (.invokevirtual 81, 3) := by decide +kernel
theorem dX0_kindOf_62 : decode cX0_kindOf 62 = .ok (.istore 7, 2) := by decide +kernel
theorem dX0_kindOf_64 : decode cX0_kindOf 64 = .ok (.aload_n 0, 1) := by decide +kernel
theorem dX0_kindOf_65 : decode cX0_kindOf 65 = .ok (.getfield 24, 3) := by decide +kernel
theorem dX0_kindOf_68 : decode cX0_kindOf 68 = .ok (.iload 7, 2) := by decide +kernel
theorem dX0_kindOf_70 : decode cX0_kindOf 70 = .ok (.iload_n 1, 1) := by decide +kernel
theorem dX0_kindOf_71 : decode cX0_kindOf 71 = .ok (.iload_n 2, 1) := by decide +kernel
theorem dX0_kindOf_72 : decode cX0_kindOf 72 = .ok (.invokevirtual 84, 3) := by decide +kernel
theorem dX0_kindOf_75 : decode cX0_kindOf 75 = .ok (.ifCond .eq 22, 3) := by decide +kernel
theorem dX0_kindOf_78 : decode cX0_kindOf 78 = .ok (.aload_n 0, 1) := by decide +kernel
theorem dX0_kindOf_79 : decode cX0_kindOf 79 = .ok (.getfield 28, 3) := by decide +kernel
theorem dX0_kindOf_82 : decode cX0_kindOf 82 = .ok (.iload 7, 2) := by decide +kernel
theorem dX0_kindOf_84 : decode cX0_kindOf 84 = .ok (.iload_n 3, 1) := by decide +kernel
theorem dX0_kindOf_85 : decode cX0_kindOf 85 = .ok (.iload 4, 2) := by decide +kernel
theorem dX0_kindOf_87 : decode cX0_kindOf 87 = .ok (.invokevirtual 84, 3) := by decide +kernel
theorem dX0_kindOf_90 : decode cX0_kindOf 90 = .ok (.ifCond .eq 7, 3) := by decide +kernel
theorem dX0_kindOf_93 : decode cX0_kindOf 93 = .ok (.iconst 1, 1) := by decide +kernel
theorem dX0_kindOf_94 : decode cX0_kindOf 94 = .ok (.goto 4, 3) := by decide +kernel
theorem dX0_kindOf_97 : decode cX0_kindOf 97 = .ok (.iconst 0, 1) := by decide +kernel
theorem dX0_kindOf_98 : decode cX0_kindOf 98 = .ok (.istore 8, 2) := by decide +kernel
theorem dX0_kindOf_100 : decode cX0_kindOf 100 = .ok (.iload 8, 2) := by decide +kernel
theorem dX0_kindOf_102 : decode cX0_kindOf 102 = .ok (.ifCond .eq 7, 3) := by decide +kernel
theorem dX0_kindOf_105 : decode cX0_kindOf 105 = .ok (.iconst 2, 1) := by decide +kernel
theorem dX0_kindOf_106 : decode cX0_kindOf 106 = .ok (.goto 4, 3) := by decide +kernel
theorem dX0_kindOf_109 : decode cX0_kindOf 109 = .ok (.iconst 3, 1) := by decide +kernel
theorem dX0_kindOf_110 : decode cX0_kindOf 110 = .ok (.ireturn, 1) := by decide +kernel
set_option maxRecDepth 20000 in
theorem ggX0_joinBlocks_X3_pagesFor : GoodIn wsX0_joinBlocks wsX3_pagesFor := goodIn_r _ [13, 14, 64] (by decide +kernel) (by decide +kernel)
set_option maxRecDepth 20000 in
theorem gX0_joinBlocks_X3_pagesFor : GoodIn wsX0_joinBlocks (wsV RX0 68 RX3 yX3_pagesFor wsX3_pagesFor) := goodIn_app (goodIn_of _ (by decide +kernel)) ggX0_joinBlocks_X3_pagesFor
set_option maxRecDepth 20000 in
theorem ggX0_joinBlocks_X3_blockPages : GoodIn wsX0_joinBlocks wsX3_blockPages := goodIn_r _ [18, 14, 64] (by decide +kernel) (by decide +kernel)
set_option maxRecDepth 20000 in
theorem gX0_joinBlocks_X3_blockPages : GoodIn wsX0_joinBlocks (wsV RX0 74 RX3 yX3_blockPages wsX3_blockPages) := goodIn_app (goodIn_of _ (by decide +kernel)) ggX0_joinBlocks_X3_blockPages
set_option maxRecDepth 20000 in
theorem ggX0_joinBlocks_X1_takeMemory : GoodIn wsX0_joinBlocks wsX1_takeMemory := goodIn_r _ [23, 24, 25, 26, 5, 27, 65, 66, 67, 68] (by decide +kernel) (by decide +kernel)
set_option maxRecDepth 20000 in
theorem gX0_joinBlocks_X1_takeMemory : GoodIn wsX0_joinBlocks (wsV RX0 88 RX1 yX1_takeMemory wsX1_takeMemory) := goodIn_app (goodIn_of _ (by decide +kernel)) ggX0_joinBlocks_X1_takeMemory
set_option maxRecDepth 20000 in
theorem ggX0_joinBlocks_X0_passBlocks : GoodIn wsX0_joinBlocks wsX0_passBlocks := goodIn_r _ [32, 1, 33, 26, 5, 27, 3, 4, 6, 34, 35, 36, 12, 37, 14, 38, 16, 17, 18, 39, 40, 41, 31, 42, 2, 43, 44, 45, 46, 47, 48, 49, 50, 51, 52, 53, 54, 55, 56, 57, 22, 58, 24, 59, 60, 61, 62, 63, 64, 69, 70, 71, 72, 73, 74, 75, 76, 65, 66, 67, 68] (by decide +kernel) (by decide +kernel)
set_option maxRecDepth 20000 in
theorem gX0_joinBlocks_X0_passBlocks : GoodIn wsX0_joinBlocks (wsV RX0 92 RX0 yX0_passBlocks wsX0_passBlocks) := goodIn_app (goodIn_of _ (by decide +kernel)) ggX0_joinBlocks_X0_passBlocks
theorem dX0_joinBlocks_0 : decode cX0_joinBlocks 0 = .ok (.aload_n 0, 1) := by decide +kernel
theorem dX0_joinBlocks_1 : decode cX0_joinBlocks 1 = .ok (.getfield 9, 3) := by decide +kernel
theorem dX0_joinBlocks_4 : decode cX0_joinBlocks 4 = .ok (.iload_n 2, 1) := by decide +kernel
theorem dX0_joinBlocks_5 : decode cX0_joinBlocks 5 = .ok (.iload_n 1, 1) := by decide +kernel
theorem dX0_joinBlocks_6 : decode cX0_joinBlocks 6 = .ok (.isub, 1) := by decide +kernel
theorem dX0_joinBlocks_7 : decode cX0_joinBlocks 7 = .ok (.invokevirtual 68, 3) := by decide +kernel
theorem dX0_joinBlocks_10 : decode cX0_joinBlocks 10 = .ok (.istore 5, 2) := by decide +kernel
theorem dX0_joinBlocks_12 : decode cX0_joinBlocks 12 = .ok (.aload_n 0, 1) := by decide +kernel
theorem dX0_joinBlocks_13 : decode cX0_joinBlocks 13 = .ok (.getfield 9, 3) := by decide +kernel
theorem dX0_joinBlocks_16 : decode cX0_joinBlocks 16 = .ok (.iload 4, 2) := by decide +kernel
theorem dX0_joinBlocks_18 : decode cX0_joinBlocks 18 = .ok (.iload_n 3, 1) := by decide +kernel
theorem dX0_joinBlocks_19 : decode cX0_joinBlocks 19 = .ok (.isub, 1) := by decide +kernel
theorem dX0_joinBlocks_20 : decode cX0_joinBlocks 20 = .ok (.invokevirtual 68, 3) := by decide +kernel
theorem dX0_joinBlocks_23 : decode cX0_joinBlocks 23 = .ok (.istore 6, 2) := by decide +kernel
theorem dX0_joinBlocks_25 : decode cX0_joinBlocks 25 = .ok (.aload_n 0, 1) := by decide +kernel
theorem dX0_joinBlocks_26 : decode cX0_joinBlocks 26 = .ok (.getfield 15, 3) := by decide +kernel
theorem dX0_joinBlocks_29 : decode cX0_joinBlocks 29 = .ok (.aload_n 0, 1) := by decide +kernel
theorem dX0_joinBlocks_30 : decode cX0_joinBlocks 30 = .ok (.getfield 9, 3) := by decide +kernel
theorem dX0_joinBlocks_33 : decode cX0_joinBlocks 33 = .ok (.invokevirtual 74, 3) := by decide +kernel
theorem dX0_joinBlocks_36 : decode cX0_joinBlocks 36 = .ok (.iload 5, 2) := by decide +kernel
theorem dX0_joinBlocks_38 : decode cX0_joinBlocks 38 = .ok (.iload 6, 2) := by decide +kernel
theorem dX0_joinBlocks_40 : decode cX0_joinBlocks 40 = .ok (.invokestatic 62, 3) := by decide +kernel
theorem dX0_joinBlocks_43 : decode cX0_joinBlocks 43 = .ok (.invokestatic 62, 3) := by decide +kernel
theorem dX0_joinBlocks_46 : decode cX0_joinBlocks 46 = .ok (.iconst 2, 1) := by decide +kernel
theorem dX0_joinBlocks_47 : decode cX0_joinBlocks 47 = .ok (.iadd, 1) := by decide +kernel
theorem dX0_joinBlocks_48 : decode cX0_joinBlocks 48 = .ok (.invokevirtual 88, 3) := by decide +kernel
theorem dX0_joinBlocks_51 : decode cX0_joinBlocks 51 = .ok (.iload 5, 2) := by decide +kernel
theorem dX0_joinBlocks_53 : decode cX0_joinBlocks 53 = .ok (.iload 6, 2) := by decide +kernel
theorem dX0_joinBlocks_55 : decode cX0_joinBlocks 55 = .ok (.if_icmp .gt 31, 3) := by decide +kernel
theorem dX0_joinBlocks_58 : decode cX0_joinBlocks 58 = .ok (.aload_n 0, 1) := by decide +kernel
theorem dX0_joinBlocks_59 : decode cX0_joinBlocks 59 = .ok (.aload_n 0, 1) := by decide +kernel
theorem dX0_joinBlocks_60 : decode cX0_joinBlocks 60 = .ok (.getfield 24, 3) := by decide +kernel
theorem dX0_joinBlocks_63 : decode cX0_joinBlocks 63 = .ok (.iload_n 1, 1) := by decide +kernel
theorem dX0_joinBlocks_64 : decode cX0_joinBlocks 64 = .ok (.iload_n 2, 1) := by decide +kernel
theorem dX0_joinBlocks_65 : decode cX0_joinBlocks 65 = .ok (.aload_n 0, 1) := by decide +kernel
theorem dX0_joinBlocks_66 : decode cX0_joinBlocks 66 = .ok (.getfield 28, 3) := by decide +kernel
theorem dX0_joinBlocks_69 : decode cX0_joinBlocks 69 = .ok (.iload_n 3, 1) := by decide +kernel
theorem dX0_joinBlocks_70 : decode cX0_joinBlocks 70 = .ok (.iload 4, 2) := by decide +kernel
theorem dX0_joinBlocks_72 : decode cX0_joinBlocks 72 = .ok (.invokevirtual 92, 3) := by decide +kernel
theorem dX0_joinBlocks_75 : decode cX0_joinBlocks 75 = .ok (.istore 7, 2) := by decide +kernel
theorem dX0_joinBlocks_77 : decode cX0_joinBlocks 77 = .ok (.iload 5, 2) := by decide +kernel
theorem dX0_joinBlocks_79 : decode cX0_joinBlocks 79 = .ok (.iload 7, 2) := by decide +kernel
theorem dX0_joinBlocks_81 : decode cX0_joinBlocks 81 = .ok (.iload 6, 2) := by decide +kernel
theorem dX0_joinBlocks_83 : decode cX0_joinBlocks 83 = .ok (.imul, 1) := by decide +kernel
theorem dX0_joinBlocks_84 : decode cX0_joinBlocks 84 = .ok (.iadd, 1) := by decide +kernel
theorem dX0_joinBlocks_85 : decode cX0_joinBlocks 85 = .ok (.ireturn, 1) := by decide +kernel
theorem dX0_joinBlocks_86 : decode cX0_joinBlocks 86 = .ok (.aload_n 0, 1) := by decide +kernel
theorem dX0_joinBlocks_87 : decode cX0_joinBlocks 87 = .ok (.aload_n 0, 1) := by decide +kernel
theorem dX0_joinBlocks_88 : decode cX0_joinBlocks 88 = .ok (.getfield 28, 3) := by decide +kernel
theorem dX0_joinBlocks_91 : decode cX0_joinBlocks 91 = .ok (.iload_n 3, 1) := by decide +kernel
theorem dX0_joinBlocks_92 : decode cX0_joinBlocks 92 = .ok (.iload 4, 2) := by decide +kernel
theorem dX0_joinBlocks_94 : decode cX0_joinBlocks 94 = .ok (.aload_n 0, 1) := by decide +kernel
theorem dX0_joinBlocks_95 : decode cX0_joinBlocks 95 = .ok (.getfield 24, 3) := by decide +kernel
theorem dX0_joinBlocks_98 : decode cX0_joinBlocks 98 = .ok (.iload_n 1, 1) := by decide +kernel
theorem dX0_joinBlocks_99 : decode cX0_joinBlocks 99 = .ok (.iload_n 2, 1) := by decide +kernel
theorem dX0_joinBlocks_100 : decode cX0_joinBlocks 100 = .ok (.invokevirtual 92, 3) := by decide +kernel
theorem dX0_joinBlocks_103 : decode cX0_joinBlocks 103 = .ok (.istore 7, 2) := by decide +kernel
theorem dX0_joinBlocks_105 : decode cX0_joinBlocks 105 = .ok (.iload 6, 2) := by decide +kernel
theorem dX0_joinBlocks_107 : decode cX0_joinBlocks 107 = .ok (.iload 7, 2) := by decide +kernel
theorem dX0_joinBlocks_109 : decode cX0_joinBlocks 109 = .ok (.iload 5, 2) := by decide +kernel
theorem dX0_joinBlocks_111 : decode cX0_joinBlocks 111 = .ok (.imul, 1) := by decide +kernel
theorem dX0_joinBlocks_112 : decode cX0_joinBlocks 112 = .ok (.iadd, 1) := by decide +kernel
theorem dX0_joinBlocks_113 : decode cX0_joinBlocks 113 = .ok (.ireturn, 1) := by decide +kernel
set_option maxRecDepth 20000 in
theorem ggX0_passBlocks_X3_blockRows : GoodIn wsX0_passBlocks wsX3_blockRows := goodIn_r _ [13, 14, 15, 16, 17, 12, 18, 48] (by decide +kernel) (by decide +kernel)
set_option maxRecDepth 20000 in
theorem gX0_passBlocks_X3_blockRows : GoodIn wsX0_passBlocks (wsV RX0 96 RX3 yX3_blockRows wsX3_blockRows) := goodIn_app (goodIn_of _ (by decide +kernel)) ggX0_passBlocks_X3_blockRows
set_option maxRecDepth 20000 in
theorem ggX0_passBlocks_X0_matchRows : GoodIn wsX0_passBlocks wsX0_matchRows := goodIn_r _ [23, 24, 25, 26, 27, 28, 29, 30, 31, 32, 33, 34, 35, 36, 37, 38, 39, 40, 41, 42, 43, 49, 50, 51, 52, 53, 54, 55, 56, 44, 45, 46, 47, 57, 58, 59, 60] (by decide +kernel) (by decide +kernel)
set_option maxRecDepth 20000 in
theorem gX0_passBlocks_X0_matchRows : GoodIn wsX0_passBlocks (wsV RX0 102 RX0 yX0_matchRows wsX0_matchRows) := goodIn_app (goodIn_of _ (by decide +kernel)) ggX0_passBlocks_X0_matchRows
theorem dX0_passBlocks_0 : decode cX0_passBlocks 0 = .ok (.iconst 1, 1) := by decide +kernel
theorem dX0_passBlocks_1 : decode cX0_passBlocks 1 = .ok (.aload_n 0, 1) := by decide +kernel
theorem dX0_passBlocks_2 : decode cX0_passBlocks 2 = .ok (.getfield 9, 3) := by decide +kernel
theorem dX0_passBlocks_5 : decode cX0_passBlocks 5 = .ok (.invokevirtual 96, 3) := by decide +kernel
theorem dX0_passBlocks_8 : decode cX0_passBlocks 8 = .ok (.invokestatic 99, 3) := by decide +kernel
theorem dX0_passBlocks_11 : decode cX0_passBlocks 11 = .ok (.istore 7, 2) := by decide +kernel
theorem dX0_passBlocks_13 : decode cX0_passBlocks 13 = .ok (.iconst 0, 1) := by decide +kernel
theorem dX0_passBlocks_14 : decode cX0_passBlocks 14 = .ok (.istore 8, 2) := by decide +kernel
theorem dX0_passBlocks_16 : decode cX0_passBlocks 16 = .ok (.iload_n 2, 1) := by decide +kernel
theorem dX0_passBlocks_17 : decode cX0_passBlocks 17 = .ok (.istore 9, 2) := by decide +kernel
theorem dX0_passBlocks_19 : decode cX0_passBlocks 19 = .ok (.iload 9, 2) := by decide +kernel
theorem dX0_passBlocks_21 : decode cX0_passBlocks 21 = .ok (.iload_n 3, 1) := by decide +kernel
theorem dX0_passBlocks_22 : decode cX0_passBlocks 22 = .ok (.if_icmp .ge 38, 3) := by decide +kernel
theorem dX0_passBlocks_25 : decode cX0_passBlocks 25 = .ok (.aload_n 0, 1) := by decide +kernel
theorem dX0_passBlocks_26 : decode cX0_passBlocks 26 = .ok (.aload_n 1, 1) := by decide +kernel
theorem dX0_passBlocks_27 : decode cX0_passBlocks 27 = .ok (.iload 9, 2) := by decide +kernel
theorem dX0_passBlocks_29 : decode cX0_passBlocks 29 = .ok (.iload 9, 2) := by decide +kernel
theorem dX0_passBlocks_31 : decode cX0_passBlocks 31 = .ok (.iload 7, 2) := by decide +kernel
theorem dX0_passBlocks_33 : decode cX0_passBlocks 33 = .ok (.iadd, 1) := by decide +kernel
theorem dX0_passBlocks_34 : decode cX0_passBlocks 34 = .ok (.iload_n 3, 1) := by decide +kernel
theorem dX0_passBlocks_35 : decode cX0_passBlocks 35 = .ok (.invokestatic 62, 3) := by decide +kernel
theorem dX0_passBlocks_38 : decode cX0_passBlocks 38 = .ok (.aload 4, 2) := by decide +kernel
theorem dX0_passBlocks_40 : decode cX0_passBlocks 40 = .ok (.iload 5, 2) := by decide +kernel
theorem dX0_passBlocks_42 : decode cX0_passBlocks 42 = .ok (.iload 6, 2) := by decide +kernel
theorem dX0_passBlocks_44 : decode cX0_passBlocks 44 = .ok (.invokevirtual 102, 3) := by decide +kernel
theorem dX0_passBlocks_47 : decode cX0_passBlocks 47 = .ok (.iinc 8 1, 3) := by decide +kernel
theorem dX0_passBlocks_50 : decode cX0_passBlocks 50 = .ok (.iload 9, 2) := by decide +kernel
theorem dX0_passBlocks_52 : decode cX0_passBlocks 52 = .ok (.iload 7, 2) := by decide +kernel
theorem dX0_passBlocks_54 : decode cX0_passBlocks 54 = .ok (.iadd, 1) := by decide +kernel
theorem dX0_passBlocks_55 : decode cX0_passBlocks 55 = .ok (.istore 9, 2) := by decide +kernel
theorem dX0_passBlocks_57 : decode cX0_passBlocks 57 = .ok (.goto (-38), 3) := by decide +kernel
theorem dX0_passBlocks_60 : decode cX0_passBlocks 60 = .ok (.iload 8, 2) := by decide +kernel
theorem dX0_passBlocks_62 : decode cX0_passBlocks 62 = .ok (.ireturn, 1) := by decide +kernel
set_option maxRecDepth 20000 in
theorem ggX0_matchRows_X2_keyAt : GoodIn wsX0_matchRows wsX2_keyAt := goodIn_r _ [6, 7, 8, 9, 21, 22, 23, 24, 25, 26, 27, 28] (by decide +kernel) (by decide +kernel)
set_option maxRecDepth 20000 in
theorem gX0_matchRows_X2_keyAt : GoodIn wsX0_matchRows (wsV RX0 81 RX2 yX2_keyAt wsX2_keyAt) := goodIn_app (goodIn_of _ (by decide +kernel)) ggX0_matchRows_X2_keyAt
set_option maxRecDepth 20000 in
theorem ggX0_matchRows_X2_rowAt : GoodIn wsX0_matchRows wsX2_rowAt := goodIn_r _ [13, 7, 9, 21, 22, 23, 24, 25, 26, 27, 28] (by decide +kernel) (by decide +kernel)
set_option maxRecDepth 20000 in
theorem gX0_matchRows_X2_rowAt : GoodIn wsX0_matchRows (wsV RX0 106 RX2 yX2_rowAt wsX2_rowAt) := goodIn_app (goodIn_of _ (by decide +kernel)) ggX0_matchRows_X2_rowAt
set_option maxRecDepth 20000 in
theorem ggX0_matchRows_X1_addPair : GoodIn wsX0_matchRows wsX1_addPair := goodIn_r _ [18, 19, 20, 33, 34, 35, 36] (by decide +kernel) (by decide +kernel)
set_option maxRecDepth 20000 in
theorem gX0_matchRows_X1_addPair : GoodIn wsX0_matchRows (wsV RX0 113 RX1 yX1_addPair wsX1_addPair) := goodIn_app (goodIn_of _ (by decide +kernel)) ggX0_matchRows_X1_addPair
theorem dX0_matchRows_0 : decode cX0_matchRows 0 = .ok (.iload 5, 2) := by decide +kernel
theorem dX0_matchRows_2 : decode cX0_matchRows 2 = .ok (.istore 7, 2) := by decide +kernel
theorem dX0_matchRows_4 : decode cX0_matchRows 4 = .ok (.iload 7, 2) := by decide +kernel
theorem dX0_matchRows_6 : decode cX0_matchRows 6 = .ok (.iload 6, 2) := by decide +kernel
theorem dX0_matchRows_8 : decode cX0_matchRows 8 = .ok (.if_icmp .ge 96, 3) := by decide +kernel
theorem dX0_matchRows_11 : decode cX0_matchRows 11 = .ok (.aload 4, 2) := by decide +kernel
theorem dX0_matchRows_13 : decode cX0_matchRows 13 = .ok (.iload 7, 2) := by decide +kernel
theorem dX0_matchRows_15 : decode cX0_matchRows 15 = .ok (.invokevirtual 81, 3) := by decide +kernel
theorem dX0_matchRows_18 : decode cX0_matchRows 18 = .ok (.istore 8, 2) := by decide +kernel
theorem dX0_matchRows_20 : decode cX0_matchRows 20 = .ok (.aload 4, 2) := by decide +kernel
theorem dX0_matchRows_22 : decode cX0_matchRows 22 = .ok (.iload 7, 2) := by decide +kernel
theorem dX0_matchRows_24 : decode cX0_matchRows 24 = .ok (.invokevirtual 106, 3) := by decide +kernel
theorem dX0_matchRows_27 : decode cX0_matchRows 27 = .ok (.istore 9, 2) := by decide +kernel
theorem dX0_matchRows_29 : decode cX0_matchRows 29 = .ok (.iload_n 2, 1) := by decide +kernel
theorem dX0_matchRows_30 : decode cX0_matchRows 30 = .ok (.istore 10, 2) := by decide +kernel
theorem dX0_matchRows_32 : decode cX0_matchRows 32 = .ok (.iload 10, 2) := by decide +kernel
theorem dX0_matchRows_34 : decode cX0_matchRows 34 = .ok (.iload_n 3, 1) := by decide +kernel
theorem dX0_matchRows_35 : decode cX0_matchRows 35 = .ok (.if_icmp .ge 63, 3) := by decide +kernel
theorem dX0_matchRows_38 : decode cX0_matchRows 38 = .ok (.aload_n 1, 1) := by decide +kernel
theorem dX0_matchRows_39 : decode cX0_matchRows 39 = .ok (.iload 10, 2) := by decide +kernel
theorem dX0_matchRows_41 : decode cX0_matchRows 41 = .ok (.invokevirtual 81, 3) := by decide +kernel
theorem dX0_matchRows_44 : decode cX0_matchRows 44 = .ok (.iload 8, 2) := by decide +kernel
theorem dX0_matchRows_46 : decode cX0_matchRows 46 = .ok (.if_icmp .eq 6, 3) := by decide +kernel
theorem dX0_matchRows_49 : decode cX0_matchRows 49 = .ok (.goto 43, 3) := by decide +kernel
theorem dX0_matchRows_52 : decode cX0_matchRows 52 = .ok (.aload_n 1, 1) := by decide +kernel
theorem dX0_matchRows_53 : decode cX0_matchRows 53 = .ok (.getfield 109, 3) := by decide +kernel
theorem dX0_matchRows_56 : decode cX0_matchRows 56 = .ok (.ifCond .eq 21, 3) := by decide +kernel
theorem dX0_matchRows_59 : decode cX0_matchRows 59 = .ok (.aload_n 0, 1) := by decide +kernel
theorem dX0_matchRows_60 : decode cX0_matchRows 60 = .ok (.getfield 15, 3) := by decide +kernel
theorem dX0_matchRows_63 : decode cX0_matchRows 63 = .ok (.aload_n 1, 1) := by decide +kernel
theorem dX0_matchRows_64 : decode cX0_matchRows 64 = .ok (.iload 10, 2) := by decide +kernel
theorem dX0_matchRows_66 : decode cX0_matchRows 66 = .ok (.invokevirtual 106, 3) := by decide +kernel
theorem dX0_matchRows_69 : decode cX0_matchRows 69 = .ok (.iload 9, 2) := by decide +kernel
theorem dX0_matchRows_71 : decode cX0_matchRows 71 = .ok (.invokevirtual 113, 3) := by decide +kernel
theorem dX0_matchRows_74 : decode cX0_matchRows 74 = .ok (.goto 18, 3) := by decide +kernel
theorem dX0_matchRows_77 : decode cX0_matchRows 77 = .ok (.aload_n 0, 1) := by decide +kernel
theorem dX0_matchRows_78 : decode cX0_matchRows 78 = .ok (.getfield 15, 3) := by decide +kernel
theorem dX0_matchRows_81 : decode cX0_matchRows 81 = .ok (.iload 9, 2) := by decide +kernel
theorem dX0_matchRows_83 : decode cX0_matchRows 83 = .ok (.aload_n 1, 1) := by decide +kernel
theorem dX0_matchRows_84 : decode cX0_matchRows 84 = .ok (.iload 10, 2) := by decide +kernel
theorem dX0_matchRows_86 : decode cX0_matchRows 86 = .ok (.invokevirtual 106, 3) := by decide +kernel
theorem dX0_matchRows_89 : decode cX0_matchRows 89 = .ok (.invokevirtual 113, 3) := by decide +kernel
theorem dX0_matchRows_92 : decode cX0_matchRows 92 = .ok (.iinc 10 1, 3) := by decide +kernel
theorem dX0_matchRows_95 : decode cX0_matchRows 95 = .ok (.goto (-63), 3) := by decide +kernel
theorem dX0_matchRows_98 : decode cX0_matchRows 98 = .ok (.iinc 7 1, 3) := by decide +kernel
theorem dX0_matchRows_101 : decode cX0_matchRows 101 = .ok (.goto (-97), 3) := by decide +kernel
theorem dX0_matchRows_104 : decode cX0_matchRows 104 = .ok (.return_, 1) := by decide +kernel
set_option maxRecDepth 20000 in
theorem ggX0_joinParts_X3_pagesFor : GoodIn wsX0_joinParts wsX3_pagesFor := goodIn_r _ [9, 10, 135] (by decide +kernel) (by decide +kernel)
set_option maxRecDepth 20000 in
theorem gX0_joinParts_X3_pagesFor : GoodIn wsX0_joinParts (wsV RX0 68 RX3 yX3_pagesFor wsX3_pagesFor) := goodIn_app (goodIn_of _ (by decide +kernel)) ggX0_joinParts_X3_pagesFor
set_option maxRecDepth 20000 in
theorem ggX0_joinParts_X1_addEvent : GoodIn wsX0_joinParts wsX1_addEvent := goodIn_r _ [15, 16, 17, 18, 19, 20, 21, 136, 137, 138, 139] (by decide +kernel) (by decide +kernel)
set_option maxRecDepth 20000 in
theorem gX0_joinParts_X1_addEvent : GoodIn wsX0_joinParts (wsV RX0 52 RX1 yX1_addEvent wsX1_addEvent) := goodIn_app (goodIn_of _ (by decide +kernel)) ggX0_joinParts_X1_addEvent
set_option maxRecDepth 20000 in
theorem ggX0_joinParts_X3_memory : GoodIn wsX0_joinParts wsX3_memory := goodIn_r _ [25, 10, 135] (by decide +kernel) (by decide +kernel)
set_option maxRecDepth 20000 in
theorem gX0_joinParts_X3_memory : GoodIn wsX0_joinParts (wsV RX0 117 RX3 yX3_memory wsX3_memory) := goodIn_app (goodIn_of _ (by decide +kernel)) ggX0_joinParts_X3_memory
set_option maxRecDepth 20000 in
theorem ggX0_joinParts_X1_takeMemory : GoodIn wsX0_joinParts wsX1_takeMemory := goodIn_r _ [29, 16, 18, 19, 20, 21, 136, 137, 138, 139] (by decide +kernel) (by decide +kernel)
set_option maxRecDepth 20000 in
theorem gX0_joinParts_X1_takeMemory : GoodIn wsX0_joinParts (wsV RX0 88 RX1 yX1_takeMemory wsX1_takeMemory) := goodIn_app (goodIn_of _ (by decide +kernel)) ggX0_joinParts_X1_takeMemory
set_option maxRecDepth 20000 in
theorem ggX0_joinParts_X2_layInParts : GoodIn wsX0_joinParts wsX2_layInParts := goodIn_r _ [34, 35, 36, 37, 38, 39, 40, 41, 42, 33, 43, 44, 45, 46, 47, 8, 48, 49, 50, 51, 52, 53, 54, 55, 56, 57, 58, 59, 10, 60, 61, 6, 7, 9, 140, 141, 142, 143, 144, 145, 146, 147, 135] (by decide +kernel) (by decide +kernel)
set_option maxRecDepth 20000 in
theorem gX0_joinParts_X2_layInParts : GoodIn wsX0_joinParts (wsV RX0 120 RX2 yX2_layInParts wsX2_layInParts) := goodIn_app (goodIn_of _ (by decide +kernel)) ggX0_joinParts_X2_layInParts
set_option maxRecDepth 20000 in
theorem ggX0_joinParts_X1_writeToDisk : GoodIn wsX0_joinParts wsX1_writeToDisk := goodIn_r _ [65, 16, 66, 18, 19, 20, 21, 136, 137, 138, 139] (by decide +kernel) (by decide +kernel)
set_option maxRecDepth 20000 in
theorem gX0_joinParts_X1_writeToDisk : GoodIn wsX0_joinParts (wsV RX0 124 RX1 yX1_writeToDisk wsX1_writeToDisk) := goodIn_app (goodIn_of _ (by decide +kernel)) ggX0_joinParts_X1_writeToDisk
set_option maxRecDepth 20000 in
theorem ggX0_joinParts_X3_parts : GoodIn wsX0_joinParts wsX3_parts := goodIn_r _ [59, 10, 135] (by decide +kernel) (by decide +kernel)
set_option maxRecDepth 20000 in
theorem gX0_joinParts_X3_parts : GoodIn wsX0_joinParts (wsV RX0 127 RX3 yX3_parts wsX3_parts) := goodIn_app (goodIn_of _ (by decide +kernel)) ggX0_joinParts_X3_parts
set_option maxRecDepth 20000 in
theorem ggX0_joinParts_X2_partEnd : GoodIn wsX0_joinParts wsX2_partEnd := goodIn_r _ [71, 39, 140, 141, 142, 143, 144, 145, 146, 147] (by decide +kernel) (by decide +kernel)
set_option maxRecDepth 20000 in
theorem gX0_joinParts_X2_partEnd : GoodIn wsX0_joinParts (wsV RX0 130 RX2 yX2_partEnd wsX2_partEnd) := goodIn_app (goodIn_of _ (by decide +kernel)) ggX0_joinParts_X2_partEnd
set_option maxRecDepth 20000 in
theorem ggX0_joinParts_X0_joinRows : GoodIn wsX0_joinParts wsX0_joinRows := goodIn_r _ [80, 2, 81, 82, 83, 75, 84, 85, 86, 20, 87, 1, 3, 4, 5, 6, 7, 8, 9, 10, 88, 89, 90, 91, 92, 93, 94, 95, 96, 41, 42, 33, 43, 35, 44, 38, 97, 98, 99, 100, 40, 11, 12, 13, 14, 15, 16, 17, 18, 19, 21, 101, 102, 103, 104, 105, 106, 107, 26, 27, 28, 29, 108, 109, 110, 111, 112, 113, 114, 115, 116, 117, 118, 119, 120, 121, 122, 123, 124, 125, 126, 127, 128, 129, 130, 0, 22, 23, 24, 25, 30, 31, 32, 34, 36, 37, 39, 45, 46, 47, 48, 49, 50, 51, 52, 53, 54, 55, 56, 57, 58, 59, 60, 61, 62, 63, 64, 65, 66, 67, 68, 69, 70, 71, 72, 73, 74, 76, 77, 78, 79, 131, 132, 133, 134, 135, 136, 137, 138, 139, 140, 141, 142, 143, 144, 145, 146, 147] (by decide +kernel) (by decide +kernel)
set_option maxRecDepth 20000 in
theorem gX0_joinParts_X0_joinRows : GoodIn wsX0_joinParts (wsV RX0 44 RX0 yX0_joinRows wsX0_joinRows) := goodIn_app (goodIn_of _ (by decide +kernel)) ggX0_joinParts_X0_joinRows
set_option maxRecDepth 20000 in
theorem ggX0_joinParts_X1_freeDisk : GoodIn wsX0_joinParts wsX1_freeDisk := goodIn_r _ [79, 66, 136, 137, 138, 139] (by decide +kernel) (by decide +kernel)
set_option maxRecDepth 20000 in
theorem gX0_joinParts_X1_freeDisk : GoodIn wsX0_joinParts (wsV RX0 133 RX1 yX1_freeDisk wsX1_freeDisk) := goodIn_app (goodIn_of _ (by decide +kernel)) ggX0_joinParts_X1_freeDisk
theorem dX0_joinParts_0 : decode cX0_joinParts 0 = .ok (.iload_n 2, 1) := by decide +kernel
theorem dX0_joinParts_1 : decode cX0_joinParts 1 = .ok (.iload_n 1, 1) := by decide +kernel
theorem dX0_joinParts_2 : decode cX0_joinParts 2 = .ok (.isub, 1) := by decide +kernel
theorem dX0_joinParts_3 : decode cX0_joinParts 3 = .ok (.istore 6, 2) := by decide +kernel
theorem dX0_joinParts_5 : decode cX0_joinParts 5 = .ok (.iload 4, 2) := by decide +kernel
theorem dX0_joinParts_7 : decode cX0_joinParts 7 = .ok (.iload_n 3, 1) := by decide +kernel
theorem dX0_joinParts_8 : decode cX0_joinParts 8 = .ok (.isub, 1) := by decide +kernel
theorem dX0_joinParts_9 : decode cX0_joinParts 9 = .ok (.istore 7, 2) := by decide +kernel
theorem dX0_joinParts_11 : decode cX0_joinParts 11 = .ok (.aload_n 0, 1) := by decide +kernel
theorem dX0_joinParts_12 : decode cX0_joinParts 12 = .ok (.getfield 9, 3) := by decide +kernel
theorem dX0_joinParts_15 : decode cX0_joinParts 15 = .ok (.iload 6, 2) := by decide +kernel
theorem dX0_joinParts_17 : decode cX0_joinParts 17 = .ok (.invokevirtual 68, 3) := by decide +kernel
theorem dX0_joinParts_20 : decode cX0_joinParts 20 = .ok (.aload_n 0, 1) := by decide +kernel
theorem dX0_joinParts_21 : decode cX0_joinParts 21 = .ok (.getfield 9, 3) := by decide +kernel
theorem dX0_joinParts_24 : decode cX0_joinParts 24 = .ok (.iload 7, 2) := by decide +kernel
theorem dX0_joinParts_26 : decode cX0_joinParts 26 = .ok (.invokevirtual 68, 3) := by decide +kernel
theorem dX0_joinParts_29 : decode cX0_joinParts 29 = .ok (.iadd, 1) := by decide +kernel
theorem dX0_joinParts_30 : decode cX0_joinParts 30 = .ok (.istore 8, 2) := by decide +kernel
theorem dX0_joinParts_32 : decode cX0_joinParts 32 = .ok (.aload_n 0, 1) := by decide +kernel
theorem dX0_joinParts_33 : decode cX0_joinParts 33 = .ok (.getfield 15, 3) := by decide +kernel
theorem dX0_joinParts_36 : decode cX0_joinParts 36 = .ok (.iconst 3, 1) := by decide +kernel
theorem dX0_joinParts_37 : decode cX0_joinParts 37 = .ok (.iload 5, 2) := by decide +kernel
theorem dX0_joinParts_39 : decode cX0_joinParts 39 = .ok (.iload 6, 2) := by decide +kernel
theorem dX0_joinParts_41 : decode cX0_joinParts 41 = .ok (.iload 7, 2) := by decide +kernel
theorem dX0_joinParts_43 : decode cX0_joinParts 43 = .ok (.iload 8, 2) := by decide +kernel
theorem dX0_joinParts_45 : decode cX0_joinParts 45 = .ok (.invokevirtual 52, 3) := by decide +kernel
theorem dX0_joinParts_48 : decode cX0_joinParts 48 = .ok (.aload_n 0, 1) := by decide +kernel
theorem dX0_joinParts_49 : decode cX0_joinParts 49 = .ok (.getfield 15, 3) := by decide +kernel
theorem dX0_joinParts_52 : decode cX0_joinParts 52 = .ok (.aload_n 0, 1) := by decide +kernel
theorem dX0_joinParts_53 : decode cX0_joinParts 53 = .ok (.getfield 9, 3) := by decide +kernel
theorem dX0_joinParts_56 : decode cX0_joinParts 56 = .ok (.invokevirtual 117, 3) := by decide +kernel
theorem dX0_joinParts_59 : decode cX0_joinParts 59 = .ok (.invokevirtual 88, 3) := by decide +kernel
theorem dX0_joinParts_62 : decode cX0_joinParts 62 = .ok (.aload_n 0, 1) := by decide +kernel
theorem dX0_joinParts_63 : decode cX0_joinParts 63 = .ok (.getfield 15, 3) := by decide +kernel
theorem dX0_joinParts_66 : decode cX0_joinParts 66 = .ok (.aload_n 0, 1) := by decide +kernel
theorem dX0_joinParts_67 : decode cX0_joinParts 67 = .ok (.getfield 24, 3) := by decide +kernel
theorem dX0_joinParts_70 : decode cX0_joinParts 70 = .ok (.iload_n 1, 1) := by decide +kernel
theorem dX0_joinParts_71 : decode cX0_joinParts 71 = .ok (.iload_n 2, 1) := by decide +kernel
theorem dX0_joinParts_72 : decode cX0_joinParts 72 = .ok (.iload 5, 2) := by decide +kernel
theorem dX0_joinParts_74 : decode cX0_joinParts 74 = .ok (.invokevirtual 120, 3) := by decide +kernel
theorem dX0_joinParts_77 : decode cX0_joinParts 77 = .ok (.aload_n 0, 1) := by decide +kernel
theorem dX0_joinParts_78 : decode cX0_joinParts 78 = .ok (.getfield 28, 3) := by decide +kernel
theorem dX0_joinParts_81 : decode cX0_joinParts 81 = .ok (.iload_n 3, 1) := by decide +kernel
theorem dX0_joinParts_82 : decode cX0_joinParts 82 = .ok (.iload 4, 2) := by decide +kernel
theorem dX0_joinParts_84 : decode cX0_joinParts 84 = .ok (.iload 5, 2) := by decide +kernel
theorem dX0_joinParts_86 : decode cX0_joinParts 86 = .ok (.invokevirtual 120, 3) := by decide +kernel
theorem dX0_joinParts_89 : decode cX0_joinParts 89 = .ok (.iadd, 1) := by decide +kernel
theorem dX0_joinParts_90 : decode cX0_joinParts 90 = .ok (.invokevirtual 124, 3) := by decide +kernel
theorem dX0_joinParts_93 : decode cX0_joinParts 93 = .ok (.iload_n 1, 1) := by decide +kernel
theorem dX0_joinParts_94 : decode cX0_joinParts 94 = .ok (.istore 9, 2) := by decide +kernel
theorem dX0_joinParts_96 : decode cX0_joinParts 96 = .ok (.iload_n 3, 1) := by decide +kernel
theorem dX0_joinParts_97 : decode cX0_joinParts 97 = .ok (.istore 10, 2) := by decide +kernel
theorem dX0_joinParts_99 : decode cX0_joinParts 99 = .ok (.iconst 0, 1) := by decide +kernel
theorem dX0_joinParts_100 : decode cX0_joinParts 100 = .ok (.istore 11, 2) := by decide +kernel
theorem dX0_joinParts_102 : decode cX0_joinParts 102 = .ok (.iload 11, 2) := by decide +kernel
theorem dX0_joinParts_104 : decode cX0_joinParts 104 = .ok (.aload_n 0, 1) := by decide +kernel
theorem dX0_joinParts_105 : decode cX0_joinParts 105 = .ok (.getfield 9, 3) := by decide +kernel
theorem dX0_joinParts_108 : decode cX0_joinParts 108 = .ok (.invokevirtual 127, 3) := by decide +kernel
theorem dX0_joinParts_111 : decode cX0_joinParts 111 = .ok (.if_icmp .ge 91, 3) := by decide +kernel
theorem dX0_joinParts_114 : decode cX0_joinParts 114 = .ok (.aload_n 0, 1) := by decide +kernel
theorem dX0_joinParts_115 : decode cX0_joinParts 115 = .ok (.getfield 24, 3) := by decide +kernel
theorem dX0_joinParts_118 : decode cX0_joinParts 118 = .ok (.iload 5, 2) := by decide +kernel
theorem dX0_joinParts_120 : decode cX0_joinParts 120 = .ok (.iload 11, 2) := by decide +kernel
theorem dX0_joinParts_122 : decode cX0_joinParts 122 = .ok (.invokevirtual 130, 3) := by decide +kernel
theorem dX0_joinParts_125 : decode cX0_joinParts 125 = .ok (.istore 12, 2) := by decide +kernel
theorem dX0_joinParts_127 : decode cX0_joinParts 127 = .ok (.aload_n 0, 1) := by decide +kernel
theorem dX0_joinParts_128 : decode cX0_joinParts 128 = .ok (.getfield 28, 3) := by decide +kernel
theorem dX0_joinParts_131 : decode cX0_joinParts 131 = .ok (.iload 5, 2) := by decide +kernel
theorem dX0_joinParts_133 : decode cX0_joinParts 133 = .ok (.iload 11, 2) := by decide +kernel
theorem dX0_joinParts_135 : decode cX0_joinParts 135 = .ok (.invokevirtual 130, 3) := by decide +kernel
theorem dX0_joinParts_138 : decode cX0_joinParts 138 = .ok (.istore 13, 2) := by decide +kernel
theorem dX0_joinParts_140 : decode cX0_joinParts 140 = .ok (.aload_n 0, 1) := by decide +kernel
theorem dX0_joinParts_141 : decode cX0_joinParts 141 = .ok (.iload 9, 2) := by decide +kernel
theorem dX0_joinParts_143 : decode cX0_joinParts 143 = .ok (.iload 12, 2) := by decide +kernel
theorem dX0_joinParts_145 : decode cX0_joinParts 145 = .ok (.iload 10, 2) := by decide +kernel
theorem dX0_joinParts_147 : decode cX0_joinParts 147 = .ok (.iload 13, 2) := by decide +kernel
theorem dX0_joinParts_149 : decode cX0_joinParts 149 = .ok (.iload 5, 2) := by decide +kernel
theorem dX0_joinParts_151 : decode cX0_joinParts 151 = .ok (.iconst 1, 1) := by decide +kernel
theorem dX0_joinParts_152 : decode cX0_joinParts 152 = .ok (.iadd, 1) := by decide +kernel
theorem dX0_joinParts_153 : decode cX0_joinParts 153 = .ok (.invokevirtual 44, 3) := by decide +kernel
theorem dX0_joinParts_156 : decode cX0_joinParts 156 = .ok (.aload_n 0, 1) := by decide +kernel
theorem dX0_joinParts_157 : decode cX0_joinParts 157 = .ok (.getfield 15, 3) := by decide +kernel
theorem dX0_joinParts_160 : decode cX0_joinParts 160 = .ok (.aload_n 0, 1) := by decide +kernel
theorem dX0_joinParts_161 : decode cX0_joinParts 161 = .ok (.getfield 9, 3) := by decide +kernel
theorem dX0_joinParts_164 : decode cX0_joinParts 164 = .ok (.iload 12, 2) := by decide +kernel
theorem dX0_joinParts_166 : decode cX0_joinParts 166 = .ok (.iload 9, 2) := by decide +kernel
theorem dX0_joinParts_168 : decode cX0_joinParts 168 = .ok (.isub, 1) := by decide +kernel
theorem dX0_joinParts_169 : decode cX0_joinParts 169 = .ok (.invokevirtual 68, 3) := by decide +kernel
theorem dX0_joinParts_172 : decode cX0_joinParts 172 = .ok (.aload_n 0, 1) := by decide +kernel
theorem dX0_joinParts_173 : decode cX0_joinParts 173 = .ok (.getfield 9, 3) := by decide +kernel
theorem dX0_joinParts_176 : decode cX0_joinParts 176 = .ok (.iload 13, 2) := by decide +kernel
theorem dX0_joinParts_178 : decode cX0_joinParts 178 = .ok (.iload 10, 2) := by decide +kernel
theorem dX0_joinParts_180 : decode cX0_joinParts 180 = .ok (.isub, 1) := by decide +kernel
theorem dX0_joinParts_181 : decode cX0_joinParts 181 = .ok (.invokevirtual 68, 3) := by decide +kernel
theorem dX0_joinParts_184 : decode cX0_joinParts 184 = .ok (.iadd, 1) := by decide +kernel
theorem dX0_joinParts_185 : decode cX0_joinParts 185 = .ok (.invokevirtual 133, 3) := by decide +kernel
theorem dX0_joinParts_188 : decode cX0_joinParts 188 = .ok (.iload 12, 2) := by decide +kernel
theorem dX0_joinParts_190 : decode cX0_joinParts 190 = .ok (.istore 9, 2) := by decide +kernel
theorem dX0_joinParts_192 : decode cX0_joinParts 192 = .ok (.iload 13, 2) := by decide +kernel
theorem dX0_joinParts_194 : decode cX0_joinParts 194 = .ok (.istore 10, 2) := by decide +kernel
theorem dX0_joinParts_196 : decode cX0_joinParts 196 = .ok (.iinc 11 1, 3) := by decide +kernel
theorem dX0_joinParts_199 : decode cX0_joinParts 199 = .ok (.goto (-97), 3) := by decide +kernel
theorem dX0_joinParts_202 : decode cX0_joinParts 202 = .ok (.return_, 1) := by decide +kernel
theorem dX1_init_0 : decode cX1_init 0 = .ok (.aload_n 0, 1) := by decide +kernel
theorem dX1_init_1 : decode cX1_init 1 = .ok (.invokespecial 3, 3) := by decide +kernel
theorem dX1_init_4 : decode cX1_init 4 = .ok (.aload_n 0, 1) := by decide +kernel
theorem dX1_init_5 : decode cX1_init 5 = .ok (.bipush 11, 2) := by decide +kernel
theorem dX1_init_7 : decode cX1_init 7 = .ok (.newarray .int, 2) := by decide +kernel
theorem dX1_init_9 : decode cX1_init 9 = .ok (.putfield 11, 3) := by decide +kernel
theorem dX1_init_12 : decode cX1_init 12 = .ok (.aload_n 0, 1) := by decide +kernel
theorem dX1_init_13 : decode cX1_init 13 = .ok (.getfield 11, 3) := by decide +kernel
theorem dX1_init_16 : decode cX1_init 16 = .ok (.iconst 4, 1) := by decide +kernel
theorem dX1_init_17 : decode cX1_init 17 = .ok (.iconst (-1), 1) := by decide +kernel
theorem dX1_init_18 : decode cX1_init 18 = .ok (.iastore, 1) := by decide +kernel
theorem dX1_init_19 : decode cX1_init 19 = .ok (.aload_n 0, 1) := by decide +kernel
theorem dX1_init_20 : decode cX1_init 20 = .ok (.sipush 1500, 3) := by decide +kernel
theorem dX1_init_23 : decode cX1_init 23 = .ok (.newarray .int, 2) := by decide +kernel
theorem dX1_init_25 : decode cX1_init 25 = .ok (.putfield 15, 3) := by decide +kernel
theorem dX1_init_28 : decode cX1_init 28 = .ok (.aload_n 0, 1) := by decide +kernel
theorem dX1_init_29 : decode cX1_init 29 = .ok (.sipush 4000, 3) := by decide +kernel
theorem dX1_init_32 : decode cX1_init 32 = .ok (.newarray .int, 2) := by decide +kernel
theorem dX1_init_34 : decode cX1_init 34 = .ok (.putfield 18, 3) := by decide +kernel
theorem dX1_init_37 : decode cX1_init 37 = .ok (.aload_n 0, 1) := by decide +kernel
theorem dX1_init_38 : decode cX1_init 38 = .ok (.iconst 0, 1) := by decide +kernel
theorem dX1_init_39 : decode cX1_init 39 = .ok (.putfield 21, 3) := by decide +kernel
theorem dX1_init_42 : decode cX1_init 42 = .ok (.return_, 1) := by decide +kernel
set_option maxRecDepth 20000 in
theorem ggX1_beginAnew_J7_fill_53178 : GoodIn wsX1_beginAnew wsJ7_fill_53178 := goodIn_r _ [6] (by decide +kernel) (by decide +kernel)
set_option maxRecDepth 20000 in
theorem gX1_beginAnew_J7_fill_53178 : GoodIn wsX1_beginAnew (va_wsS RX1 25 yJ7_fill_53178 wsJ7_fill_53178) := goodIn_app (goodIn_of _ (by decide +kernel)) ggX1_beginAnew_J7_fill_53178
theorem dX1_beginAnew_0 : decode cX1_beginAnew 0 = .ok (.aload_n 0, 1) := by decide +kernel
theorem dX1_beginAnew_1 : decode cX1_beginAnew 1 = .ok (.getfield 11, 3) := by decide +kernel
theorem dX1_beginAnew_4 : decode cX1_beginAnew 4 = .ok (.iconst 0, 1) := by decide +kernel
theorem dX1_beginAnew_5 : decode cX1_beginAnew 5 = .ok (.invokestatic 25, 3) := by decide +kernel
theorem dX1_beginAnew_8 : decode cX1_beginAnew 8 = .ok (.aload_n 0, 1) := by decide +kernel
theorem dX1_beginAnew_9 : decode cX1_beginAnew 9 = .ok (.iconst 0, 1) := by decide +kernel
theorem dX1_beginAnew_10 : decode cX1_beginAnew 10 = .ok (.putfield 21, 3) := by decide +kernel
theorem dX1_beginAnew_13 : decode cX1_beginAnew 13 = .ok (.return_, 1) := by decide +kernel
theorem dX1_addEvent_0 : decode cX1_addEvent 0 = .ok (.aload_n 0, 1) := by decide +kernel
theorem dX1_addEvent_1 : decode cX1_addEvent 1 = .ok (.getfield 11, 3) := by decide +kernel
theorem dX1_addEvent_4 : decode cX1_addEvent 4 = .ok (.iconst 5, 1) := by decide +kernel
theorem dX1_addEvent_5 : decode cX1_addEvent 5 = .ok (.iaload, 1) := by decide +kernel
theorem dX1_addEvent_6 : decode cX1_addEvent 6 = .ok (.istore 6, 2) := by decide +kernel
theorem dX1_addEvent_8 : decode cX1_addEvent 8 = .ok (.iload 6, 2) := by decide +kernel
theorem dX1_addEvent_10 : decode cX1_addEvent 10 = .ok (.sipush 300, 3) := by decide +kernel
theorem dX1_addEvent_13 : decode cX1_addEvent 13 = .ok (.if_icmp .ge 59, 3) := by decide +kernel
theorem dX1_addEvent_16 : decode cX1_addEvent 16 = .ok (.iload 6, 2) := by decide +kernel
theorem dX1_addEvent_18 : decode cX1_addEvent 18 = .ok (.iconst 5, 1) := by decide +kernel
theorem dX1_addEvent_19 : decode cX1_addEvent 19 = .ok (.imul, 1) := by decide +kernel
theorem dX1_addEvent_20 : decode cX1_addEvent 20 = .ok (.istore 7, 2) := by decide +kernel
theorem dX1_addEvent_22 : decode cX1_addEvent 22 = .ok (.aload_n 0, 1) := by decide +kernel
theorem dX1_addEvent_23 : decode cX1_addEvent 23 = .ok (.getfield 15, 3) := by decide +kernel
theorem dX1_addEvent_26 : decode cX1_addEvent 26 = .ok (.iload 7, 2) := by decide +kernel
theorem dX1_addEvent_28 : decode cX1_addEvent 28 = .ok (.iload_n 1, 1) := by decide +kernel
theorem dX1_addEvent_29 : decode cX1_addEvent 29 = .ok (.iastore, 1) := by decide +kernel
theorem dX1_addEvent_30 : decode cX1_addEvent 30 = .ok (.aload_n 0, 1) := by decide +kernel
theorem dX1_addEvent_31 : decode cX1_addEvent 31 = .ok (.getfield 15, 3) := by decide +kernel
theorem dX1_addEvent_34 : decode cX1_addEvent 34 = .ok (.iload 7, 2) := by decide +kernel
theorem dX1_addEvent_36 : decode cX1_addEvent 36 = .ok (.iconst 1, 1) := by decide +kernel
theorem dX1_addEvent_37 : decode cX1_addEvent 37 = .ok (.iadd, 1) := by decide +kernel
theorem dX1_addEvent_38 : decode cX1_addEvent 38 = .ok (.iload_n 2, 1) := by decide +kernel
theorem dX1_addEvent_39 : decode cX1_addEvent 39 = .ok (.iastore, 1) := by decide +kernel
theorem dX1_addEvent_40 : decode cX1_addEvent 40 = .ok (.aload_n 0, 1) := by decide +kernel
theorem dX1_addEvent_41 : decode cX1_addEvent 41 = .ok (.getfield 15, 3) := by decide +kernel
theorem dX1_addEvent_44 : decode cX1_addEvent 44 = .ok (.iload 7, 2) := by decide +kernel
theorem dX1_addEvent_46 : decode cX1_addEvent 46 = .ok (.iconst 2, 1) := by decide +kernel
theorem dX1_addEvent_47 : decode cX1_addEvent 47 = .ok (.iadd, 1) := by decide +kernel
theorem dX1_addEvent_48 : decode cX1_addEvent 48 = .ok (.iload_n 3, 1) := by decide +kernel
theorem dX1_addEvent_49 : decode cX1_addEvent 49 = .ok (.iastore, 1) := by decide +kernel
theorem dX1_addEvent_50 : decode cX1_addEvent 50 = .ok (.aload_n 0, 1) := by decide +kernel
theorem dX1_addEvent_51 : decode cX1_addEvent 51 = .ok (.getfield 15, 3) := by decide +kernel
theorem dX1_addEvent_54 : decode cX1_addEvent 54 = .ok (.iload 7, 2) := by decide +kernel
theorem dX1_addEvent_56 : decode cX1_addEvent 56 = .ok (.iconst 3, 1) := by decide +kernel
theorem dX1_addEvent_57 : decode cX1_addEvent 57 = .ok (.iadd, 1) := by decide +kernel
theorem dX1_addEvent_58 : decode cX1_addEvent 58 = .ok (.iload 4, 2) := by decide +kernel
theorem dX1_addEvent_60 : decode cX1_addEvent 60 = .ok (.iastore, 1) := by decide +kernel
theorem dX1_addEvent_61 : decode cX1_addEvent 61 = .ok (.aload_n 0, 1) := by decide +kernel
theorem dX1_addEvent_62 : decode cX1_addEvent 62 = .ok (.getfield 15, 3) := by decide +kernel
theorem dX1_addEvent_65 : decode cX1_addEvent 65 = .ok (.iload 7, 2) := by decide +kernel
theorem dX1_addEvent_67 : decode cX1_addEvent 67 = .ok (.iconst 4, 1) := by decide +kernel
theorem dX1_addEvent_68 : decode cX1_addEvent 68 = .ok (.iadd, 1) := by decide +kernel
theorem dX1_addEvent_69 : decode cX1_addEvent 69 = .ok (.iload 5, 2) := by decide +kernel
theorem dX1_addEvent_71 : decode cX1_addEvent 71 = .ok (.iastore, 1) := by decide +kernel
theorem dX1_addEvent_72 : decode cX1_addEvent 72 = .ok (.aload_n 0, 1) := by decide +kernel
theorem dX1_addEvent_73 : decode cX1_addEvent 73 = .ok (.getfield 11, 3) := by decide +kernel
theorem dX1_addEvent_76 : decode cX1_addEvent 76 = .ok (.iconst 5, 1) := by decide +kernel
theorem dX1_addEvent_77 : decode cX1_addEvent 77 = .ok (.dup2, 1) := by decide +kernel
theorem dX1_addEvent_78 : decode cX1_addEvent 78 = .ok (.iaload, 1) := by decide +kernel
theorem dX1_addEvent_79 : decode cX1_addEvent 79 = .ok (.iconst 1, 1) := by decide +kernel
theorem dX1_addEvent_80 : decode cX1_addEvent 80 = .ok (.iadd, 1) := by decide +kernel
theorem dX1_addEvent_81 : decode cX1_addEvent 81 = .ok (.iastore, 1) := by decide +kernel
theorem dX1_addEvent_82 : decode cX1_addEvent 82 = .ok (.aload_n 0, 1) := by decide +kernel
theorem dX1_addEvent_83 : decode cX1_addEvent 83 = .ok (.getfield 11, 3) := by decide +kernel
theorem dX1_addEvent_86 : decode cX1_addEvent 86 = .ok (.bipush 6, 2) := by decide +kernel
theorem dX1_addEvent_88 : decode cX1_addEvent 88 = .ok (.iload_n 1, 1) := by decide +kernel
theorem dX1_addEvent_89 : decode cX1_addEvent 89 = .ok (.iadd, 1) := by decide +kernel
theorem dX1_addEvent_90 : decode cX1_addEvent 90 = .ok (.dup2, 1) := by decide +kernel
theorem dX1_addEvent_91 : decode cX1_addEvent 91 = .ok (.iaload, 1) := by decide +kernel
theorem dX1_addEvent_92 : decode cX1_addEvent 92 = .ok (.iconst 1, 1) := by decide +kernel
theorem dX1_addEvent_93 : decode cX1_addEvent 93 = .ok (.iadd, 1) := by decide +kernel
theorem dX1_addEvent_94 : decode cX1_addEvent 94 = .ok (.iastore, 1) := by decide +kernel
theorem dX1_addEvent_95 : decode cX1_addEvent 95 = .ok (.aload_n 0, 1) := by decide +kernel
theorem dX1_addEvent_96 : decode cX1_addEvent 96 = .ok (.getfield 11, 3) := by decide +kernel
theorem dX1_addEvent_99 : decode cX1_addEvent 99 = .ok (.iconst 0, 1) := by decide +kernel
theorem dX1_addEvent_100 : decode cX1_addEvent 100 = .ok (.dup2, 1) := by decide +kernel
theorem dX1_addEvent_101 : decode cX1_addEvent 101 = .ok (.iaload, 1) := by decide +kernel
theorem dX1_addEvent_102 : decode cX1_addEvent 102 = .ok (.iload 5, 2) := by decide +kernel
theorem dX1_addEvent_104 : decode cX1_addEvent 104 = .ok (.iadd, 1) := by decide +kernel
theorem dX1_addEvent_105 : decode cX1_addEvent 105 = .ok (.iastore, 1) := by decide +kernel
theorem dX1_addEvent_106 : decode cX1_addEvent 106 = .ok (.aload_n 0, 1) := by decide +kernel
theorem dX1_addEvent_107 : decode cX1_addEvent 107 = .ok (.getfield 11, 3) := by decide +kernel
theorem dX1_addEvent_110 : decode cX1_addEvent 110 = .ok (.iconst 4, 1) := by decide +kernel
theorem dX1_addEvent_111 : decode cX1_addEvent 111 = .ok (.aload_n 0, 1) := by decide +kernel
theorem dX1_addEvent_112 : decode cX1_addEvent 112 = .ok (.getfield 11, 3) := by decide +kernel
theorem dX1_addEvent_115 : decode cX1_addEvent 115 = .ok (.iconst 4, 1) := by decide +kernel
theorem dX1_addEvent_116 : decode cX1_addEvent 116 = .ok (.iaload, 1) := by decide +kernel
theorem dX1_addEvent_117 : decode cX1_addEvent 117 = .ok (.iload_n 2, 1) := by decide +kernel
theorem dX1_addEvent_118 : decode cX1_addEvent 118 = .ok (.invokestatic 31, 3) := by decide +kernel
theorem dX1_addEvent_121 : decode cX1_addEvent 121 = .ok (.iastore, 1) := by decide +kernel
theorem dX1_addEvent_122 : decode cX1_addEvent 122 = .ok (.return_, 1) := by decide +kernel
theorem dX1_takeMemory_0 : decode cX1_takeMemory 0 = .ok (.aload_n 0, 1) := by decide +kernel
theorem dX1_takeMemory_1 : decode cX1_takeMemory 1 = .ok (.getfield 11, 3) := by decide +kernel
theorem dX1_takeMemory_4 : decode cX1_takeMemory 4 = .ok (.iconst 2, 1) := by decide +kernel
theorem dX1_takeMemory_5 : decode cX1_takeMemory 5 = .ok (.aload_n 0, 1) := by decide +kernel
theorem dX1_takeMemory_6 : decode cX1_takeMemory 6 = .ok (.getfield 11, 3) := by decide +kernel
theorem dX1_takeMemory_9 : decode cX1_takeMemory 9 = .ok (.iconst 2, 1) := by decide +kernel
theorem dX1_takeMemory_10 : decode cX1_takeMemory 10 = .ok (.iaload, 1) := by decide +kernel
theorem dX1_takeMemory_11 : decode cX1_takeMemory 11 = .ok (.iload_n 1, 1) := by decide +kernel
theorem dX1_takeMemory_12 : decode cX1_takeMemory 12 = .ok (.invokestatic 31, 3) := by decide +kernel
theorem dX1_takeMemory_15 : decode cX1_takeMemory 15 = .ok (.iastore, 1) := by decide +kernel
theorem dX1_takeMemory_16 : decode cX1_takeMemory 16 = .ok (.return_, 1) := by decide +kernel
theorem dX1_writeToDisk_0 : decode cX1_writeToDisk 0 = .ok (.aload_n 0, 1) := by decide +kernel
theorem dX1_writeToDisk_1 : decode cX1_writeToDisk 1 = .ok (.getfield 11, 3) := by decide +kernel
theorem dX1_writeToDisk_4 : decode cX1_writeToDisk 4 = .ok (.iconst 1, 1) := by decide +kernel
theorem dX1_writeToDisk_5 : decode cX1_writeToDisk 5 = .ok (.dup2, 1) := by decide +kernel
theorem dX1_writeToDisk_6 : decode cX1_writeToDisk 6 = .ok (.iaload, 1) := by decide +kernel
theorem dX1_writeToDisk_7 : decode cX1_writeToDisk 7 = .ok (.iload_n 1, 1) := by decide +kernel
theorem dX1_writeToDisk_8 : decode cX1_writeToDisk 8 = .ok (.iadd, 1) := by decide +kernel
theorem dX1_writeToDisk_9 : decode cX1_writeToDisk 9 = .ok (.iastore, 1) := by decide +kernel
theorem dX1_writeToDisk_10 : decode cX1_writeToDisk 10 = .ok (.aload_n 0, 1) := by decide +kernel
theorem dX1_writeToDisk_11 : decode cX1_writeToDisk 11 = .ok (.dup, 1) := by decide +kernel
theorem dX1_writeToDisk_12 : decode cX1_writeToDisk 12 = .ok (.getfield 21, 3) := by decide +kernel
theorem dX1_writeToDisk_15 : decode cX1_writeToDisk 15 = .ok (.iload_n 1, 1) := by decide +kernel
theorem dX1_writeToDisk_16 : decode cX1_writeToDisk 16 = .ok (.iadd, 1) := by decide +kernel
theorem dX1_writeToDisk_17 : decode cX1_writeToDisk 17 = .ok (.putfield 21, 3) := by decide +kernel
theorem dX1_writeToDisk_20 : decode cX1_writeToDisk 20 = .ok (.aload_n 0, 1) := by decide +kernel
theorem dX1_writeToDisk_21 : decode cX1_writeToDisk 21 = .ok (.getfield 11, 3) := by decide +kernel
theorem dX1_writeToDisk_24 : decode cX1_writeToDisk 24 = .ok (.iconst 3, 1) := by decide +kernel
theorem dX1_writeToDisk_25 : decode cX1_writeToDisk 25 = .ok (.aload_n 0, 1) := by decide +kernel
theorem dX1_writeToDisk_26 : decode cX1_writeToDisk 26 = .ok (.getfield 11, 3) := by decide +kernel
theorem dX1_writeToDisk_29 : decode cX1_writeToDisk 29 = .ok (.iconst 3, 1) := by decide +kernel
theorem dX1_writeToDisk_30 : decode cX1_writeToDisk 30 = .ok (.iaload, 1) := by decide +kernel
theorem dX1_writeToDisk_31 : decode cX1_writeToDisk 31 = .ok (.aload_n 0, 1) := by decide +kernel
theorem dX1_writeToDisk_32 : decode cX1_writeToDisk 32 = .ok (.getfield 21, 3) := by decide +kernel
theorem dX1_writeToDisk_35 : decode cX1_writeToDisk 35 = .ok (.invokestatic 31, 3) := by decide +kernel
theorem dX1_writeToDisk_38 : decode cX1_writeToDisk 38 = .ok (.iastore, 1) := by decide +kernel
theorem dX1_writeToDisk_39 : decode cX1_writeToDisk 39 = .ok (.return_, 1) := by decide +kernel
theorem dX1_freeDisk_0 : decode cX1_freeDisk 0 = .ok (.aload_n 0, 1) := by decide +kernel
theorem dX1_freeDisk_1 : decode cX1_freeDisk 1 = .ok (.dup, 1) := by decide +kernel
theorem dX1_freeDisk_2 : decode cX1_freeDisk 2 = .ok (.getfield 21, 3) := by decide +kernel
theorem dX1_freeDisk_5 : decode cX1_freeDisk 5 = .ok (.iload_n 1, 1) := by decide +kernel
theorem dX1_freeDisk_6 : decode cX1_freeDisk 6 = .ok (.isub, 1) := by decide +kernel
theorem dX1_freeDisk_7 : decode cX1_freeDisk 7 = .ok (.putfield 21, 3) := by decide +kernel
theorem dX1_freeDisk_10 : decode cX1_freeDisk 10 = .ok (.return_, 1) := by decide +kernel
theorem dX1_addPair_0 : decode cX1_addPair 0 = .ok (.aload_n 0, 1) := by decide +kernel
theorem dX1_addPair_1 : decode cX1_addPair 1 = .ok (.getfield 11, 3) := by decide +kernel
theorem dX1_addPair_4 : decode cX1_addPair 4 = .ok (.bipush 10, 2) := by decide +kernel
theorem dX1_addPair_6 : decode cX1_addPair 6 = .ok (.iaload, 1) := by decide +kernel
theorem dX1_addPair_7 : decode cX1_addPair 7 = .ok (.istore_n 3, 1) := by decide +kernel
theorem dX1_addPair_8 : decode cX1_addPair 8 = .ok (.iload_n 3, 1) := by decide +kernel
theorem dX1_addPair_9 : decode cX1_addPair 9 = .ok (.sipush 4000, 3) := by decide +kernel
theorem dX1_addPair_12 : decode cX1_addPair 12 = .ok (.if_icmp .ge 15, 3) := by decide +kernel
theorem dX1_addPair_15 : decode cX1_addPair 15 = .ok (.aload_n 0, 1) := by decide +kernel
theorem dX1_addPair_16 : decode cX1_addPair 16 = .ok (.getfield 18, 3) := by decide +kernel
theorem dX1_addPair_19 : decode cX1_addPair 19 = .ok (.iload_n 3, 1) := by decide +kernel
theorem dX1_addPair_20 : decode cX1_addPair 20 = .ok (.iload_n 1, 1) := by decide +kernel
theorem dX1_addPair_21 : decode cX1_addPair 21 = .ok (.bipush 9, 2) := by decide +kernel
theorem dX1_addPair_23 : decode cX1_addPair 23 = .ok (.ishl, 1) := by decide +kernel
theorem dX1_addPair_24 : decode cX1_addPair 24 = .ok (.iload_n 2, 1) := by decide +kernel
theorem dX1_addPair_25 : decode cX1_addPair 25 = .ok (.ior, 1) := by decide +kernel
theorem dX1_addPair_26 : decode cX1_addPair 26 = .ok (.iastore, 1) := by decide +kernel
theorem dX1_addPair_27 : decode cX1_addPair 27 = .ok (.aload_n 0, 1) := by decide +kernel
theorem dX1_addPair_28 : decode cX1_addPair 28 = .ok (.getfield 11, 3) := by decide +kernel
theorem dX1_addPair_31 : decode cX1_addPair 31 = .ok (.bipush 10, 2) := by decide +kernel
theorem dX1_addPair_33 : decode cX1_addPair 33 = .ok (.dup2, 1) := by decide +kernel
theorem dX1_addPair_34 : decode cX1_addPair 34 = .ok (.iaload, 1) := by decide +kernel
theorem dX1_addPair_35 : decode cX1_addPair 35 = .ok (.iconst 1, 1) := by decide +kernel
theorem dX1_addPair_36 : decode cX1_addPair 36 = .ok (.iadd, 1) := by decide +kernel
theorem dX1_addPair_37 : decode cX1_addPair 37 = .ok (.iastore, 1) := by decide +kernel
theorem dX1_addPair_38 : decode cX1_addPair 38 = .ok (.return_, 1) := by decide +kernel
theorem dX1_pairsOrFull_0 : decode cX1_pairsOrFull 0 = .ok (.aload_n 0, 1) := by decide +kernel
theorem dX1_pairsOrFull_1 : decode cX1_pairsOrFull 1 = .ok (.getfield 11, 3) := by decide +kernel
theorem dX1_pairsOrFull_4 : decode cX1_pairsOrFull 4 = .ok (.bipush 10, 2) := by decide +kernel
theorem dX1_pairsOrFull_6 : decode cX1_pairsOrFull 6 = .ok (.iaload, 1) := by decide +kernel
theorem dX1_pairsOrFull_7 : decode cX1_pairsOrFull 7 = .ok (.sipush 4000, 3) := by decide +kernel
theorem dX1_pairsOrFull_10 : decode cX1_pairsOrFull 10 = .ok (.if_icmp .le 8, 3) := by decide +kernel
theorem dX1_pairsOrFull_13 : decode cX1_pairsOrFull 13 = .ok (.bipush (-2), 2) := by decide +kernel
theorem dX1_pairsOrFull_15 : decode cX1_pairsOrFull 15 = .ok (.goto 10, 3) := by decide +kernel
theorem dX1_pairsOrFull_18 : decode cX1_pairsOrFull 18 = .ok (.aload_n 0, 1) := by decide +kernel
theorem dX1_pairsOrFull_19 : decode cX1_pairsOrFull 19 = .ok (.getfield 11, 3) := by decide +kernel
theorem dX1_pairsOrFull_22 : decode cX1_pairsOrFull 22 = .ok (.bipush 10, 2) := by decide +kernel
theorem dX1_pairsOrFull_24 : decode cX1_pairsOrFull 24 = .ok (.iaload, 1) := by decide +kernel
theorem dX1_pairsOrFull_25 : decode cX1_pairsOrFull 25 = .ok (.ireturn, 1) := by decide +kernel
set_option maxRecDepth 20000 in
theorem ggX1_hasPair_X1_pairsOrFull : GoodIn wsX1_hasPair wsX1_pairsOrFull := goodIn_r _ [5, 6, 7, 8, 9, 10] (by decide +kernel) (by decide +kernel)
set_option maxRecDepth 20000 in
theorem gX1_hasPair_X1_pairsOrFull : GoodIn wsX1_hasPair (wsV RX1 37 RX1 yX1_pairsOrFull wsX1_pairsOrFull) := goodIn_app (goodIn_of _ (by decide +kernel)) ggX1_hasPair_X1_pairsOrFull
theorem dX1_hasPair_0 : decode cX1_hasPair 0 = .ok (.iload_n 1, 1) := by decide +kernel
theorem dX1_hasPair_1 : decode cX1_hasPair 1 = .ok (.ifCond .lt 15, 3) := by decide +kernel
theorem dX1_hasPair_4 : decode cX1_hasPair 4 = .ok (.iload_n 1, 1) := by decide +kernel
theorem dX1_hasPair_5 : decode cX1_hasPair 5 = .ok (.aload_n 0, 1) := by decide +kernel
theorem dX1_hasPair_6 : decode cX1_hasPair 6 = .ok (.invokevirtual 37, 3) := by decide +kernel
theorem dX1_hasPair_9 : decode cX1_hasPair 9 = .ok (.if_icmp .ge 7, 3) := by decide +kernel
theorem dX1_hasPair_12 : decode cX1_hasPair 12 = .ok (.iconst 1, 1) := by decide +kernel
theorem dX1_hasPair_13 : decode cX1_hasPair 13 = .ok (.goto 4, 3) := by decide +kernel
theorem dX1_hasPair_16 : decode cX1_hasPair 16 = .ok (.iconst 0, 1) := by decide +kernel
theorem dX1_hasPair_17 : decode cX1_hasPair 17 = .ok (.ireturn, 1) := by decide +kernel
set_option maxRecDepth 20000 in
theorem ggX1_leftRowOf_X1_hasPair : GoodIn wsX1_leftRowOf wsX1_hasPair := goodIn_r _ [6, 7, 8, 9, 5, 10, 11, 12, 13, 14, 15] (by decide +kernel) (by decide +kernel)
set_option maxRecDepth 20000 in
theorem gX1_leftRowOf_X1_hasPair : GoodIn wsX1_leftRowOf (wsV RX1 41 RX1 yX1_hasPair wsX1_hasPair) := goodIn_app (goodIn_of _ (by decide +kernel)) ggX1_leftRowOf_X1_hasPair
theorem dX1_leftRowOf_0 : decode cX1_leftRowOf 0 = .ok (.aload_n 0, 1) := by decide +kernel
theorem dX1_leftRowOf_1 : decode cX1_leftRowOf 1 = .ok (.iload_n 1, 1) := by decide +kernel
theorem dX1_leftRowOf_2 : decode cX1_leftRowOf 2 = .ok (.invokevirtual 41, 3) := by decide +kernel
theorem dX1_leftRowOf_5 : decode cX1_leftRowOf 5 = .ok (.ifCond .eq 15, 3) := by decide +kernel
theorem dX1_leftRowOf_8 : decode cX1_leftRowOf 8 = .ok (.aload_n 0, 1) := by decide +kernel
theorem dX1_leftRowOf_9 : decode cX1_leftRowOf 9 = .ok (.getfield 18, 3) := by decide +kernel
theorem dX1_leftRowOf_12 : decode cX1_leftRowOf 12 = .ok (.iload_n 1, 1) := by decide +kernel
theorem dX1_leftRowOf_13 : decode cX1_leftRowOf 13 = .ok (.iaload, 1) := by decide +kernel
theorem dX1_leftRowOf_14 : decode cX1_leftRowOf 14 = .ok (.bipush 9, 2) := by decide +kernel
theorem dX1_leftRowOf_16 : decode cX1_leftRowOf 16 = .ok (.ishr, 1) := by decide +kernel
theorem dX1_leftRowOf_17 : decode cX1_leftRowOf 17 = .ok (.goto 4, 3) := by decide +kernel
theorem dX1_leftRowOf_20 : decode cX1_leftRowOf 20 = .ok (.iconst (-1), 1) := by decide +kernel
theorem dX1_leftRowOf_21 : decode cX1_leftRowOf 21 = .ok (.ireturn, 1) := by decide +kernel
set_option maxRecDepth 20000 in
theorem ggX1_rightRowOf_X1_hasPair : GoodIn wsX1_rightRowOf wsX1_hasPair := goodIn_r _ [6, 7, 8, 9, 5, 10, 11, 12, 13, 14, 15] (by decide +kernel) (by decide +kernel)
set_option maxRecDepth 20000 in
theorem gX1_rightRowOf_X1_hasPair : GoodIn wsX1_rightRowOf (wsV RX1 41 RX1 yX1_hasPair wsX1_hasPair) := goodIn_app (goodIn_of _ (by decide +kernel)) ggX1_rightRowOf_X1_hasPair
theorem dX1_rightRowOf_0 : decode cX1_rightRowOf 0 = .ok (.aload_n 0, 1) := by decide +kernel
theorem dX1_rightRowOf_1 : decode cX1_rightRowOf 1 = .ok (.iload_n 1, 1) := by decide +kernel
theorem dX1_rightRowOf_2 : decode cX1_rightRowOf 2 = .ok (.invokevirtual 41, 3) := by decide +kernel
theorem dX1_rightRowOf_5 : decode cX1_rightRowOf 5 = .ok (.ifCond .eq 16, 3) := by decide +kernel
theorem dX1_rightRowOf_8 : decode cX1_rightRowOf 8 = .ok (.aload_n 0, 1) := by decide +kernel
theorem dX1_rightRowOf_9 : decode cX1_rightRowOf 9 = .ok (.getfield 18, 3) := by decide +kernel
theorem dX1_rightRowOf_12 : decode cX1_rightRowOf 12 = .ok (.iload_n 1, 1) := by decide +kernel
theorem dX1_rightRowOf_13 : decode cX1_rightRowOf 13 = .ok (.iaload, 1) := by decide +kernel
theorem dX1_rightRowOf_14 : decode cX1_rightRowOf 14 = .ok (.sipush 511, 3) := by decide +kernel
theorem dX1_rightRowOf_17 : decode cX1_rightRowOf 17 = .ok (.iand, 1) := by decide +kernel
theorem dX1_rightRowOf_18 : decode cX1_rightRowOf 18 = .ok (.goto 4, 3) := by decide +kernel
theorem dX1_rightRowOf_21 : decode cX1_rightRowOf 21 = .ok (.iconst (-1), 1) := by decide +kernel
theorem dX1_rightRowOf_22 : decode cX1_rightRowOf 22 = .ok (.ireturn, 1) := by decide +kernel
theorem dX1_figure_0 : decode cX1_figure 0 = .ok (.iload_n 1, 1) := by decide +kernel
theorem dX1_figure_1 : decode cX1_figure 1 = .ok (.ifCond .lt 9, 3) := by decide +kernel
theorem dX1_figure_4 : decode cX1_figure 4 = .ok (.iload_n 1, 1) := by decide +kernel
theorem dX1_figure_5 : decode cX1_figure 5 = .ok (.bipush 11, 2) := by decide +kernel
theorem dX1_figure_7 : decode cX1_figure 7 = .ok (.if_icmp .lt 7, 3) := by decide +kernel
theorem dX1_figure_10 : decode cX1_figure 10 = .ok (.iconst (-1), 1) := by decide +kernel
theorem dX1_figure_11 : decode cX1_figure 11 = .ok (.goto 9, 3) := by decide +kernel
theorem dX1_figure_14 : decode cX1_figure 14 = .ok (.aload_n 0, 1) := by decide +kernel
theorem dX1_figure_15 : decode cX1_figure 15 = .ok (.getfield 11, 3) := by decide +kernel
theorem dX1_figure_18 : decode cX1_figure 18 = .ok (.iload_n 1, 1) := by decide +kernel
theorem dX1_figure_19 : decode cX1_figure 19 = .ok (.iaload, 1) := by decide +kernel
theorem dX1_figure_20 : decode cX1_figure 20 = .ok (.ireturn, 1) := by decide +kernel
theorem dX1_ofEvent_0 : decode cX1_ofEvent 0 = .ok (.iload_n 1, 1) := by decide +kernel
theorem dX1_ofEvent_1 : decode cX1_ofEvent 1 = .ok (.ifCond .lt 19, 3) := by decide +kernel
theorem dX1_ofEvent_4 : decode cX1_ofEvent 4 = .ok (.iload_n 1, 1) := by decide +kernel
theorem dX1_ofEvent_5 : decode cX1_ofEvent 5 = .ok (.aload_n 0, 1) := by decide +kernel
theorem dX1_ofEvent_6 : decode cX1_ofEvent 6 = .ok (.getfield 11, 3) := by decide +kernel
theorem dX1_ofEvent_9 : decode cX1_ofEvent 9 = .ok (.iconst 5, 1) := by decide +kernel
theorem dX1_ofEvent_10 : decode cX1_ofEvent 10 = .ok (.iaload, 1) := by decide +kernel
theorem dX1_ofEvent_11 : decode cX1_ofEvent 11 = .ok (.sipush 300, 3) := by decide +kernel
theorem dX1_ofEvent_14 : decode cX1_ofEvent 14 = .ok (.invokestatic 45, 3) := by decide +kernel
theorem dX1_ofEvent_17 : decode cX1_ofEvent 17 = .ok (.if_icmp .lt 5, 3) := by decide +kernel
theorem dX1_ofEvent_20 : decode cX1_ofEvent 20 = .ok (.iconst (-1), 1) := by decide +kernel
theorem dX1_ofEvent_21 : decode cX1_ofEvent 21 = .ok (.ireturn, 1) := by decide +kernel
theorem dX1_ofEvent_22 : decode cX1_ofEvent 22 = .ok (.iload_n 2, 1) := by decide +kernel
theorem dX1_ofEvent_23 : decode cX1_ofEvent 23 = .ok (.ifCond .lt 8, 3) := by decide +kernel
theorem dX1_ofEvent_26 : decode cX1_ofEvent 26 = .ok (.iload_n 2, 1) := by decide +kernel
theorem dX1_ofEvent_27 : decode cX1_ofEvent 27 = .ok (.iconst 5, 1) := by decide +kernel
theorem dX1_ofEvent_28 : decode cX1_ofEvent 28 = .ok (.if_icmp .lt 5, 3) := by decide +kernel
theorem dX1_ofEvent_31 : decode cX1_ofEvent 31 = .ok (.iconst (-1), 1) := by decide +kernel
theorem dX1_ofEvent_32 : decode cX1_ofEvent 32 = .ok (.ireturn, 1) := by decide +kernel
theorem dX1_ofEvent_33 : decode cX1_ofEvent 33 = .ok (.aload_n 0, 1) := by decide +kernel
theorem dX1_ofEvent_34 : decode cX1_ofEvent 34 = .ok (.getfield 15, 3) := by decide +kernel
theorem dX1_ofEvent_37 : decode cX1_ofEvent 37 = .ok (.iload_n 1, 1) := by decide +kernel
theorem dX1_ofEvent_38 : decode cX1_ofEvent 38 = .ok (.iconst 5, 1) := by decide +kernel
theorem dX1_ofEvent_39 : decode cX1_ofEvent 39 = .ok (.imul, 1) := by decide +kernel
theorem dX1_ofEvent_40 : decode cX1_ofEvent 40 = .ok (.iload_n 2, 1) := by decide +kernel
theorem dX1_ofEvent_41 : decode cX1_ofEvent 41 = .ok (.iadd, 1) := by decide +kernel
theorem dX1_ofEvent_42 : decode cX1_ofEvent 42 = .ok (.iaload, 1) := by decide +kernel
theorem dX1_ofEvent_43 : decode cX1_ofEvent 43 = .ok (.ireturn, 1) := by decide +kernel
theorem dX2_init_0 : decode cX2_init 0 = .ok (.aload_n 0, 1) := by decide +kernel
theorem dX2_init_1 : decode cX2_init 1 = .ok (.invokespecial 3, 3) := by decide +kernel
theorem dX2_init_4 : decode cX2_init 4 = .ok (.aload_n 0, 1) := by decide +kernel
theorem dX2_init_5 : decode cX2_init 5 = .ok (.aload_n 1, 1) := by decide +kernel
theorem dX2_init_6 : decode cX2_init 6 = .ok (.putfield 9, 3) := by decide +kernel
theorem dX2_init_9 : decode cX2_init 9 = .ok (.aload_n 0, 1) := by decide +kernel
theorem dX2_init_10 : decode cX2_init 10 = .ok (.iload_n 2, 1) := by decide +kernel
theorem dX2_init_11 : decode cX2_init 11 = .ok (.putfield 15, 3) := by decide +kernel
theorem dX2_init_14 : decode cX2_init 14 = .ok (.aload_n 0, 1) := by decide +kernel
theorem dX2_init_15 : decode cX2_init 15 = .ok (.sipush 500, 3) := by decide +kernel
theorem dX2_init_18 : decode cX2_init 18 = .ok (.newarray .int, 2) := by decide +kernel
theorem dX2_init_20 : decode cX2_init 20 = .ok (.putfield 19, 3) := by decide +kernel
theorem dX2_init_23 : decode cX2_init 23 = .ok (.aload_n 0, 1) := by decide +kernel
theorem dX2_init_24 : decode cX2_init 24 = .ok (.sipush 500, 3) := by decide +kernel
theorem dX2_init_27 : decode cX2_init 27 = .ok (.newarray .int, 2) := by decide +kernel
theorem dX2_init_29 : decode cX2_init 29 = .ok (.putfield 23, 3) := by decide +kernel
theorem dX2_init_32 : decode cX2_init 32 = .ok (.aload_n 0, 1) := by decide +kernel
theorem dX2_init_33 : decode cX2_init 33 = .ok (.sipush 500, 3) := by decide +kernel
theorem dX2_init_36 : decode cX2_init 36 = .ok (.newarray .int, 2) := by decide +kernel
theorem dX2_init_38 : decode cX2_init 38 = .ok (.putfield 26, 3) := by decide +kernel
theorem dX2_init_41 : decode cX2_init 41 = .ok (.aload_n 0, 1) := by decide +kernel
theorem dX2_init_42 : decode cX2_init 42 = .ok (.sipush 500, 3) := by decide +kernel
theorem dX2_init_45 : decode cX2_init 45 = .ok (.newarray .int, 2) := by decide +kernel
theorem dX2_init_47 : decode cX2_init 47 = .ok (.putfield 29, 3) := by decide +kernel
theorem dX2_init_50 : decode cX2_init 50 = .ok (.aload_n 0, 1) := by decide +kernel
theorem dX2_init_51 : decode cX2_init 51 = .ok (.sipush 152, 3) := by decide +kernel
theorem dX2_init_54 : decode cX2_init 54 = .ok (.newarray .int, 2) := by decide +kernel
theorem dX2_init_56 : decode cX2_init 56 = .ok (.putfield 32, 3) := by decide +kernel
theorem dX2_init_59 : decode cX2_init 59 = .ok (.aload_n 0, 1) := by decide +kernel
theorem dX2_init_60 : decode cX2_init 60 = .ok (.iconst 0, 1) := by decide +kernel
theorem dX2_init_61 : decode cX2_init 61 = .ok (.putfield 35, 3) := by decide +kernel
theorem dX2_init_64 : decode cX2_init 64 = .ok (.return_, 1) := by decide +kernel
theorem dX2_copyOf_0 : decode cX2_copyOf 0 = .ok (.aload_n 0, 1) := by decide +kernel
theorem dX2_copyOf_1 : decode cX2_copyOf 1 = .ok (.aload_n 1, 1) := by decide +kernel
theorem dX2_copyOf_2 : decode cX2_copyOf 2 = .ok (.getfield 39, 3) := by decide +kernel
theorem dX2_copyOf_5 : decode cX2_copyOf 5 = .ok (.putfield 35, 3) := by decide +kernel
theorem dX2_copyOf_8 : decode cX2_copyOf 8 = .ok (.aload_n 1, 1) := by decide +kernel
theorem dX2_copyOf_9 : decode cX2_copyOf 9 = .ok (.getfield 42, 3) := by decide +kernel
theorem dX2_copyOf_12 : decode cX2_copyOf 12 = .ok (.iconst 0, 1) := by decide +kernel
theorem dX2_copyOf_13 : decode cX2_copyOf 13 = .ok (.aload_n 0, 1) := by decide +kernel
theorem dX2_copyOf_14 : decode cX2_copyOf 14 = .ok (.getfield 19, 3) := by decide +kernel
theorem dX2_copyOf_17 : decode cX2_copyOf 17 = .ok (.iconst 0, 1) := by decide +kernel
theorem dX2_copyOf_18 : decode cX2_copyOf 18 = .ok (.aload_n 0, 1) := by decide +kernel
theorem dX2_copyOf_19 : decode cX2_copyOf 19 = .ok (.getfield 35, 3) := by decide +kernel
theorem dX2_copyOf_22 : decode cX2_copyOf 22 = .ok (.invokestatic 43, 3) := by decide +kernel
theorem dX2_copyOf_25 : decode cX2_copyOf 25 = .ok (.aload_n 1, 1) := by decide +kernel
theorem dX2_copyOf_26 : decode cX2_copyOf 26 = .ok (.getfield 49, 3) := by decide +kernel
theorem dX2_copyOf_29 : decode cX2_copyOf 29 = .ok (.iconst 0, 1) := by decide +kernel
theorem dX2_copyOf_30 : decode cX2_copyOf 30 = .ok (.aload_n 0, 1) := by decide +kernel
theorem dX2_copyOf_31 : decode cX2_copyOf 31 = .ok (.getfield 23, 3) := by decide +kernel
theorem dX2_copyOf_34 : decode cX2_copyOf 34 = .ok (.iconst 0, 1) := by decide +kernel
theorem dX2_copyOf_35 : decode cX2_copyOf 35 = .ok (.aload_n 0, 1) := by decide +kernel
theorem dX2_copyOf_36 : decode cX2_copyOf 36 = .ok (.getfield 35, 3) := by decide +kernel
theorem dX2_copyOf_39 : decode cX2_copyOf 39 = .ok (.invokestatic 43, 3) := by decide +kernel
theorem dX2_copyOf_42 : decode cX2_copyOf 42 = .ok (.iconst 0, 1) := by decide +kernel
theorem dX2_copyOf_43 : decode cX2_copyOf 43 = .ok (.istore_n 2, 1) := by decide +kernel
theorem dX2_copyOf_44 : decode cX2_copyOf 44 = .ok (.iload_n 2, 1) := by decide +kernel
theorem dX2_copyOf_45 : decode cX2_copyOf 45 = .ok (.aload_n 0, 1) := by decide +kernel
theorem dX2_copyOf_46 : decode cX2_copyOf 46 = .ok (.getfield 35, 3) := by decide +kernel
theorem dX2_copyOf_49 : decode cX2_copyOf 49 = .ok (.if_icmp .ge 16, 3) := by decide +kernel
theorem dX2_copyOf_52 : decode cX2_copyOf 52 = .ok (.aload_n 0, 1) := by decide +kernel
theorem dX2_copyOf_53 : decode cX2_copyOf 53 = .ok (.getfield 26, 3) := by decide +kernel
theorem dX2_copyOf_56 : decode cX2_copyOf 56 = .ok (.iload_n 2, 1) := by decide +kernel
theorem dX2_copyOf_57 : decode cX2_copyOf 57 = .ok (.iload_n 2, 1) := by decide +kernel
theorem dX2_copyOf_58 : decode cX2_copyOf 58 = .ok (.iastore, 1) := by decide +kernel
theorem dX2_copyOf_59 : decode cX2_copyOf 59 = .ok (.iinc 2 1, 3) := by decide +kernel
theorem dX2_copyOf_62 : decode cX2_copyOf 62 = .ok (.goto (-18), 3) := by decide +kernel
theorem dX2_copyOf_65 : decode cX2_copyOf 65 = .ok (.return_, 1) := by decide +kernel
theorem dX2_keyOf_0 : decode cX2_keyOf 0 = .ok (.iload_n 1, 1) := by decide +kernel
theorem dX2_keyOf_1 : decode cX2_keyOf 1 = .ok (.ifCond .lt 11, 3) := by decide +kernel
theorem dX2_keyOf_4 : decode cX2_keyOf 4 = .ok (.iload_n 1, 1) := by decide +kernel
theorem dX2_keyOf_5 : decode cX2_keyOf 5 = .ok (.aload_n 0, 1) := by decide +kernel
theorem dX2_keyOf_6 : decode cX2_keyOf 6 = .ok (.getfield 35, 3) := by decide +kernel
theorem dX2_keyOf_9 : decode cX2_keyOf 9 = .ok (.if_icmp .lt 7, 3) := by decide +kernel
theorem dX2_keyOf_12 : decode cX2_keyOf 12 = .ok (.iconst (-1), 1) := by decide +kernel
theorem dX2_keyOf_13 : decode cX2_keyOf 13 = .ok (.goto 9, 3) := by decide +kernel
theorem dX2_keyOf_16 : decode cX2_keyOf 16 = .ok (.aload_n 0, 1) := by decide +kernel
theorem dX2_keyOf_17 : decode cX2_keyOf 17 = .ok (.getfield 19, 3) := by decide +kernel
theorem dX2_keyOf_20 : decode cX2_keyOf 20 = .ok (.iload_n 1, 1) := by decide +kernel
theorem dX2_keyOf_21 : decode cX2_keyOf 21 = .ok (.iaload, 1) := by decide +kernel
theorem dX2_keyOf_22 : decode cX2_keyOf 22 = .ok (.ireturn, 1) := by decide +kernel
theorem dX2_valueOf_0 : decode cX2_valueOf 0 = .ok (.iload_n 1, 1) := by decide +kernel
theorem dX2_valueOf_1 : decode cX2_valueOf 1 = .ok (.ifCond .lt 11, 3) := by decide +kernel
theorem dX2_valueOf_4 : decode cX2_valueOf 4 = .ok (.iload_n 1, 1) := by decide +kernel
theorem dX2_valueOf_5 : decode cX2_valueOf 5 = .ok (.aload_n 0, 1) := by decide +kernel
theorem dX2_valueOf_6 : decode cX2_valueOf 6 = .ok (.getfield 35, 3) := by decide +kernel
theorem dX2_valueOf_9 : decode cX2_valueOf 9 = .ok (.if_icmp .lt 7, 3) := by decide +kernel
theorem dX2_valueOf_12 : decode cX2_valueOf 12 = .ok (.iconst (-1), 1) := by decide +kernel
theorem dX2_valueOf_13 : decode cX2_valueOf 13 = .ok (.goto 9, 3) := by decide +kernel
theorem dX2_valueOf_16 : decode cX2_valueOf 16 = .ok (.aload_n 0, 1) := by decide +kernel
theorem dX2_valueOf_17 : decode cX2_valueOf 17 = .ok (.getfield 23, 3) := by decide +kernel
theorem dX2_valueOf_20 : decode cX2_valueOf 20 = .ok (.iload_n 1, 1) := by decide +kernel
theorem dX2_valueOf_21 : decode cX2_valueOf 21 = .ok (.iaload, 1) := by decide +kernel
theorem dX2_valueOf_22 : decode cX2_valueOf 22 = .ok (.ireturn, 1) := by decide +kernel
theorem dX2_rowAt_0 : decode cX2_rowAt 0 = .ok (.iload_n 1, 1) := by decide +kernel
theorem dX2_rowAt_1 : decode cX2_rowAt 1 = .ok (.ifCond .lt 11, 3) := by decide +kernel
theorem dX2_rowAt_4 : decode cX2_rowAt 4 = .ok (.iload_n 1, 1) := by decide +kernel
theorem dX2_rowAt_5 : decode cX2_rowAt 5 = .ok (.aload_n 0, 1) := by decide +kernel
theorem dX2_rowAt_6 : decode cX2_rowAt 6 = .ok (.getfield 35, 3) := by decide +kernel
theorem dX2_rowAt_9 : decode cX2_rowAt 9 = .ok (.if_icmp .lt 7, 3) := by decide +kernel
theorem dX2_rowAt_12 : decode cX2_rowAt 12 = .ok (.iconst (-1), 1) := by decide +kernel
theorem dX2_rowAt_13 : decode cX2_rowAt 13 = .ok (.goto 9, 3) := by decide +kernel
theorem dX2_rowAt_16 : decode cX2_rowAt 16 = .ok (.aload_n 0, 1) := by decide +kernel
theorem dX2_rowAt_17 : decode cX2_rowAt 17 = .ok (.getfield 26, 3) := by decide +kernel
theorem dX2_rowAt_20 : decode cX2_rowAt 20 = .ok (.iload_n 1, 1) := by decide +kernel
theorem dX2_rowAt_21 : decode cX2_rowAt 21 = .ok (.iaload, 1) := by decide +kernel
theorem dX2_rowAt_22 : decode cX2_rowAt 22 = .ok (.ireturn, 1) := by decide +kernel
theorem dX2_keyAt_0 : decode cX2_keyAt 0 = .ok (.iload_n 1, 1) := by decide +kernel
theorem dX2_keyAt_1 : decode cX2_keyAt 1 = .ok (.ifCond .lt 11, 3) := by decide +kernel
theorem dX2_keyAt_4 : decode cX2_keyAt 4 = .ok (.iload_n 1, 1) := by decide +kernel
theorem dX2_keyAt_5 : decode cX2_keyAt 5 = .ok (.aload_n 0, 1) := by decide +kernel
theorem dX2_keyAt_6 : decode cX2_keyAt 6 = .ok (.getfield 35, 3) := by decide +kernel
theorem dX2_keyAt_9 : decode cX2_keyAt 9 = .ok (.if_icmp .lt 7, 3) := by decide +kernel
theorem dX2_keyAt_12 : decode cX2_keyAt 12 = .ok (.iconst (-1), 1) := by decide +kernel
theorem dX2_keyAt_13 : decode cX2_keyAt 13 = .ok (.goto 14, 3) := by decide +kernel
theorem dX2_keyAt_16 : decode cX2_keyAt 16 = .ok (.aload_n 0, 1) := by decide +kernel
theorem dX2_keyAt_17 : decode cX2_keyAt 17 = .ok (.getfield 19, 3) := by decide +kernel
theorem dX2_keyAt_20 : decode cX2_keyAt 20 = .ok (.aload_n 0, 1) := by decide +kernel
theorem dX2_keyAt_21 : decode cX2_keyAt 21 = .ok (.getfield 26, 3) := by decide +kernel
theorem dX2_keyAt_24 : decode cX2_keyAt 24 = .ok (.iload_n 1, 1) := by decide +kernel
theorem dX2_keyAt_25 : decode cX2_keyAt 25 = .ok (.iaload, 1) := by decide +kernel
theorem dX2_keyAt_26 : decode cX2_keyAt 26 = .ok (.iaload, 1) := by decide +kernel
theorem dX2_keyAt_27 : decode cX2_keyAt 27 = .ok (.ireturn, 1) := by decide +kernel
set_option maxRecDepth 20000 in
theorem ggX2_hasOnlyKey_X2_keyAt : GoodIn wsX2_hasOnlyKey wsX2_keyAt := goodIn_r _ [5, 6, 7, 8, 9, 10, 11, 12, 13, 14, 15, 16] (by decide +kernel) (by decide +kernel)
set_option maxRecDepth 20000 in
theorem gX2_hasOnlyKey_X2_keyAt : GoodIn wsX2_hasOnlyKey (wsV RX2 50 RX2 yX2_keyAt wsX2_keyAt) := goodIn_app (goodIn_of _ (by decide +kernel)) ggX2_hasOnlyKey_X2_keyAt
theorem dX2_hasOnlyKey_0 : decode cX2_hasOnlyKey 0 = .ok (.iload_n 2, 1) := by decide +kernel
theorem dX2_hasOnlyKey_1 : decode cX2_hasOnlyKey 1 = .ok (.istore 4, 2) := by decide +kernel
theorem dX2_hasOnlyKey_3 : decode cX2_hasOnlyKey 3 = .ok (.iload 4, 2) := by decide +kernel
theorem dX2_hasOnlyKey_5 : decode cX2_hasOnlyKey 5 = .ok (.iload_n 3, 1) := by decide +kernel
theorem dX2_hasOnlyKey_6 : decode cX2_hasOnlyKey 6 = .ok (.if_icmp .ge 21, 3) := by decide +kernel
theorem dX2_hasOnlyKey_9 : decode cX2_hasOnlyKey 9 = .ok (.aload_n 0, 1) := by decide +kernel
theorem dX2_hasOnlyKey_10 : decode cX2_hasOnlyKey 10 = .ok (.iload 4, 2) := by decide +kernel
theorem dX2_hasOnlyKey_12 : decode cX2_hasOnlyKey 12 = .ok (.invokevirtual 50, 3) := by decide +kernel
theorem dX2_hasOnlyKey_15 : decode cX2_hasOnlyKey 15 = .ok (.iload_n 1, 1) := by decide +kernel
theorem dX2_hasOnlyKey_16 : decode cX2_hasOnlyKey 16 = .ok (.if_icmp .eq 5, 3) := by decide +kernel
theorem dX2_hasOnlyKey_19 : decode cX2_hasOnlyKey 19 = .ok (.iconst 0, 1) := by decide +kernel
theorem dX2_hasOnlyKey_20 : decode cX2_hasOnlyKey 20 = .ok (.ireturn, 1) := by decide +kernel
theorem dX2_hasOnlyKey_21 : decode cX2_hasOnlyKey 21 = .ok (.iinc 4 1, 3) := by decide +kernel
theorem dX2_hasOnlyKey_24 : decode cX2_hasOnlyKey 24 = .ok (.goto (-21), 3) := by decide +kernel
theorem dX2_hasOnlyKey_27 : decode cX2_hasOnlyKey 27 = .ok (.iconst 1, 1) := by decide +kernel
theorem dX2_hasOnlyKey_28 : decode cX2_hasOnlyKey 28 = .ok (.ireturn, 1) := by decide +kernel
set_option maxRecDepth 20000 in
theorem ggX2_layInParts_X2_keyAt : GoodIn wsX2_layInParts wsX2_keyAt := goodIn_r _ [10, 1, 11, 4, 34, 35, 36, 37, 38, 39, 40, 41] (by decide +kernel) (by decide +kernel)
set_option maxRecDepth 20000 in
theorem gX2_layInParts_X2_keyAt : GoodIn wsX2_layInParts (wsV RX2 50 RX2 yX2_keyAt wsX2_keyAt) := goodIn_app (goodIn_of _ (by decide +kernel)) ggX2_layInParts_X2_keyAt
set_option maxRecDepth 20000 in
theorem ggX2_layInParts_X3_partOf : GoodIn wsX2_layInParts wsX3_partOf := goodIn_r _ [16, 17, 18, 19, 15, 20, 21, 22, 23, 24, 25, 26, 27, 28, 42] (by decide +kernel) (by decide +kernel)
set_option maxRecDepth 20000 in
theorem gX2_layInParts_X3_partOf : GoodIn wsX2_layInParts (wsV RX2 54 RX3 yX3_partOf wsX3_partOf) := goodIn_app (goodIn_of _ (by decide +kernel)) ggX2_layInParts_X3_partOf
set_option maxRecDepth 20000 in
theorem ggX2_layInParts_X3_parts : GoodIn wsX2_layInParts wsX3_parts := goodIn_r _ [27, 28, 42] (by decide +kernel) (by decide +kernel)
set_option maxRecDepth 20000 in
theorem gX2_layInParts_X3_parts : GoodIn wsX2_layInParts (wsV RX2 60 RX3 yX3_parts wsX3_parts) := goodIn_app (goodIn_of _ (by decide +kernel)) ggX2_layInParts_X3_parts
set_option maxRecDepth 20000 in
theorem ggX2_layInParts_X3_pagesFor : GoodIn wsX2_layInParts wsX3_pagesFor := goodIn_r _ [33, 28, 42] (by decide +kernel) (by decide +kernel)
set_option maxRecDepth 20000 in
theorem gX2_layInParts_X3_pagesFor : GoodIn wsX2_layInParts (wsV RX2 64 RX3 yX3_pagesFor wsX3_pagesFor) := goodIn_app (goodIn_of _ (by decide +kernel)) ggX2_layInParts_X3_pagesFor
theorem dX2_layInParts_0 : decode cX2_layInParts 0 = .ok (.iload_n 1, 1) := by decide +kernel
theorem dX2_layInParts_1 : decode cX2_layInParts 1 = .ok (.ifCond .lt 21, 3) := by decide +kernel
theorem dX2_layInParts_4 : decode cX2_layInParts 4 = .ok (.iload_n 2, 1) := by decide +kernel
theorem dX2_layInParts_5 : decode cX2_layInParts 5 = .ok (.aload_n 0, 1) := by decide +kernel
theorem dX2_layInParts_6 : decode cX2_layInParts 6 = .ok (.getfield 35, 3) := by decide +kernel
theorem dX2_layInParts_9 : decode cX2_layInParts 9 = .ok (.if_icmp .gt 13, 3) := by decide +kernel
theorem dX2_layInParts_12 : decode cX2_layInParts 12 = .ok (.iload_n 3, 1) := by decide +kernel
theorem dX2_layInParts_13 : decode cX2_layInParts 13 = .ok (.ifCond .lt 9, 3) := by decide +kernel
theorem dX2_layInParts_16 : decode cX2_layInParts 16 = .ok (.iload_n 3, 1) := by decide +kernel
theorem dX2_layInParts_17 : decode cX2_layInParts 17 = .ok (.bipush 8, 2) := by decide +kernel
theorem dX2_layInParts_19 : decode cX2_layInParts 19 = .ok (.if_icmp .lt 5, 3) := by decide +kernel
theorem dX2_layInParts_22 : decode cX2_layInParts 22 = .ok (.iconst 0, 1) := by decide +kernel
theorem dX2_layInParts_23 : decode cX2_layInParts 23 = .ok (.ireturn, 1) := by decide +kernel
theorem dX2_layInParts_24 : decode cX2_layInParts 24 = .ok (.iload_n 1, 1) := by decide +kernel
theorem dX2_layInParts_25 : decode cX2_layInParts 25 = .ok (.istore 4, 2) := by decide +kernel
theorem dX2_layInParts_27 : decode cX2_layInParts 27 = .ok (.iload 4, 2) := by decide +kernel
theorem dX2_layInParts_29 : decode cX2_layInParts 29 = .ok (.iload_n 2, 1) := by decide +kernel
theorem dX2_layInParts_30 : decode cX2_layInParts 30 = .ok (.if_icmp .ge 41, 3) := by decide +kernel
theorem dX2_layInParts_33 : decode cX2_layInParts 33 = .ok (.aload_n 0, 1) := by decide +kernel
theorem dX2_layInParts_34 : decode cX2_layInParts 34 = .ok (.getfield 29, 3) := by decide +kernel
theorem dX2_layInParts_37 : decode cX2_layInParts 37 = .ok (.iload 4, 2) := by decide +kernel
theorem dX2_layInParts_39 : decode cX2_layInParts 39 = .ok (.aload_n 0, 1) := by decide +kernel
theorem dX2_layInParts_40 : decode cX2_layInParts 40 = .ok (.getfield 9, 3) := by decide +kernel
theorem dX2_layInParts_43 : decode cX2_layInParts 43 = .ok (.aload_n 0, 1) := by decide +kernel
theorem dX2_layInParts_44 : decode cX2_layInParts 44 = .ok (.iload 4, 2) := by decide +kernel
theorem dX2_layInParts_46 : decode cX2_layInParts 46 = .ok (.invokevirtual 50, 3) := by decide +kernel
theorem dX2_layInParts_49 : decode cX2_layInParts 49 = .ok (.iload_n 3, 1) := by decide +kernel
theorem dX2_layInParts_50 : decode cX2_layInParts 50 = .ok (.invokevirtual 54, 3) := by decide +kernel
theorem dX2_layInParts_53 : decode cX2_layInParts 53 = .ok (.bipush 9, 2) := by decide +kernel
theorem dX2_layInParts_55 : decode cX2_layInParts 55 = .ok (.ishl, 1) := by decide +kernel
theorem dX2_layInParts_56 : decode cX2_layInParts 56 = .ok (.aload_n 0, 1) := by decide +kernel
theorem dX2_layInParts_57 : decode cX2_layInParts 57 = .ok (.getfield 26, 3) := by decide +kernel
theorem dX2_layInParts_60 : decode cX2_layInParts 60 = .ok (.iload 4, 2) := by decide +kernel
theorem dX2_layInParts_62 : decode cX2_layInParts 62 = .ok (.iaload, 1) := by decide +kernel
theorem dX2_layInParts_63 : decode cX2_layInParts 63 = .ok (.ior, 1) := by decide +kernel
theorem dX2_layInParts_64 : decode cX2_layInParts 64 = .ok (.iastore, 1) := by decide +kernel
theorem dX2_layInParts_65 : decode cX2_layInParts 65 = .ok (.iinc 4 1, 3) := by decide +kernel
theorem dX2_layInParts_68 : decode cX2_layInParts 68 = .ok (.goto (-41), 3) := by decide +kernel
theorem dX2_layInParts_71 : decode cX2_layInParts 71 = .ok (.iconst 0, 1) := by decide +kernel
theorem dX2_layInParts_72 : decode cX2_layInParts 72 = .ok (.istore 4, 2) := by decide +kernel
theorem dX2_layInParts_74 : decode cX2_layInParts 74 = .ok (.iload_n 1, 1) := by decide +kernel
theorem dX2_layInParts_75 : decode cX2_layInParts 75 = .ok (.istore 5, 2) := by decide +kernel
theorem dX2_layInParts_77 : decode cX2_layInParts 77 = .ok (.iconst 0, 1) := by decide +kernel
theorem dX2_layInParts_78 : decode cX2_layInParts 78 = .ok (.istore 6, 2) := by decide +kernel
theorem dX2_layInParts_80 : decode cX2_layInParts 80 = .ok (.iload 6, 2) := by decide +kernel
theorem dX2_layInParts_82 : decode cX2_layInParts 82 = .ok (.aload_n 0, 1) := by decide +kernel
theorem dX2_layInParts_83 : decode cX2_layInParts 83 = .ok (.getfield 9, 3) := by decide +kernel
theorem dX2_layInParts_86 : decode cX2_layInParts 86 = .ok (.invokevirtual 60, 3) := by decide +kernel
theorem dX2_layInParts_89 : decode cX2_layInParts 89 = .ok (.if_icmp .ge 101, 3) := by decide +kernel
theorem dX2_layInParts_92 : decode cX2_layInParts 92 = .ok (.iload 5, 2) := by decide +kernel
theorem dX2_layInParts_94 : decode cX2_layInParts 94 = .ok (.istore 7, 2) := by decide +kernel
theorem dX2_layInParts_96 : decode cX2_layInParts 96 = .ok (.iload_n 1, 1) := by decide +kernel
theorem dX2_layInParts_97 : decode cX2_layInParts 97 = .ok (.istore 8, 2) := by decide +kernel
theorem dX2_layInParts_99 : decode cX2_layInParts 99 = .ok (.iload 8, 2) := by decide +kernel
theorem dX2_layInParts_101 : decode cX2_layInParts 101 = .ok (.iload_n 2, 1) := by decide +kernel
theorem dX2_layInParts_102 : decode cX2_layInParts 102 = .ok (.if_icmp .ge 51, 3) := by decide +kernel
theorem dX2_layInParts_105 : decode cX2_layInParts 105 = .ok (.aload_n 0, 1) := by decide +kernel
theorem dX2_layInParts_106 : decode cX2_layInParts 106 = .ok (.getfield 29, 3) := by decide +kernel
theorem dX2_layInParts_109 : decode cX2_layInParts 109 = .ok (.iload 8, 2) := by decide +kernel
theorem dX2_layInParts_111 : decode cX2_layInParts 111 = .ok (.iaload, 1) := by decide +kernel
theorem dX2_layInParts_112 : decode cX2_layInParts 112 = .ok (.bipush 9, 2) := by decide +kernel
theorem dX2_layInParts_114 : decode cX2_layInParts 114 = .ok (.ishr, 1) := by decide +kernel
theorem dX2_layInParts_115 : decode cX2_layInParts 115 = .ok (.iload 6, 2) := by decide +kernel
theorem dX2_layInParts_117 : decode cX2_layInParts 117 = .ok (.if_icmp .ne 30, 3) := by decide +kernel
theorem dX2_layInParts_120 : decode cX2_layInParts 120 = .ok (.iload 5, 2) := by decide +kernel
theorem dX2_layInParts_122 : decode cX2_layInParts 122 = .ok (.iload_n 2, 1) := by decide +kernel
theorem dX2_layInParts_123 : decode cX2_layInParts 123 = .ok (.if_icmp .ge 24, 3) := by decide +kernel
theorem dX2_layInParts_126 : decode cX2_layInParts 126 = .ok (.aload_n 0, 1) := by decide +kernel
theorem dX2_layInParts_127 : decode cX2_layInParts 127 = .ok (.getfield 26, 3) := by decide +kernel
theorem dX2_layInParts_130 : decode cX2_layInParts 130 = .ok (.iload 5, 2) := by decide +kernel
theorem dX2_layInParts_132 : decode cX2_layInParts 132 = .ok (.aload_n 0, 1) := by decide +kernel
theorem dX2_layInParts_133 : decode cX2_layInParts 133 = .ok (.getfield 29, 3) := by decide +kernel
theorem dX2_layInParts_136 : decode cX2_layInParts 136 = .ok (.iload 8, 2) := by decide +kernel
theorem dX2_layInParts_138 : decode cX2_layInParts 138 = .ok (.iaload, 1) := by decide +kernel
theorem dX2_layInParts_139 : decode cX2_layInParts 139 = .ok (.sipush 511, 3) := by decide +kernel
theorem dX2_layInParts_142 : decode cX2_layInParts 142 = .ok (.iand, 1) := by decide +kernel
theorem dX2_layInParts_143 : decode cX2_layInParts 143 = .ok (.iastore, 1) := by decide +kernel
theorem dX2_layInParts_144 : decode cX2_layInParts 144 = .ok (.iinc 5 1, 3) := by decide +kernel
theorem dX2_layInParts_147 : decode cX2_layInParts 147 = .ok (.iinc 8 1, 3) := by decide +kernel
theorem dX2_layInParts_150 : decode cX2_layInParts 150 = .ok (.goto (-51), 3) := by decide +kernel
theorem dX2_layInParts_153 : decode cX2_layInParts 153 = .ok (.aload_n 0, 1) := by decide +kernel
theorem dX2_layInParts_154 : decode cX2_layInParts 154 = .ok (.getfield 32, 3) := by decide +kernel
theorem dX2_layInParts_157 : decode cX2_layInParts 157 = .ok (.iload_n 3, 1) := by decide +kernel
theorem dX2_layInParts_158 : decode cX2_layInParts 158 = .ok (.bipush 19, 2) := by decide +kernel
theorem dX2_layInParts_160 : decode cX2_layInParts 160 = .ok (.imul, 1) := by decide +kernel
theorem dX2_layInParts_161 : decode cX2_layInParts 161 = .ok (.iload 6, 2) := by decide +kernel
theorem dX2_layInParts_163 : decode cX2_layInParts 163 = .ok (.iadd, 1) := by decide +kernel
theorem dX2_layInParts_164 : decode cX2_layInParts 164 = .ok (.iload 5, 2) := by decide +kernel
theorem dX2_layInParts_166 : decode cX2_layInParts 166 = .ok (.iastore, 1) := by decide +kernel
theorem dX2_layInParts_167 : decode cX2_layInParts 167 = .ok (.iload 4, 2) := by decide +kernel
theorem dX2_layInParts_169 : decode cX2_layInParts 169 = .ok (.aload_n 0, 1) := by decide +kernel
theorem dX2_layInParts_170 : decode cX2_layInParts 170 = .ok (.getfield 9, 3) := by decide +kernel
theorem dX2_layInParts_173 : decode cX2_layInParts 173 = .ok (.iload 5, 2) := by decide +kernel
theorem dX2_layInParts_175 : decode cX2_layInParts 175 = .ok (.iload 7, 2) := by decide +kernel
theorem dX2_layInParts_177 : decode cX2_layInParts 177 = .ok (.isub, 1) := by decide +kernel
theorem dX2_layInParts_178 : decode cX2_layInParts 178 = .ok (.invokevirtual 64, 3) := by decide +kernel
theorem dX2_layInParts_181 : decode cX2_layInParts 181 = .ok (.iadd, 1) := by decide +kernel
theorem dX2_layInParts_182 : decode cX2_layInParts 182 = .ok (.istore 4, 2) := by decide +kernel
theorem dX2_layInParts_184 : decode cX2_layInParts 184 = .ok (.iinc 6 1, 3) := by decide +kernel
theorem dX2_layInParts_187 : decode cX2_layInParts 187 = .ok (.goto (-107), 3) := by decide +kernel
theorem dX2_layInParts_190 : decode cX2_layInParts 190 = .ok (.iload 4, 2) := by decide +kernel
theorem dX2_layInParts_192 : decode cX2_layInParts 192 = .ok (.ireturn, 1) := by decide +kernel
theorem dX2_partEnd_0 : decode cX2_partEnd 0 = .ok (.iload_n 1, 1) := by decide +kernel
theorem dX2_partEnd_1 : decode cX2_partEnd 1 = .ok (.ifCond .lt 19, 3) := by decide +kernel
theorem dX2_partEnd_4 : decode cX2_partEnd 4 = .ok (.iload_n 1, 1) := by decide +kernel
theorem dX2_partEnd_5 : decode cX2_partEnd 5 = .ok (.bipush 8, 2) := by decide +kernel
theorem dX2_partEnd_7 : decode cX2_partEnd 7 = .ok (.if_icmp .ge 13, 3) := by decide +kernel
theorem dX2_partEnd_10 : decode cX2_partEnd 10 = .ok (.iload_n 2, 1) := by decide +kernel
theorem dX2_partEnd_11 : decode cX2_partEnd 11 = .ok (.ifCond .lt 9, 3) := by decide +kernel
theorem dX2_partEnd_14 : decode cX2_partEnd 14 = .ok (.iload_n 2, 1) := by decide +kernel
theorem dX2_partEnd_15 : decode cX2_partEnd 15 = .ok (.bipush 19, 2) := by decide +kernel
theorem dX2_partEnd_17 : decode cX2_partEnd 17 = .ok (.if_icmp .lt 5, 3) := by decide +kernel
theorem dX2_partEnd_20 : decode cX2_partEnd 20 = .ok (.iconst 0, 1) := by decide +kernel
theorem dX2_partEnd_21 : decode cX2_partEnd 21 = .ok (.ireturn, 1) := by decide +kernel
theorem dX2_partEnd_22 : decode cX2_partEnd 22 = .ok (.aload_n 0, 1) := by decide +kernel
theorem dX2_partEnd_23 : decode cX2_partEnd 23 = .ok (.getfield 32, 3) := by decide +kernel
theorem dX2_partEnd_26 : decode cX2_partEnd 26 = .ok (.iload_n 1, 1) := by decide +kernel
theorem dX2_partEnd_27 : decode cX2_partEnd 27 = .ok (.bipush 19, 2) := by decide +kernel
theorem dX2_partEnd_29 : decode cX2_partEnd 29 = .ok (.imul, 1) := by decide +kernel
theorem dX2_partEnd_30 : decode cX2_partEnd 30 = .ok (.iload_n 2, 1) := by decide +kernel
theorem dX2_partEnd_31 : decode cX2_partEnd 31 = .ok (.iadd, 1) := by decide +kernel
theorem dX2_partEnd_32 : decode cX2_partEnd 32 = .ok (.iaload, 1) := by decide +kernel
theorem dX2_partEnd_33 : decode cX2_partEnd 33 = .ok (.ireturn, 1) := by decide +kernel
theorem dX3_init_0 : decode cX3_init 0 = .ok (.aload_n 0, 1) := by decide +kernel
theorem dX3_init_1 : decode cX3_init 1 = .ok (.invokespecial 3, 3) := by decide +kernel
theorem dX3_init_4 : decode cX3_init 4 = .ok (.aload_n 0, 1) := by decide +kernel
theorem dX3_init_5 : decode cX3_init 5 = .ok (.getstatic 9, 3) := by decide +kernel
theorem dX3_init_8 : decode cX3_init 8 = .ok (.invokevirtual 15, 3) := by decide +kernel
theorem dX3_init_11 : decode cX3_init 11 = .ok (.checkcast 16, 3) := by decide +kernel
theorem dX3_init_14 : decode cX3_init 14 = .ok (.putfield 20, 3) := by decide +kernel
theorem dX3_init_17 : decode cX3_init 17 = .ok (.return_, 1) := by decide +kernel
theorem dX3_change_0 : decode cX3_change 0 = .ok (.iload_n 1, 1) := by decide +kernel
theorem dX3_change_1 : decode cX3_change 1 = .ok (.ifCond .lt 30, 3) := by decide +kernel
theorem dX3_change_4 : decode cX3_change 4 = .ok (.iload_n 1, 1) := by decide +kernel
theorem dX3_change_5 : decode cX3_change 5 = .ok (.aload_n 0, 1) := by decide +kernel
theorem dX3_change_6 : decode cX3_change 6 = .ok (.getfield 20, 3) := by decide +kernel
theorem dX3_change_9 : decode cX3_change 9 = .ok (.arraylength, 1) := by decide +kernel
theorem dX3_change_10 : decode cX3_change 10 = .ok (.if_icmp .ge 21, 3) := by decide +kernel
theorem dX3_change_13 : decode cX3_change 13 = .ok (.iload_n 2, 1) := by decide +kernel
theorem dX3_change_14 : decode cX3_change 14 = .ok (.getstatic 23, 3) := by decide +kernel
theorem dX3_change_17 : decode cX3_change 17 = .ok (.iload_n 1, 1) := by decide +kernel
theorem dX3_change_18 : decode cX3_change 18 = .ok (.iaload, 1) := by decide +kernel
theorem dX3_change_19 : decode cX3_change 19 = .ok (.if_icmp .lt 12, 3) := by decide +kernel
theorem dX3_change_22 : decode cX3_change 22 = .ok (.iload_n 2, 1) := by decide +kernel
theorem dX3_change_23 : decode cX3_change 23 = .ok (.getstatic 26, 3) := by decide +kernel
theorem dX3_change_26 : decode cX3_change 26 = .ok (.iload_n 1, 1) := by decide +kernel
theorem dX3_change_27 : decode cX3_change 27 = .ok (.iaload, 1) := by decide +kernel
theorem dX3_change_28 : decode cX3_change 28 = .ok (.if_icmp .le 5, 3) := by decide +kernel
theorem dX3_change_31 : decode cX3_change 31 = .ok (.iconst (-1), 1) := by decide +kernel
theorem dX3_change_32 : decode cX3_change 32 = .ok (.ireturn, 1) := by decide +kernel
theorem dX3_change_33 : decode cX3_change 33 = .ok (.aload_n 0, 1) := by decide +kernel
theorem dX3_change_34 : decode cX3_change 34 = .ok (.getfield 20, 3) := by decide +kernel
theorem dX3_change_37 : decode cX3_change 37 = .ok (.iload_n 1, 1) := by decide +kernel
theorem dX3_change_38 : decode cX3_change 38 = .ok (.iaload, 1) := by decide +kernel
theorem dX3_change_39 : decode cX3_change 39 = .ok (.istore_n 3, 1) := by decide +kernel
theorem dX3_change_40 : decode cX3_change 40 = .ok (.aload_n 0, 1) := by decide +kernel
theorem dX3_change_41 : decode cX3_change 41 = .ok (.getfield 20, 3) := by decide +kernel
theorem dX3_change_44 : decode cX3_change 44 = .ok (.iload_n 1, 1) := by decide +kernel
theorem dX3_change_45 : decode cX3_change 45 = .ok (.iload_n 2, 1) := by decide +kernel
theorem dX3_change_46 : decode cX3_change 46 = .ok (.iastore, 1) := by decide +kernel
theorem dX3_change_47 : decode cX3_change 47 = .ok (.iload_n 3, 1) := by decide +kernel
theorem dX3_change_48 : decode cX3_change 48 = .ok (.ireturn, 1) := by decide +kernel
theorem dX3_memory_0 : decode cX3_memory 0 = .ok (.aload_n 0, 1) := by decide +kernel
theorem dX3_memory_1 : decode cX3_memory 1 = .ok (.getfield 20, 3) := by decide +kernel
theorem dX3_memory_4 : decode cX3_memory 4 = .ok (.iconst 1, 1) := by decide +kernel
theorem dX3_memory_5 : decode cX3_memory 5 = .ok (.iaload, 1) := by decide +kernel
theorem dX3_memory_6 : decode cX3_memory 6 = .ok (.ireturn, 1) := by decide +kernel
theorem dX3_partings_0 : decode cX3_partings 0 = .ok (.aload_n 0, 1) := by decide +kernel
theorem dX3_partings_1 : decode cX3_partings 1 = .ok (.getfield 20, 3) := by decide +kernel
theorem dX3_partings_4 : decode cX3_partings 4 = .ok (.iconst 2, 1) := by decide +kernel
theorem dX3_partings_5 : decode cX3_partings 5 = .ok (.iaload, 1) := by decide +kernel
theorem dX3_partings_6 : decode cX3_partings 6 = .ok (.ireturn, 1) := by decide +kernel
theorem dX3_parts_0 : decode cX3_parts 0 = .ok (.aload_n 0, 1) := by decide +kernel
theorem dX3_parts_1 : decode cX3_parts 1 = .ok (.getfield 20, 3) := by decide +kernel
theorem dX3_parts_4 : decode cX3_parts 4 = .ok (.iconst 1, 1) := by decide +kernel
theorem dX3_parts_5 : decode cX3_parts 5 = .ok (.iaload, 1) := by decide +kernel
theorem dX3_parts_6 : decode cX3_parts 6 = .ok (.iconst 1, 1) := by decide +kernel
theorem dX3_parts_7 : decode cX3_parts 7 = .ok (.isub, 1) := by decide +kernel
theorem dX3_parts_8 : decode cX3_parts 8 = .ok (.ireturn, 1) := by decide +kernel
theorem dX3_blockPages_0 : decode cX3_blockPages 0 = .ok (.aload_n 0, 1) := by decide +kernel
theorem dX3_blockPages_1 : decode cX3_blockPages 1 = .ok (.getfield 20, 3) := by decide +kernel
theorem dX3_blockPages_4 : decode cX3_blockPages 4 = .ok (.iconst 1, 1) := by decide +kernel
theorem dX3_blockPages_5 : decode cX3_blockPages 5 = .ok (.iaload, 1) := by decide +kernel
theorem dX3_blockPages_6 : decode cX3_blockPages 6 = .ok (.iconst 2, 1) := by decide +kernel
theorem dX3_blockPages_7 : decode cX3_blockPages 7 = .ok (.isub, 1) := by decide +kernel
theorem dX3_blockPages_8 : decode cX3_blockPages 8 = .ok (.ireturn, 1) := by decide +kernel
set_option maxRecDepth 20000 in
theorem ggX3_blockRows_X3_blockPages : GoodIn wsX3_blockRows wsX3_blockPages := goodIn_r _ [6, 1, 7] (by decide +kernel) (by decide +kernel)
set_option maxRecDepth 20000 in
theorem gX3_blockRows_X3_blockPages : GoodIn wsX3_blockRows (wsV RX3 29 RX3 yX3_blockPages wsX3_blockPages) := goodIn_app (goodIn_of _ (by decide +kernel)) ggX3_blockRows_X3_blockPages
theorem dX3_blockRows_0 : decode cX3_blockRows 0 = .ok (.aload_n 0, 1) := by decide +kernel
theorem dX3_blockRows_1 : decode cX3_blockRows 1 = .ok (.invokevirtual 29, 3) := by decide +kernel
theorem dX3_blockRows_4 : decode cX3_blockRows 4 = .ok (.aload_n 0, 1) := by decide +kernel
theorem dX3_blockRows_5 : decode cX3_blockRows 5 = .ok (.getfield 20, 3) := by decide +kernel
theorem dX3_blockRows_8 : decode cX3_blockRows 8 = .ok (.iconst 0, 1) := by decide +kernel
theorem dX3_blockRows_9 : decode cX3_blockRows 9 = .ok (.iaload, 1) := by decide +kernel
theorem dX3_blockRows_10 : decode cX3_blockRows 10 = .ok (.imul, 1) := by decide +kernel
theorem dX3_blockRows_11 : decode cX3_blockRows 11 = .ok (.ireturn, 1) := by decide +kernel
theorem dX3_pagesFor_0 : decode cX3_pagesFor 0 = .ok (.aload_n 0, 1) := by decide +kernel
theorem dX3_pagesFor_1 : decode cX3_pagesFor 1 = .ok (.getfield 20, 3) := by decide +kernel
theorem dX3_pagesFor_4 : decode cX3_pagesFor 4 = .ok (.iconst 0, 1) := by decide +kernel
theorem dX3_pagesFor_5 : decode cX3_pagesFor 5 = .ok (.iaload, 1) := by decide +kernel
theorem dX3_pagesFor_6 : decode cX3_pagesFor 6 = .ok (.istore_n 2, 1) := by decide +kernel
theorem dX3_pagesFor_7 : decode cX3_pagesFor 7 = .ok (.iload_n 2, 1) := by decide +kernel
theorem dX3_pagesFor_8 : decode cX3_pagesFor 8 = .ok (.iconst 1, 1) := by decide +kernel
theorem dX3_pagesFor_9 : decode cX3_pagesFor 9 = .ok (.if_icmp .ge 7, 3) := by decide +kernel
theorem dX3_pagesFor_12 : decode cX3_pagesFor 12 = .ok (.iconst 0, 1) := by decide +kernel
theorem dX3_pagesFor_13 : decode cX3_pagesFor 13 = .ok (.goto 10, 3) := by decide +kernel
theorem dX3_pagesFor_16 : decode cX3_pagesFor 16 = .ok (.iload_n 1, 1) := by decide +kernel
theorem dX3_pagesFor_17 : decode cX3_pagesFor 17 = .ok (.iload_n 2, 1) := by decide +kernel
theorem dX3_pagesFor_18 : decode cX3_pagesFor 18 = .ok (.iadd, 1) := by decide +kernel
theorem dX3_pagesFor_19 : decode cX3_pagesFor 19 = .ok (.iconst 1, 1) := by decide +kernel
theorem dX3_pagesFor_20 : decode cX3_pagesFor 20 = .ok (.isub, 1) := by decide +kernel
theorem dX3_pagesFor_21 : decode cX3_pagesFor 21 = .ok (.iload_n 2, 1) := by decide +kernel
theorem dX3_pagesFor_22 : decode cX3_pagesFor 22 = .ok (.idiv, 1) := by decide +kernel
theorem dX3_pagesFor_23 : decode cX3_pagesFor 23 = .ok (.ireturn, 1) := by decide +kernel
set_option maxRecDepth 20000 in
theorem ggX3_partOf_X3_hashOf : GoodIn wsX3_partOf wsX3_hashOf := goodIn_r _ [5, 6, 7, 8] (by decide +kernel) (by decide +kernel)
set_option maxRecDepth 20000 in
theorem gX3_partOf_X3_hashOf : GoodIn wsX3_partOf (va_wsS RX3 33 yX3_hashOf wsX3_hashOf) := goodIn_app (goodIn_of _ (by decide +kernel)) ggX3_partOf_X3_hashOf
set_option maxRecDepth 20000 in
theorem ggX3_partOf_X3_parts : GoodIn wsX3_partOf wsX3_parts := goodIn_r _ [12, 13, 14] (by decide +kernel) (by decide +kernel)
set_option maxRecDepth 20000 in
theorem gX3_partOf_X3_parts : GoodIn wsX3_partOf (wsV RX3 39 RX3 yX3_parts wsX3_parts) := goodIn_app (goodIn_of _ (by decide +kernel)) ggX3_partOf_X3_parts
theorem dX3_partOf_0 : decode cX3_partOf 0 = .ok (.iload_n 1, 1) := by decide +kernel
theorem dX3_partOf_1 : decode cX3_partOf 1 = .ok (.iload_n 2, 1) := by decide +kernel
theorem dX3_partOf_2 : decode cX3_partOf 2 = .ok (.invokestatic 33, 3) := by decide +kernel
theorem dX3_partOf_5 : decode cX3_partOf 5 = .ok (.i2l, 1) := by decide +kernel
theorem dX3_partOf_6 : decode cX3_partOf 6 = .ok (.ldc2_w 37, 3) := by decide +kernel
theorem dX3_partOf_9 : decode cX3_partOf 9 = .ok (.land, 1) := by decide +kernel
theorem dX3_partOf_10 : decode cX3_partOf 10 = .ok (.lstore_n 3, 1) := by decide +kernel
theorem dX3_partOf_11 : decode cX3_partOf 11 = .ok (.aload_n 0, 1) := by decide +kernel
theorem dX3_partOf_12 : decode cX3_partOf 12 = .ok (.invokevirtual 39, 3) := by decide +kernel
theorem dX3_partOf_15 : decode cX3_partOf 15 = .ok (.istore 5, 2) := by decide +kernel
theorem dX3_partOf_17 : decode cX3_partOf 17 = .ok (.iload 5, 2) := by decide +kernel
theorem dX3_partOf_19 : decode cX3_partOf 19 = .ok (.iconst 1, 1) := by decide +kernel
theorem dX3_partOf_20 : decode cX3_partOf 20 = .ok (.if_icmp .ge 7, 3) := by decide +kernel
theorem dX3_partOf_23 : decode cX3_partOf 23 = .ok (.iconst 0, 1) := by decide +kernel
theorem dX3_partOf_24 : decode cX3_partOf 24 = .ok (.goto 9, 3) := by decide +kernel
theorem dX3_partOf_27 : decode cX3_partOf 27 = .ok (.lload_n 3, 1) := by decide +kernel
theorem dX3_partOf_28 : decode cX3_partOf 28 = .ok (.iload 5, 2) := by decide +kernel
theorem dX3_partOf_30 : decode cX3_partOf 30 = .ok (.i2l, 1) := by decide +kernel
theorem dX3_partOf_31 : decode cX3_partOf 31 = .ok (.lrem, 1) := by decide +kernel
theorem dX3_partOf_32 : decode cX3_partOf 32 = .ok (.l2i, 1) := by decide +kernel
theorem dX3_partOf_33 : decode cX3_partOf 33 = .ok (.ireturn, 1) := by decide +kernel
theorem dX3_hashOf_0 : decode cX3_hashOf 0 = .ok (.iload_n 0, 1) := by decide +kernel
theorem dX3_hashOf_1 : decode cX3_hashOf 1 = .ok (.ldc 42, 2) := by decide +kernel
theorem dX3_hashOf_3 : decode cX3_hashOf 3 = .ok (.imul, 1) := by decide +kernel
theorem dX3_hashOf_4 : decode cX3_hashOf 4 = .ok (.iload_n 1, 1) := by decide +kernel
theorem dX3_hashOf_5 : decode cX3_hashOf 5 = .ok (.ldc 43, 2) := by decide +kernel
theorem dX3_hashOf_7 : decode cX3_hashOf 7 = .ok (.imul, 1) := by decide +kernel
theorem dX3_hashOf_8 : decode cX3_hashOf 8 = .ok (.iadd, 1) := by decide +kernel
theorem dX3_hashOf_9 : decode cX3_hashOf 9 = .ok (.istore_n 2, 1) := by decide +kernel
theorem dX3_hashOf_10 : decode cX3_hashOf 10 = .ok (.iload_n 2, 1) := by decide +kernel
theorem dX3_hashOf_11 : decode cX3_hashOf 11 = .ok (.iload_n 2, 1) := by decide +kernel
theorem dX3_hashOf_12 : decode cX3_hashOf 12 = .ok (.bipush 15, 2) := by decide +kernel
theorem dX3_hashOf_14 : decode cX3_hashOf 14 = .ok (.iushr, 1) := by decide +kernel
theorem dX3_hashOf_15 : decode cX3_hashOf 15 = .ok (.ixor, 1) := by decide +kernel
theorem dX3_hashOf_16 : decode cX3_hashOf 16 = .ok (.istore_n 2, 1) := by decide +kernel
theorem dX3_hashOf_17 : decode cX3_hashOf 17 = .ok (.iload_n 2, 1) := by decide +kernel
theorem dX3_hashOf_18 : decode cX3_hashOf 18 = .ok (.ldc 44, 2) := by decide +kernel
theorem dX3_hashOf_20 : decode cX3_hashOf 20 = .ok (.imul, 1) := by decide +kernel
theorem dX3_hashOf_21 : decode cX3_hashOf 21 = .ok (.istore_n 2, 1) := by decide +kernel
theorem dX3_hashOf_22 : decode cX3_hashOf 22 = .ok (.iload_n 2, 1) := by decide +kernel
theorem dX3_hashOf_23 : decode cX3_hashOf 23 = .ok (.iload_n 2, 1) := by decide +kernel
theorem dX3_hashOf_24 : decode cX3_hashOf 24 = .ok (.bipush 13, 2) := by decide +kernel
theorem dX3_hashOf_26 : decode cX3_hashOf 26 = .ok (.iushr, 1) := by decide +kernel
theorem dX3_hashOf_27 : decode cX3_hashOf 27 = .ok (.ixor, 1) := by decide +kernel
theorem dX3_hashOf_28 : decode cX3_hashOf 28 = .ok (.ireturn, 1) := by decide +kernel
theorem dX4_init_0 : decode cX4_init 0 = .ok (.aload_n 0, 1) := by decide +kernel
theorem dX4_init_1 : decode cX4_init 1 = .ok (.invokespecial 3, 3) := by decide +kernel
theorem dX4_init_4 : decode cX4_init 4 = .ok (.aload_n 0, 1) := by decide +kernel
theorem dX4_init_5 : decode cX4_init 5 = .ok (.sipush 500, 3) := by decide +kernel
theorem dX4_init_8 : decode cX4_init 8 = .ok (.newarray .int, 2) := by decide +kernel
theorem dX4_init_10 : decode cX4_init 10 = .ok (.putfield 9, 3) := by decide +kernel
theorem dX4_init_13 : decode cX4_init 13 = .ok (.aload_n 0, 1) := by decide +kernel
theorem dX4_init_14 : decode cX4_init 14 = .ok (.sipush 500, 3) := by decide +kernel
theorem dX4_init_17 : decode cX4_init 17 = .ok (.newarray .int, 2) := by decide +kernel
theorem dX4_init_19 : decode cX4_init 19 = .ok (.putfield 15, 3) := by decide +kernel
theorem dX4_init_22 : decode cX4_init 22 = .ok (.aload_n 0, 1) := by decide +kernel
theorem dX4_init_23 : decode cX4_init 23 = .ok (.iconst 0, 1) := by decide +kernel
theorem dX4_init_24 : decode cX4_init 24 = .ok (.putfield 18, 3) := by decide +kernel
theorem dX4_init_27 : decode cX4_init 27 = .ok (.return_, 1) := by decide +kernel
theorem dX4_add_0 : decode cX4_add 0 = .ok (.aload_n 0, 1) := by decide +kernel
theorem dX4_add_1 : decode cX4_add 1 = .ok (.getfield 18, 3) := by decide +kernel
theorem dX4_add_4 : decode cX4_add 4 = .ok (.sipush 500, 3) := by decide +kernel
theorem dX4_add_7 : decode cX4_add 7 = .ok (.if_icmp .lt 6, 3) := by decide +kernel
theorem dX4_add_10 : decode cX4_add 10 = .ok (.bipush (-2), 2) := by decide +kernel
theorem dX4_add_12 : decode cX4_add 12 = .ok (.ireturn, 1) := by decide +kernel
theorem dX4_add_13 : decode cX4_add 13 = .ok (.aload_n 0, 1) := by decide +kernel
theorem dX4_add_14 : decode cX4_add 14 = .ok (.getfield 9, 3) := by decide +kernel
theorem dX4_add_17 : decode cX4_add 17 = .ok (.aload_n 0, 1) := by decide +kernel
theorem dX4_add_18 : decode cX4_add 18 = .ok (.getfield 18, 3) := by decide +kernel
theorem dX4_add_21 : decode cX4_add 21 = .ok (.iload_n 1, 1) := by decide +kernel
theorem dX4_add_22 : decode cX4_add 22 = .ok (.iastore, 1) := by decide +kernel
theorem dX4_add_23 : decode cX4_add 23 = .ok (.aload_n 0, 1) := by decide +kernel
theorem dX4_add_24 : decode cX4_add 24 = .ok (.getfield 15, 3) := by decide +kernel
theorem dX4_add_27 : decode cX4_add 27 = .ok (.aload_n 0, 1) := by decide +kernel
theorem dX4_add_28 : decode cX4_add 28 = .ok (.getfield 18, 3) := by decide +kernel
theorem dX4_add_31 : decode cX4_add 31 = .ok (.iload_n 2, 1) := by decide +kernel
theorem dX4_add_32 : decode cX4_add 32 = .ok (.iastore, 1) := by decide +kernel
theorem dX4_add_33 : decode cX4_add 33 = .ok (.aload_n 0, 1) := by decide +kernel
theorem dX4_add_34 : decode cX4_add 34 = .ok (.dup, 1) := by decide +kernel
theorem dX4_add_35 : decode cX4_add 35 = .ok (.getfield 18, 3) := by decide +kernel
theorem dX4_add_38 : decode cX4_add 38 = .ok (.iconst 1, 1) := by decide +kernel
theorem dX4_add_39 : decode cX4_add 39 = .ok (.iadd, 1) := by decide +kernel
theorem dX4_add_40 : decode cX4_add 40 = .ok (.putfield 18, 3) := by decide +kernel
theorem dX4_add_43 : decode cX4_add 43 = .ok (.aload_n 0, 1) := by decide +kernel
theorem dX4_add_44 : decode cX4_add 44 = .ok (.getfield 18, 3) := by decide +kernel
theorem dX4_add_47 : decode cX4_add 47 = .ok (.ireturn, 1) := by decide +kernel
theorem dX4_drop_0 : decode cX4_drop 0 = .ok (.iload_n 1, 1) := by decide +kernel
theorem dX4_drop_1 : decode cX4_drop 1 = .ok (.ifCond .lt 11, 3) := by decide +kernel
theorem dX4_drop_4 : decode cX4_drop 4 = .ok (.iload_n 1, 1) := by decide +kernel
theorem dX4_drop_5 : decode cX4_drop 5 = .ok (.aload_n 0, 1) := by decide +kernel
theorem dX4_drop_6 : decode cX4_drop 6 = .ok (.getfield 18, 3) := by decide +kernel
theorem dX4_drop_9 : decode cX4_drop 9 = .ok (.if_icmp .le 5, 3) := by decide +kernel
theorem dX4_drop_12 : decode cX4_drop 12 = .ok (.iconst (-1), 1) := by decide +kernel
theorem dX4_drop_13 : decode cX4_drop 13 = .ok (.ireturn, 1) := by decide +kernel
theorem dX4_drop_14 : decode cX4_drop 14 = .ok (.aload_n 0, 1) := by decide +kernel
theorem dX4_drop_15 : decode cX4_drop 15 = .ok (.dup, 1) := by decide +kernel
theorem dX4_drop_16 : decode cX4_drop 16 = .ok (.getfield 18, 3) := by decide +kernel
theorem dX4_drop_19 : decode cX4_drop 19 = .ok (.iload_n 1, 1) := by decide +kernel
theorem dX4_drop_20 : decode cX4_drop 20 = .ok (.isub, 1) := by decide +kernel
theorem dX4_drop_21 : decode cX4_drop 21 = .ok (.putfield 18, 3) := by decide +kernel
theorem dX4_drop_24 : decode cX4_drop 24 = .ok (.aload_n 0, 1) := by decide +kernel
theorem dX4_drop_25 : decode cX4_drop 25 = .ok (.getfield 18, 3) := by decide +kernel
theorem dX4_drop_28 : decode cX4_drop 28 = .ok (.ireturn, 1) := by decide +kernel
set_option maxRecDepth 20000 in
theorem ggX5_init_X3_init : GoodIn wsX5_init wsX3_init := goodIn_r _ [23, 24, 2, 3, 25, 26, 27, 28, 29, 30, 31, 32, 72] (by decide +kernel) (by decide +kernel)
set_option maxRecDepth 20000 in
theorem gX5_init_X3_init : GoodIn wsX5_init (wsX3_init) := ggX5_init_X3_init
set_option maxRecDepth 20000 in
theorem ggX5_init_X4_init : GoodIn wsX5_init wsX4_init := goodIn_r _ [35, 36, 2, 3, 37, 38, 39, 40, 78, 79, 80] (by decide +kernel) (by decide +kernel)
set_option maxRecDepth 20000 in
theorem gX5_init_X4_init : GoodIn wsX5_init (wsX4_init) := ggX5_init_X4_init
set_option maxRecDepth 20000 in
theorem ggX5_init_X1_init : GoodIn wsX5_init wsX1_init := goodIn_r _ [43, 44, 2, 3, 37, 45, 46, 47, 48, 81, 82, 83, 84] (by decide +kernel) (by decide +kernel)
set_option maxRecDepth 20000 in
theorem gX5_init_X1_init : GoodIn wsX5_init (wsX1_init) := ggX5_init_X1_init
set_option maxRecDepth 20000 in
theorem ggX5_init_X0_init : GoodIn wsX5_init wsX0_init := goodIn_r _ [51, 52, 2, 3, 53, 54, 55, 56, 57, 58, 59, 60, 61, 62, 63, 64, 65, 37, 66, 67, 68, 69, 70, 71, 85, 86, 87, 88, 89, 90, 91, 92, 93, 94, 95, 96] (by decide +kernel) (by decide +kernel)
set_option maxRecDepth 20000 in
theorem gX5_init_X0_init : GoodIn wsX5_init (wsX0_init) := ggX5_init_X0_init
theorem dX5_init_0 : decode cX5_init 0 = .ok (.aload_n 0, 1) := by decide +kernel
theorem dX5_init_1 : decode cX5_init 1 = .ok (.invokespecial 3, 3) := by decide +kernel
theorem dX5_init_4 : decode cX5_init 4 = .ok (.aload_n 0, 1) := by decide +kernel
theorem dX5_init_5 : decode cX5_init 5 = .ok (.new 9, 3) := by decide +kernel
theorem dX5_init_8 : decode cX5_init 8 = .ok (.dup, 1) := by decide +kernel
theorem dX5_init_9 : decode cX5_init 9 = .ok (.invokespecial 11, 3) := by decide +kernel
theorem dX5_init_12 : decode cX5_init 12 = .ok (.putfield 12, 3) := by decide +kernel
theorem dX5_init_15 : decode cX5_init 15 = .ok (.aload_n 0, 1) := by decide +kernel
theorem dX5_init_16 : decode cX5_init 16 = .ok (.new 16, 3) := by decide +kernel
theorem dX5_init_19 : decode cX5_init 19 = .ok (.dup, 1) := by decide +kernel
theorem dX5_init_20 : decode cX5_init 20 = .ok (.invokespecial 18, 3) := by decide +kernel
theorem dX5_init_23 : decode cX5_init 23 = .ok (.putfield 19, 3) := by decide +kernel
theorem dX5_init_26 : decode cX5_init 26 = .ok (.aload_n 0, 1) := by decide +kernel
theorem dX5_init_27 : decode cX5_init 27 = .ok (.new 16, 3) := by decide +kernel
theorem dX5_init_30 : decode cX5_init 30 = .ok (.dup, 1) := by decide +kernel
theorem dX5_init_31 : decode cX5_init 31 = .ok (.invokespecial 18, 3) := by decide +kernel
theorem dX5_init_34 : decode cX5_init 34 = .ok (.putfield 23, 3) := by decide +kernel
theorem dX5_init_37 : decode cX5_init 37 = .ok (.aload_n 0, 1) := by decide +kernel
theorem dX5_init_38 : decode cX5_init 38 = .ok (.new 26, 3) := by decide +kernel
theorem dX5_init_41 : decode cX5_init 41 = .ok (.dup, 1) := by decide +kernel
theorem dX5_init_42 : decode cX5_init 42 = .ok (.invokespecial 28, 3) := by decide +kernel
theorem dX5_init_45 : decode cX5_init 45 = .ok (.putfield 29, 3) := by decide +kernel
theorem dX5_init_48 : decode cX5_init 48 = .ok (.aload_n 0, 1) := by decide +kernel
theorem dX5_init_49 : decode cX5_init 49 = .ok (.new 33, 3) := by decide +kernel
theorem dX5_init_52 : decode cX5_init 52 = .ok (.dup, 1) := by decide +kernel
theorem dX5_init_53 : decode cX5_init 53 = .ok (.aload_n 0, 1) := by decide +kernel
theorem dX5_init_54 : decode cX5_init 54 = .ok (.getfield 12, 3) := by decide +kernel
theorem dX5_init_57 : decode cX5_init 57 = .ok (.aload_n 0, 1) := by decide +kernel
theorem dX5_init_58 : decode cX5_init 58 = .ok (.getfield 29, 3) := by decide +kernel
theorem dX5_init_61 : decode cX5_init 61 = .ok (.invokespecial 35, 3) := by decide +kernel
theorem dX5_init_64 : decode cX5_init 64 = .ok (.putfield 38, 3) := by decide +kernel
theorem dX5_init_67 : decode cX5_init 67 = .ok (.return_, 1) := by decide +kernel
set_option maxRecDepth 20000 in
theorem ggX5_row_X5_tableOf : GoodIn wsX5_row wsX5_tableOf := goodIn_r _ [5, 6, 7, 16, 17, 18, 19, 20] (by decide +kernel) (by decide +kernel)
set_option maxRecDepth 20000 in
theorem gX5_row_X5_tableOf : GoodIn wsX5_row (wsV RX5 42 RX5 yX5_tableOf wsX5_tableOf) := goodIn_app (goodIn_of _ (by decide +kernel)) ggX5_row_X5_tableOf
set_option maxRecDepth 20000 in
theorem ggX5_row_X4_add : GoodIn wsX5_row wsX4_add := goodIn_r _ [12, 13, 14, 15, 21, 22, 23] (by decide +kernel) (by decide +kernel)
set_option maxRecDepth 20000 in
theorem gX5_row_X4_add : GoodIn wsX5_row (wsV RX5 46 RX4 yX4_add wsX4_add) := goodIn_app (goodIn_of _ (by decide +kernel)) ggX5_row_X4_add
theorem dX5_row_0 : decode cX5_row 0 = .ok (.aload_n 0, 1) := by decide +kernel
theorem dX5_row_1 : decode cX5_row 1 = .ok (.iload_n 1, 1) := by decide +kernel
theorem dX5_row_2 : decode cX5_row 2 = .ok (.invokevirtual 42, 3) := by decide +kernel
theorem dX5_row_5 : decode cX5_row 5 = .ok (.astore 4, 2) := by decide +kernel
theorem dX5_row_7 : decode cX5_row 7 = .ok (.aload 4, 2) := by decide +kernel
theorem dX5_row_9 : decode cX5_row 9 = .ok (.ifnonnull 7, 3) := by decide +kernel
theorem dX5_row_12 : decode cX5_row 12 = .ok (.iconst (-1), 1) := by decide +kernel
theorem dX5_row_13 : decode cX5_row 13 = .ok (.goto 10, 3) := by decide +kernel
theorem dX5_row_16 : decode cX5_row 16 = .ok (.aload 4, 2) := by decide +kernel
theorem dX5_row_18 : decode cX5_row 18 = .ok (.iload_n 2, 1) := by decide +kernel
theorem dX5_row_19 : decode cX5_row 19 = .ok (.iload_n 3, 1) := by decide +kernel
theorem dX5_row_20 : decode cX5_row 20 = .ok (.invokevirtual 46, 3) := by decide +kernel
theorem dX5_row_23 : decode cX5_row 23 = .ok (.ireturn, 1) := by decide +kernel
set_option maxRecDepth 20000 in
theorem ggX5_cut_X5_tableOf : GoodIn wsX5_cut wsX5_tableOf := goodIn_r _ [5, 6, 7, 14, 15, 16, 17, 18] (by decide +kernel) (by decide +kernel)
set_option maxRecDepth 20000 in
theorem gX5_cut_X5_tableOf : GoodIn wsX5_cut (wsV RX5 42 RX5 yX5_tableOf wsX5_tableOf) := goodIn_app (goodIn_of _ (by decide +kernel)) ggX5_cut_X5_tableOf
set_option maxRecDepth 20000 in
theorem ggX5_cut_X4_drop : GoodIn wsX5_cut wsX4_drop := goodIn_r _ [12, 13, 19, 20, 21] (by decide +kernel) (by decide +kernel)
set_option maxRecDepth 20000 in
theorem gX5_cut_X4_drop : GoodIn wsX5_cut (wsV RX5 50 RX4 yX4_drop wsX4_drop) := goodIn_app (goodIn_of _ (by decide +kernel)) ggX5_cut_X4_drop
theorem dX5_cut_0 : decode cX5_cut 0 = .ok (.aload_n 0, 1) := by decide +kernel
theorem dX5_cut_1 : decode cX5_cut 1 = .ok (.iload_n 1, 1) := by decide +kernel
theorem dX5_cut_2 : decode cX5_cut 2 = .ok (.invokevirtual 42, 3) := by decide +kernel
theorem dX5_cut_5 : decode cX5_cut 5 = .ok (.astore_n 3, 1) := by decide +kernel
theorem dX5_cut_6 : decode cX5_cut 6 = .ok (.aload_n 3, 1) := by decide +kernel
theorem dX5_cut_7 : decode cX5_cut 7 = .ok (.ifnonnull 7, 3) := by decide +kernel
theorem dX5_cut_10 : decode cX5_cut 10 = .ok (.iconst (-1), 1) := by decide +kernel
theorem dX5_cut_11 : decode cX5_cut 11 = .ok (.goto 8, 3) := by decide +kernel
theorem dX5_cut_14 : decode cX5_cut 14 = .ok (.aload_n 3, 1) := by decide +kernel
theorem dX5_cut_15 : decode cX5_cut 15 = .ok (.iload_n 2, 1) := by decide +kernel
theorem dX5_cut_16 : decode cX5_cut 16 = .ok (.invokevirtual 50, 3) := by decide +kernel
theorem dX5_cut_19 : decode cX5_cut 19 = .ok (.ireturn, 1) := by decide +kernel
set_option maxRecDepth 20000 in
theorem ggX5_size_X3_change : GoodIn wsX5_size wsX3_change := goodIn_r _ [6, 7, 8, 9, 15] (by decide +kernel) (by decide +kernel)
set_option maxRecDepth 20000 in
theorem gX5_size_X3_change : GoodIn wsX5_size (wsV RX5 54 RX3 yX3_change wsX3_change) := goodIn_app (goodIn_of _ (by decide +kernel)) ggX5_size_X3_change
theorem dX5_size_0 : decode cX5_size 0 = .ok (.aload_n 0, 1) := by decide +kernel
theorem dX5_size_1 : decode cX5_size 1 = .ok (.getfield 12, 3) := by decide +kernel
theorem dX5_size_4 : decode cX5_size 4 = .ok (.iload_n 1, 1) := by decide +kernel
theorem dX5_size_5 : decode cX5_size 5 = .ok (.iload_n 2, 1) := by decide +kernel
theorem dX5_size_6 : decode cX5_size 6 = .ok (.invokevirtual 54, 3) := by decide +kernel
theorem dX5_size_9 : decode cX5_size 9 = .ok (.ireturn, 1) := by decide +kernel
set_option maxRecDepth 20000 in
theorem ggX5_pages_X5_tableOf : GoodIn wsX5_pages wsX5_tableOf := goodIn_r _ [6, 7, 8, 15, 16, 17, 18, 19] (by decide +kernel) (by decide +kernel)
set_option maxRecDepth 20000 in
theorem gX5_pages_X5_tableOf : GoodIn wsX5_pages (wsV RX5 42 RX5 yX5_tableOf wsX5_tableOf) := goodIn_app (goodIn_of _ (by decide +kernel)) ggX5_pages_X5_tableOf
set_option maxRecDepth 20000 in
theorem ggX5_pages_X3_pagesFor : GoodIn wsX5_pages wsX3_pagesFor := goodIn_r _ [13, 14, 23] (by decide +kernel) (by decide +kernel)
set_option maxRecDepth 20000 in
theorem gX5_pages_X3_pagesFor : GoodIn wsX5_pages (wsV RX5 61 RX3 yX3_pagesFor wsX3_pagesFor) := goodIn_app (goodIn_of _ (by decide +kernel)) ggX5_pages_X3_pagesFor
theorem dX5_pages_0 : decode cX5_pages 0 = .ok (.aload_n 0, 1) := by decide +kernel
theorem dX5_pages_1 : decode cX5_pages 1 = .ok (.iload_n 1, 1) := by decide +kernel
theorem dX5_pages_2 : decode cX5_pages 2 = .ok (.invokevirtual 42, 3) := by decide +kernel
theorem dX5_pages_5 : decode cX5_pages 5 = .ok (.astore_n 2, 1) := by decide +kernel
theorem dX5_pages_6 : decode cX5_pages 6 = .ok (.aload_n 2, 1) := by decide +kernel
theorem dX5_pages_7 : decode cX5_pages 7 = .ok (.ifnonnull 7, 3) := by decide +kernel
theorem dX5_pages_10 : decode cX5_pages 10 = .ok (.iconst (-1), 1) := by decide +kernel
theorem dX5_pages_11 : decode cX5_pages 11 = .ok (.goto 14, 3) := by decide +kernel
theorem dX5_pages_14 : decode cX5_pages 14 = .ok (.aload_n 0, 1) := by decide +kernel
theorem dX5_pages_15 : decode cX5_pages 15 = .ok (.getfield 12, 3) := by decide +kernel
theorem dX5_pages_18 : decode cX5_pages 18 = .ok (.aload_n 2, 1) := by decide +kernel
theorem dX5_pages_19 : decode cX5_pages 19 = .ok (.getfield 57, 3) := by decide +kernel
theorem dX5_pages_22 : decode cX5_pages 22 = .ok (.invokevirtual 61, 3) := by decide +kernel
theorem dX5_pages_25 : decode cX5_pages 25 = .ok (.ireturn, 1) := by decide +kernel
set_option maxRecDepth 20000 in
theorem ggX5_part_X3_partOf : GoodIn wsX5_part wsX3_partOf := goodIn_r _ [6, 7, 8, 9, 5, 10, 11, 12, 13, 14, 15, 16, 17, 18, 24] (by decide +kernel) (by decide +kernel)
set_option maxRecDepth 20000 in
theorem gX5_part_X3_partOf : GoodIn wsX5_part (wsV RX5 64 RX3 yX3_partOf wsX3_partOf) := goodIn_app (goodIn_of _ (by decide +kernel)) ggX5_part_X3_partOf
theorem dX5_part_0 : decode cX5_part 0 = .ok (.iload_n 2, 1) := by decide +kernel
theorem dX5_part_1 : decode cX5_part 1 = .ok (.ifCond .lt 9, 3) := by decide +kernel
theorem dX5_part_4 : decode cX5_part 4 = .ok (.iload_n 2, 1) := by decide +kernel
theorem dX5_part_5 : decode cX5_part 5 = .ok (.bipush 8, 2) := by decide +kernel
theorem dX5_part_7 : decode cX5_part 7 = .ok (.if_icmp .le 5, 3) := by decide +kernel
theorem dX5_part_10 : decode cX5_part 10 = .ok (.iconst (-1), 1) := by decide +kernel
theorem dX5_part_11 : decode cX5_part 11 = .ok (.ireturn, 1) := by decide +kernel
theorem dX5_part_12 : decode cX5_part 12 = .ok (.aload_n 0, 1) := by decide +kernel
theorem dX5_part_13 : decode cX5_part 13 = .ok (.getfield 12, 3) := by decide +kernel
theorem dX5_part_16 : decode cX5_part 16 = .ok (.iload_n 1, 1) := by decide +kernel
theorem dX5_part_17 : decode cX5_part 17 = .ok (.iload_n 2, 1) := by decide +kernel
theorem dX5_part_18 : decode cX5_part 18 = .ok (.invokevirtual 64, 3) := by decide +kernel
theorem dX5_part_21 : decode cX5_part 21 = .ok (.ireturn, 1) := by decide +kernel
set_option maxRecDepth 20000 in
theorem ggX5_join_X0_joinTables : GoodIn wsX5_join wsX0_joinTables := goodIn_r _ [9, 10, 11, 12, 13, 14, 15, 16, 17, 18, 19, 20, 21, 22, 23, 24, 25, 26, 27, 28, 29, 30, 31, 32, 33, 34, 35, 36, 37, 38, 39, 8, 40, 41, 42, 43, 44, 45, 46, 47, 48, 49, 50, 51, 52, 53, 54, 55, 56, 57, 58, 59, 60, 61, 62, 63, 64, 65, 66, 67, 68, 69, 70, 71, 72, 73, 74, 75, 76, 77, 78, 79, 80, 81, 82, 83, 84, 85, 86, 87, 88, 89, 90, 91, 92, 93, 94, 95, 96, 97, 98, 99, 100, 101, 102, 103, 104, 105, 106, 107, 108, 109, 110, 111, 112, 113, 114, 115, 116, 117, 118, 119, 120, 121, 122, 123, 124, 125, 126, 127, 128, 129, 130, 131, 132, 133, 134, 135, 136, 137, 138, 139, 140, 141, 142, 143, 144, 145, 146, 147, 148, 149, 150, 151, 152, 153, 154, 155, 156, 166, 167, 168, 169, 170, 171, 172, 173, 174, 175, 176, 177, 178, 179, 180, 181, 182, 183, 184, 185] (by decide +kernel) (by decide +kernel)
set_option maxRecDepth 20000 in
theorem gX5_join_X0_joinTables : GoodIn wsX5_join (wsV RX5 67 RX0 yX0_joinTables wsX0_joinTables) := goodIn_app (goodIn_of _ (by decide +kernel)) ggX5_join_X0_joinTables
set_option maxRecDepth 20000 in
theorem ggX5_join_X1_pairsOrFull : GoodIn wsX5_join wsX1_pairsOrFull := goodIn_r _ [160, 31, 181, 182, 183, 184] (by decide +kernel) (by decide +kernel)
set_option maxRecDepth 20000 in
theorem gX5_join_X1_pairsOrFull : GoodIn wsX5_join (wsV RX5 71 RX1 yX1_pairsOrFull wsX1_pairsOrFull) := goodIn_app (goodIn_of _ (by decide +kernel)) ggX5_join_X1_pairsOrFull
theorem dX5_join_0 : decode cX5_join 0 = .ok (.aload_n 0, 1) := by decide +kernel
theorem dX5_join_1 : decode cX5_join 1 = .ok (.getfield 38, 3) := by decide +kernel
theorem dX5_join_4 : decode cX5_join 4 = .ok (.aload_n 0, 1) := by decide +kernel
theorem dX5_join_5 : decode cX5_join 5 = .ok (.getfield 19, 3) := by decide +kernel
theorem dX5_join_8 : decode cX5_join 8 = .ok (.aload_n 0, 1) := by decide +kernel
theorem dX5_join_9 : decode cX5_join 9 = .ok (.getfield 23, 3) := by decide +kernel
theorem dX5_join_12 : decode cX5_join 12 = .ok (.invokevirtual 67, 3) := by decide +kernel
theorem dX5_join_15 : decode cX5_join 15 = .ok (.aload_n 0, 1) := by decide +kernel
theorem dX5_join_16 : decode cX5_join 16 = .ok (.getfield 29, 3) := by decide +kernel
theorem dX5_join_19 : decode cX5_join 19 = .ok (.invokevirtual 71, 3) := by decide +kernel
theorem dX5_join_22 : decode cX5_join 22 = .ok (.ireturn, 1) := by decide +kernel
set_option maxRecDepth 20000 in
theorem ggX5_pair_X1_hasPair : GoodIn wsX5_pair wsX1_hasPair := goodIn_r _ [7, 8, 9, 10, 6, 11, 12, 44, 45, 46, 47] (by decide +kernel) (by decide +kernel)
set_option maxRecDepth 20000 in
theorem gX5_pair_X1_hasPair : GoodIn wsX5_pair (wsV RX5 75 RX1 yX1_hasPair wsX1_hasPair) := goodIn_app (goodIn_of _ (by decide +kernel)) ggX5_pair_X1_hasPair
set_option maxRecDepth 20000 in
theorem ggX5_pair_X1_leftRowOf : GoodIn wsX5_pair wsX1_leftRowOf := goodIn_r _ [16, 17, 18, 4, 5, 6, 7, 8, 9, 10, 11, 12, 44, 45, 46, 47] (by decide +kernel) (by decide +kernel)
set_option maxRecDepth 20000 in
theorem gX5_pair_X1_leftRowOf : GoodIn wsX5_pair (wsV RX5 79 RX1 yX1_leftRowOf wsX1_leftRowOf) := goodIn_app (goodIn_of _ (by decide +kernel)) ggX5_pair_X1_leftRowOf
set_option maxRecDepth 20000 in
theorem ggX5_pair_X1_rightRowOf : GoodIn wsX5_pair wsX1_rightRowOf := goodIn_r _ [22, 17, 18, 4, 5, 6, 7, 8, 9, 10, 11, 12, 44, 45, 46, 47] (by decide +kernel) (by decide +kernel)
set_option maxRecDepth 20000 in
theorem gX5_pair_X1_rightRowOf : GoodIn wsX5_pair (wsV RX5 82 RX1 yX1_rightRowOf wsX1_rightRowOf) := goodIn_app (goodIn_of _ (by decide +kernel)) ggX5_pair_X1_rightRowOf
set_option maxRecDepth 20000 in
theorem ggX5_pair_X2_keyOf : GoodIn wsX5_pair wsX2_keyOf := goodIn_r _ [27, 28, 29, 48, 49, 50, 51, 52, 53, 54, 55] (by decide +kernel) (by decide +kernel)
set_option maxRecDepth 20000 in
theorem gX5_pair_X2_keyOf : GoodIn wsX5_pair (wsV RX5 89 RX2 yX2_keyOf wsX2_keyOf) := goodIn_app (goodIn_of _ (by decide +kernel)) ggX5_pair_X2_keyOf
set_option maxRecDepth 20000 in
theorem ggX5_pair_X2_valueOf : GoodIn wsX5_pair wsX2_valueOf := goodIn_r _ [33, 28, 34, 48, 49, 50, 51, 52, 53, 54, 55] (by decide +kernel) (by decide +kernel)
set_option maxRecDepth 20000 in
theorem gX5_pair_X2_valueOf : GoodIn wsX5_pair (wsV RX5 94 RX2 yX2_valueOf wsX2_valueOf) := goodIn_app (goodIn_of _ (by decide +kernel)) ggX5_pair_X2_valueOf
theorem dX5_pair_0 : decode cX5_pair 0 = .ok (.aload_n 0, 1) := by decide +kernel
theorem dX5_pair_1 : decode cX5_pair 1 = .ok (.getfield 29, 3) := by decide +kernel
theorem dX5_pair_4 : decode cX5_pair 4 = .ok (.iload_n 1, 1) := by decide +kernel
theorem dX5_pair_5 : decode cX5_pair 5 = .ok (.invokevirtual 75, 3) := by decide +kernel
theorem dX5_pair_8 : decode cX5_pair 8 = .ok (.ifCond .ne 5, 3) := by decide +kernel
theorem dX5_pair_11 : decode cX5_pair 11 = .ok (.iconst (-1), 1) := by decide +kernel
theorem dX5_pair_12 : decode cX5_pair 12 = .ok (.ireturn, 1) := by decide +kernel
theorem dX5_pair_13 : decode cX5_pair 13 = .ok (.aload_n 0, 1) := by decide +kernel
theorem dX5_pair_14 : decode cX5_pair 14 = .ok (.getfield 29, 3) := by decide +kernel
theorem dX5_pair_17 : decode cX5_pair 17 = .ok (.iload_n 1, 1) := by decide +kernel
theorem dX5_pair_18 : decode cX5_pair 18 = .ok (.invokevirtual 79, 3) := by decide +kernel
theorem dX5_pair_21 : decode cX5_pair 21 = .ok (.istore_n 3, 1) := by decide +kernel
theorem dX5_pair_22 : decode cX5_pair 22 = .ok (.aload_n 0, 1) := by decide +kernel
theorem dX5_pair_23 : decode cX5_pair 23 = .ok (.getfield 29, 3) := by decide +kernel
theorem dX5_pair_26 : decode cX5_pair 26 = .ok (.iload_n 1, 1) := by decide +kernel
theorem dX5_pair_27 : decode cX5_pair 27 = .ok (.invokevirtual 82, 3) := by decide +kernel
theorem dX5_pair_30 : decode cX5_pair 30 = .ok (.istore 4, 2) := by decide +kernel
theorem dX5_pair_32 : decode cX5_pair 32 = .ok (.iload_n 2, 1) := by decide +kernel
theorem dX5_pair_33 : decode cX5_pair 33 = .ok (.tableswitch 77 0 4 #[35, 37, 40, 52, 64], 35) := by decide +kernel
theorem dX5_pair_68 : decode cX5_pair 68 = .ok (.iload_n 3, 1) := by decide +kernel
theorem dX5_pair_69 : decode cX5_pair 69 = .ok (.ireturn, 1) := by decide +kernel
theorem dX5_pair_70 : decode cX5_pair 70 = .ok (.iload 4, 2) := by decide +kernel
theorem dX5_pair_72 : decode cX5_pair 72 = .ok (.ireturn, 1) := by decide +kernel
theorem dX5_pair_73 : decode cX5_pair 73 = .ok (.aload_n 0, 1) := by decide +kernel
theorem dX5_pair_74 : decode cX5_pair 74 = .ok (.getfield 38, 3) := by decide +kernel
theorem dX5_pair_77 : decode cX5_pair 77 = .ok (.getfield 85, 3) := by decide +kernel
theorem dX5_pair_80 : decode cX5_pair 80 = .ok (.iload_n 3, 1) := by decide +kernel
theorem dX5_pair_81 : decode cX5_pair 81 = .ok (.invokevirtual 89, 3) := by decide +kernel
theorem dX5_pair_84 : decode cX5_pair 84 = .ok (.ireturn, 1) := by decide +kernel
theorem dX5_pair_85 : decode cX5_pair 85 = .ok (.aload_n 0, 1) := by decide +kernel
theorem dX5_pair_86 : decode cX5_pair 86 = .ok (.getfield 38, 3) := by decide +kernel
theorem dX5_pair_89 : decode cX5_pair 89 = .ok (.getfield 85, 3) := by decide +kernel
theorem dX5_pair_92 : decode cX5_pair 92 = .ok (.iload_n 3, 1) := by decide +kernel
theorem dX5_pair_93 : decode cX5_pair 93 = .ok (.invokevirtual 94, 3) := by decide +kernel
theorem dX5_pair_96 : decode cX5_pair 96 = .ok (.ireturn, 1) := by decide +kernel
theorem dX5_pair_97 : decode cX5_pair 97 = .ok (.aload_n 0, 1) := by decide +kernel
theorem dX5_pair_98 : decode cX5_pair 98 = .ok (.getfield 38, 3) := by decide +kernel
theorem dX5_pair_101 : decode cX5_pair 101 = .ok (.getfield 97, 3) := by decide +kernel
theorem dX5_pair_104 : decode cX5_pair 104 = .ok (.iload 4, 2) := by decide +kernel
theorem dX5_pair_106 : decode cX5_pair 106 = .ok (.invokevirtual 94, 3) := by decide +kernel
theorem dX5_pair_109 : decode cX5_pair 109 = .ok (.ireturn, 1) := by decide +kernel
theorem dX5_pair_110 : decode cX5_pair 110 = .ok (.iconst (-1), 1) := by decide +kernel
theorem dX5_pair_111 : decode cX5_pair 111 = .ok (.ireturn, 1) := by decide +kernel
set_option maxRecDepth 20000 in
theorem ggX5_told_X1_figure : GoodIn wsX5_told wsX1_figure := goodIn_r _ [6, 7, 13, 14, 15, 16] (by decide +kernel) (by decide +kernel)
set_option maxRecDepth 20000 in
theorem gX5_told_X1_figure : GoodIn wsX5_told (wsV RX5 100 RX1 yX1_figure wsX1_figure) := goodIn_app (goodIn_of _ (by decide +kernel)) ggX5_told_X1_figure
theorem dX5_told_0 : decode cX5_told 0 = .ok (.aload_n 0, 1) := by decide +kernel
theorem dX5_told_1 : decode cX5_told 1 = .ok (.getfield 29, 3) := by decide +kernel
theorem dX5_told_4 : decode cX5_told 4 = .ok (.iload_n 1, 1) := by decide +kernel
theorem dX5_told_5 : decode cX5_told 5 = .ok (.invokevirtual 100, 3) := by decide +kernel
theorem dX5_told_8 : decode cX5_told 8 = .ok (.ireturn, 1) := by decide +kernel
set_option maxRecDepth 20000 in
theorem ggX5_event_X1_ofEvent : GoodIn wsX5_event wsX1_ofEvent := goodIn_r _ [6, 7, 8, 9, 10, 11, 12, 18, 19, 20, 21] (by decide +kernel) (by decide +kernel)
set_option maxRecDepth 20000 in
theorem gX5_event_X1_ofEvent : GoodIn wsX5_event (wsV RX5 103 RX1 yX1_ofEvent wsX1_ofEvent) := goodIn_app (goodIn_of _ (by decide +kernel)) ggX5_event_X1_ofEvent
theorem dX5_event_0 : decode cX5_event 0 = .ok (.aload_n 0, 1) := by decide +kernel
theorem dX5_event_1 : decode cX5_event 1 = .ok (.getfield 29, 3) := by decide +kernel
theorem dX5_event_4 : decode cX5_event 4 = .ok (.iload_n 1, 1) := by decide +kernel
theorem dX5_event_5 : decode cX5_event 5 = .ok (.iload_n 2, 1) := by decide +kernel
theorem dX5_event_6 : decode cX5_event 6 = .ok (.invokevirtual 103, 3) := by decide +kernel
theorem dX5_event_9 : decode cX5_event 9 = .ok (.ireturn, 1) := by decide +kernel
theorem dX5_tableOf_0 : decode cX5_tableOf 0 = .ok (.iload_n 1, 1) := by decide +kernel
theorem dX5_tableOf_1 : decode cX5_tableOf 1 = .ok (.ifCond .ne 8, 3) := by decide +kernel
theorem dX5_tableOf_4 : decode cX5_tableOf 4 = .ok (.aload_n 0, 1) := by decide +kernel
theorem dX5_tableOf_5 : decode cX5_tableOf 5 = .ok (.getfield 19, 3) := by decide +kernel
theorem dX5_tableOf_8 : decode cX5_tableOf 8 = .ok (.areturn, 1) := by decide +kernel
theorem dX5_tableOf_9 : decode cX5_tableOf 9 = .ok (.iload_n 1, 1) := by decide +kernel
theorem dX5_tableOf_10 : decode cX5_tableOf 10 = .ok (.iconst 1, 1) := by decide +kernel
theorem dX5_tableOf_11 : decode cX5_tableOf 11 = .ok (.if_icmp .ne 10, 3) := by decide +kernel
theorem dX5_tableOf_14 : decode cX5_tableOf 14 = .ok (.aload_n 0, 1) := by decide +kernel
theorem dX5_tableOf_15 : decode cX5_tableOf 15 = .ok (.getfield 23, 3) := by decide +kernel
theorem dX5_tableOf_18 : decode cX5_tableOf 18 = .ok (.goto 4, 3) := by decide +kernel
theorem dX5_tableOf_21 : decode cX5_tableOf 21 = .ok (.aconst_null, 1) := by decide +kernel
theorem dX5_tableOf_22 : decode cX5_tableOf 22 = .ok (.areturn, 1) := by decide +kernel
end
section
theorem dX6_init_0 : decode cX6_init 0 = .ok (.aload_n 0, 1) := by decide +kernel
theorem dX6_init_1 : decode cX6_init 1 = .ok (.invokespecial 1, 3) := by decide +kernel
theorem dX6_init_4 : decode cX6_init 4 = .ok (.aload_n 0, 1) := by decide +kernel
theorem dX6_init_5 : decode cX6_init 5 = .ok (.sipush 1000, 3) := by decide +kernel
theorem dX6_init_8 : decode cX6_init 8 = .ok (.newarray .int, 2) := by decide +kernel
theorem dX6_init_10 : decode cX6_init 10 = .ok (.putfield 7, 3) := by decide +kernel
theorem dX6_init_13 : decode cX6_init 13 = .ok (.aload_n 0, 1) := by decide +kernel
theorem dX6_init_14 : decode cX6_init 14 = .ok (.sipush 1000, 3) := by decide +kernel
theorem dX6_init_17 : decode cX6_init 17 = .ok (.newarray .int, 2) := by decide +kernel
theorem dX6_init_19 : decode cX6_init 19 = .ok (.putfield 13, 3) := by decide +kernel
theorem dX6_init_22 : decode cX6_init 22 = .ok (.aload_n 0, 1) := by decide +kernel
theorem dX6_init_23 : decode cX6_init 23 = .ok (.iconst 2, 1) := by decide +kernel
theorem dX6_init_24 : decode cX6_init 24 = .ok (.newarray .int, 2) := by decide +kernel
theorem dX6_init_26 : decode cX6_init 26 = .ok (.putfield 16, 3) := by decide +kernel
theorem dX6_init_29 : decode cX6_init 29 = .ok (.aload_n 0, 1) := by decide +kernel
theorem dX6_init_30 : decode cX6_init 30 = .ok (.iconst 4, 1) := by decide +kernel
theorem dX6_init_31 : decode cX6_init 31 = .ok (.putfield 19, 3) := by decide +kernel
theorem dX6_init_34 : decode cX6_init 34 = .ok (.aload_n 0, 1) := by decide +kernel
theorem dX6_init_35 : decode cX6_init 35 = .ok (.iconst 5, 1) := by decide +kernel
theorem dX6_init_36 : decode cX6_init 36 = .ok (.putfield 23, 3) := by decide +kernel
theorem dX6_init_39 : decode cX6_init 39 = .ok (.aload_n 0, 1) := by decide +kernel
theorem dX6_init_40 : decode cX6_init 40 = .ok (.iconst 4, 1) := by decide +kernel
theorem dX6_init_41 : decode cX6_init 41 = .ok (.putfield 26, 3) := by decide +kernel
theorem dX6_init_44 : decode cX6_init 44 = .ok (.aload_n 0, 1) := by decide +kernel
theorem dX6_init_45 : decode cX6_init 45 = .ok (.sipush 10000, 3) := by decide +kernel
theorem dX6_init_48 : decode cX6_init 48 = .ok (.newarray .int, 2) := by decide +kernel
theorem dX6_init_50 : decode cX6_init 50 = .ok (.putfield 29, 3) := by decide +kernel
theorem dX6_init_53 : decode cX6_init 53 = .ok (.aload_n 0, 1) := by decide +kernel
theorem dX6_init_54 : decode cX6_init 54 = .ok (.sipush 420, 3) := by decide +kernel
theorem dX6_init_57 : decode cX6_init 57 = .ok (.newarray .int, 2) := by decide +kernel
theorem dX6_init_59 : decode cX6_init 59 = .ok (.putfield 32, 3) := by decide +kernel
theorem dX6_init_62 : decode cX6_init 62 = .ok (.aload_n 0, 1) := by decide +kernel
theorem dX6_init_63 : decode cX6_init 63 = .ok (.bipush 10, 2) := by decide +kernel
theorem dX6_init_65 : decode cX6_init 65 = .ok (.newarray .int, 2) := by decide +kernel
theorem dX6_init_67 : decode cX6_init 67 = .ok (.putfield 35, 3) := by decide +kernel
theorem dX6_init_70 : decode cX6_init 70 = .ok (.aload_n 0, 1) := by decide +kernel
theorem dX6_init_71 : decode cX6_init 71 = .ok (.sipush 4000, 3) := by decide +kernel
theorem dX6_init_74 : decode cX6_init 74 = .ok (.newarray .int, 2) := by decide +kernel
theorem dX6_init_76 : decode cX6_init 76 = .ok (.putfield 38, 3) := by decide +kernel
theorem dX6_init_79 : decode cX6_init 79 = .ok (.aload_n 0, 1) := by decide +kernel
theorem dX6_init_80 : decode cX6_init 80 = .ok (.sipush 4000, 3) := by decide +kernel
theorem dX6_init_83 : decode cX6_init 83 = .ok (.newarray .int, 2) := by decide +kernel
theorem dX6_init_85 : decode cX6_init 85 = .ok (.putfield 41, 3) := by decide +kernel
theorem dX6_init_88 : decode cX6_init 88 = .ok (.aload_n 0, 1) := by decide +kernel
theorem dX6_init_89 : decode cX6_init 89 = .ok (.sipush 4000, 3) := by decide +kernel
theorem dX6_init_92 : decode cX6_init 92 = .ok (.newarray .int, 2) := by decide +kernel
theorem dX6_init_94 : decode cX6_init 94 = .ok (.putfield 44, 3) := by decide +kernel
theorem dX6_init_97 : decode cX6_init 97 = .ok (.aload_n 0, 1) := by decide +kernel
theorem dX6_init_98 : decode cX6_init 98 = .ok (.sipush 4000, 3) := by decide +kernel
theorem dX6_init_101 : decode cX6_init 101 = .ok (.newarray .int, 2) := by decide +kernel
theorem dX6_init_103 : decode cX6_init 103 = .ok (.putfield 47, 3) := by decide +kernel
theorem dX6_init_106 : decode cX6_init 106 = .ok (.aload_n 0, 1) := by decide +kernel
theorem dX6_init_107 : decode cX6_init 107 = .ok (.sipush 4000, 3) := by decide +kernel
theorem dX6_init_110 : decode cX6_init 110 = .ok (.newarray .int, 2) := by decide +kernel
theorem dX6_init_112 : decode cX6_init 112 = .ok (.putfield 50, 3) := by decide +kernel
theorem dX6_init_115 : decode cX6_init 115 = .ok (.aload_n 0, 1) := by decide +kernel
theorem dX6_init_116 : decode cX6_init 116 = .ok (.iconst (-1), 1) := by decide +kernel
theorem dX6_init_117 : decode cX6_init 117 = .ok (.putfield 53, 3) := by decide +kernel
theorem dX6_init_120 : decode cX6_init 120 = .ok (.aload_n 0, 1) := by decide +kernel
theorem dX6_init_121 : decode cX6_init 121 = .ok (.iconst 4, 1) := by decide +kernel
theorem dX6_init_122 : decode cX6_init 122 = .ok (.newarray .int, 2) := by decide +kernel
theorem dX6_init_124 : decode cX6_init 124 = .ok (.putfield 56, 3) := by decide +kernel
theorem dX6_init_127 : decode cX6_init 127 = .ok (.aload_n 0, 1) := by decide +kernel
theorem dX6_init_128 : decode cX6_init 128 = .ok (.sipush 1500, 3) := by decide +kernel
theorem dX6_init_131 : decode cX6_init 131 = .ok (.newarray .int, 2) := by decide +kernel
theorem dX6_init_133 : decode cX6_init 133 = .ok (.putfield 59, 3) := by decide +kernel
theorem dX6_init_136 : decode cX6_init 136 = .ok (.return_, 1) := by decide +kernel
theorem dX6_isTable_0 : decode cX6_isTable 0 = .ok (.iload_n 0, 1) := by decide +kernel
theorem dX6_isTable_1 : decode cX6_isTable 1 = .ok (.ifCond .eq 8, 3) := by decide +kernel
theorem dX6_isTable_4 : decode cX6_isTable 4 = .ok (.iload_n 0, 1) := by decide +kernel
theorem dX6_isTable_5 : decode cX6_isTable 5 = .ok (.iconst 1, 1) := by decide +kernel
theorem dX6_isTable_6 : decode cX6_isTable 6 = .ok (.if_icmp .ne 7, 3) := by decide +kernel
theorem dX6_isTable_9 : decode cX6_isTable 9 = .ok (.iconst 1, 1) := by decide +kernel
theorem dX6_isTable_10 : decode cX6_isTable 10 = .ok (.goto 4, 3) := by decide +kernel
theorem dX6_isTable_13 : decode cX6_isTable 13 = .ok (.iconst 0, 1) := by decide +kernel
theorem dX6_isTable_14 : decode cX6_isTable 14 = .ok (.ireturn, 1) := by decide +kernel
set_option maxRecDepth 20000 in
theorem ggX6_row_X6_isTable : GoodIn wsX6_row wsX6_isTable := goodIn_r _ [7] (by decide +kernel) (by decide +kernel)
set_option maxRecDepth 20000 in
theorem gX6_row_X6_isTable : GoodIn wsX6_row (va_wsS RX6 62 yX6_isTable wsX6_isTable) := goodIn_app (goodIn_of _ (by decide +kernel)) ggX6_row_X6_isTable
theorem dX6_row_0 : decode cX6_row 0 = .ok (.iload_n 1, 1) := by decide +kernel
theorem dX6_row_1 : decode cX6_row 1 = .ok (.invokestatic 62, 3) := by decide +kernel
theorem dX6_row_4 : decode cX6_row 4 = .ok (.ifCond .ne 5, 3) := by decide +kernel
theorem dX6_row_7 : decode cX6_row 7 = .ok (.iconst (-1), 1) := by decide +kernel
theorem dX6_row_8 : decode cX6_row 8 = .ok (.ireturn, 1) := by decide +kernel
theorem dX6_row_9 : decode cX6_row 9 = .ok (.aload_n 0, 1) := by decide +kernel
theorem dX6_row_10 : decode cX6_row 10 = .ok (.getfield 16, 3) := by decide +kernel
theorem dX6_row_13 : decode cX6_row 13 = .ok (.iload_n 1, 1) := by decide +kernel
theorem dX6_row_14 : decode cX6_row 14 = .ok (.iaload, 1) := by decide +kernel
theorem dX6_row_15 : decode cX6_row 15 = .ok (.sipush 500, 3) := by decide +kernel
theorem dX6_row_18 : decode cX6_row 18 = .ok (.if_icmp .ne 6, 3) := by decide +kernel
theorem dX6_row_21 : decode cX6_row 21 = .ok (.bipush (-2), 2) := by decide +kernel
theorem dX6_row_23 : decode cX6_row 23 = .ok (.ireturn, 1) := by decide +kernel
theorem dX6_row_24 : decode cX6_row 24 = .ok (.aload_n 0, 1) := by decide +kernel
theorem dX6_row_25 : decode cX6_row 25 = .ok (.getfield 7, 3) := by decide +kernel
theorem dX6_row_28 : decode cX6_row 28 = .ok (.sipush 500, 3) := by decide +kernel
theorem dX6_row_31 : decode cX6_row 31 = .ok (.iload_n 1, 1) := by decide +kernel
theorem dX6_row_32 : decode cX6_row 32 = .ok (.imul, 1) := by decide +kernel
theorem dX6_row_33 : decode cX6_row 33 = .ok (.aload_n 0, 1) := by decide +kernel
theorem dX6_row_34 : decode cX6_row 34 = .ok (.getfield 16, 3) := by decide +kernel
theorem dX6_row_37 : decode cX6_row 37 = .ok (.iload_n 1, 1) := by decide +kernel
theorem dX6_row_38 : decode cX6_row 38 = .ok (.iaload, 1) := by decide +kernel
theorem dX6_row_39 : decode cX6_row 39 = .ok (.iadd, 1) := by decide +kernel
theorem dX6_row_40 : decode cX6_row 40 = .ok (.iload_n 2, 1) := by decide +kernel
theorem dX6_row_41 : decode cX6_row 41 = .ok (.iastore, 1) := by decide +kernel
theorem dX6_row_42 : decode cX6_row 42 = .ok (.aload_n 0, 1) := by decide +kernel
theorem dX6_row_43 : decode cX6_row 43 = .ok (.getfield 13, 3) := by decide +kernel
theorem dX6_row_46 : decode cX6_row 46 = .ok (.sipush 500, 3) := by decide +kernel
theorem dX6_row_49 : decode cX6_row 49 = .ok (.iload_n 1, 1) := by decide +kernel
theorem dX6_row_50 : decode cX6_row 50 = .ok (.imul, 1) := by decide +kernel
theorem dX6_row_51 : decode cX6_row 51 = .ok (.aload_n 0, 1) := by decide +kernel
theorem dX6_row_52 : decode cX6_row 52 = .ok (.getfield 16, 3) := by decide +kernel
theorem dX6_row_55 : decode cX6_row 55 = .ok (.iload_n 1, 1) := by decide +kernel
theorem dX6_row_56 : decode cX6_row 56 = .ok (.iaload, 1) := by decide +kernel
theorem dX6_row_57 : decode cX6_row 57 = .ok (.iadd, 1) := by decide +kernel
theorem dX6_row_58 : decode cX6_row 58 = .ok (.iload_n 3, 1) := by decide +kernel
theorem dX6_row_59 : decode cX6_row 59 = .ok (.iastore, 1) := by decide +kernel
theorem dX6_row_60 : decode cX6_row 60 = .ok (.aload_n 0, 1) := by decide +kernel
theorem dX6_row_61 : decode cX6_row 61 = .ok (.getfield 16, 3) := by decide +kernel
theorem dX6_row_64 : decode cX6_row 64 = .ok (.iload_n 1, 1) := by decide +kernel
theorem dX6_row_65 : decode cX6_row 65 = .ok (.dup2, 1) := by decide +kernel
theorem dX6_row_66 : decode cX6_row 66 = .ok (.iaload, 1) := by decide +kernel
theorem dX6_row_67 : decode cX6_row 67 = .ok (.iconst 1, 1) := by decide +kernel
theorem dX6_row_68 : decode cX6_row 68 = .ok (.iadd, 1) := by decide +kernel
theorem dX6_row_69 : decode cX6_row 69 = .ok (.iastore, 1) := by decide +kernel
theorem dX6_row_70 : decode cX6_row 70 = .ok (.aload_n 0, 1) := by decide +kernel
theorem dX6_row_71 : decode cX6_row 71 = .ok (.getfield 16, 3) := by decide +kernel
theorem dX6_row_74 : decode cX6_row 74 = .ok (.iload_n 1, 1) := by decide +kernel
theorem dX6_row_75 : decode cX6_row 75 = .ok (.iaload, 1) := by decide +kernel
theorem dX6_row_76 : decode cX6_row 76 = .ok (.ireturn, 1) := by decide +kernel
set_option maxRecDepth 20000 in
theorem ggX6_cut_X6_isTable : GoodIn wsX6_cut wsX6_isTable := goodIn_r _ [5] (by decide +kernel) (by decide +kernel)
set_option maxRecDepth 20000 in
theorem gX6_cut_X6_isTable : GoodIn wsX6_cut (va_wsS RX6 62 yX6_isTable wsX6_isTable) := goodIn_app (goodIn_of _ (by decide +kernel)) ggX6_cut_X6_isTable
theorem dX6_cut_0 : decode cX6_cut 0 = .ok (.iload_n 1, 1) := by decide +kernel
theorem dX6_cut_1 : decode cX6_cut 1 = .ok (.invokestatic 62, 3) := by decide +kernel
theorem dX6_cut_4 : decode cX6_cut 4 = .ok (.ifCond .eq 17, 3) := by decide +kernel
theorem dX6_cut_7 : decode cX6_cut 7 = .ok (.iload_n 2, 1) := by decide +kernel
theorem dX6_cut_8 : decode cX6_cut 8 = .ok (.ifCond .lt 13, 3) := by decide +kernel
theorem dX6_cut_11 : decode cX6_cut 11 = .ok (.iload_n 2, 1) := by decide +kernel
theorem dX6_cut_12 : decode cX6_cut 12 = .ok (.aload_n 0, 1) := by decide +kernel
theorem dX6_cut_13 : decode cX6_cut 13 = .ok (.getfield 16, 3) := by decide +kernel
theorem dX6_cut_16 : decode cX6_cut 16 = .ok (.iload_n 1, 1) := by decide +kernel
theorem dX6_cut_17 : decode cX6_cut 17 = .ok (.iaload, 1) := by decide +kernel
theorem dX6_cut_18 : decode cX6_cut 18 = .ok (.if_icmp .le 5, 3) := by decide +kernel
theorem dX6_cut_21 : decode cX6_cut 21 = .ok (.iconst (-1), 1) := by decide +kernel
theorem dX6_cut_22 : decode cX6_cut 22 = .ok (.ireturn, 1) := by decide +kernel
theorem dX6_cut_23 : decode cX6_cut 23 = .ok (.aload_n 0, 1) := by decide +kernel
theorem dX6_cut_24 : decode cX6_cut 24 = .ok (.getfield 16, 3) := by decide +kernel
theorem dX6_cut_27 : decode cX6_cut 27 = .ok (.iload_n 1, 1) := by decide +kernel
theorem dX6_cut_28 : decode cX6_cut 28 = .ok (.aload_n 0, 1) := by decide +kernel
theorem dX6_cut_29 : decode cX6_cut 29 = .ok (.getfield 16, 3) := by decide +kernel
theorem dX6_cut_32 : decode cX6_cut 32 = .ok (.iload_n 1, 1) := by decide +kernel
theorem dX6_cut_33 : decode cX6_cut 33 = .ok (.iaload, 1) := by decide +kernel
theorem dX6_cut_34 : decode cX6_cut 34 = .ok (.iload_n 2, 1) := by decide +kernel
theorem dX6_cut_35 : decode cX6_cut 35 = .ok (.isub, 1) := by decide +kernel
theorem dX6_cut_36 : decode cX6_cut 36 = .ok (.iastore, 1) := by decide +kernel
theorem dX6_cut_37 : decode cX6_cut 37 = .ok (.aload_n 0, 1) := by decide +kernel
theorem dX6_cut_38 : decode cX6_cut 38 = .ok (.getfield 16, 3) := by decide +kernel
theorem dX6_cut_41 : decode cX6_cut 41 = .ok (.iload_n 1, 1) := by decide +kernel
theorem dX6_cut_42 : decode cX6_cut 42 = .ok (.iaload, 1) := by decide +kernel
theorem dX6_cut_43 : decode cX6_cut 43 = .ok (.ireturn, 1) := by decide +kernel
theorem dX6_size_0 : decode cX6_size 0 = .ok (.iload_n 1, 1) := by decide +kernel
theorem dX6_size_1 : decode cX6_size 1 = .ok (.ifCond .ne 10, 3) := by decide +kernel
theorem dX6_size_4 : decode cX6_size 4 = .ok (.aload_n 0, 1) := by decide +kernel
theorem dX6_size_5 : decode cX6_size 5 = .ok (.getfield 19, 3) := by decide +kernel
theorem dX6_size_8 : decode cX6_size 8 = .ok (.goto 19, 3) := by decide +kernel
theorem dX6_size_11 : decode cX6_size 11 = .ok (.iload_n 1, 1) := by decide +kernel
theorem dX6_size_12 : decode cX6_size 12 = .ok (.iconst 1, 1) := by decide +kernel
theorem dX6_size_13 : decode cX6_size 13 = .ok (.if_icmp .ne 10, 3) := by decide +kernel
theorem dX6_size_16 : decode cX6_size 16 = .ok (.aload_n 0, 1) := by decide +kernel
theorem dX6_size_17 : decode cX6_size 17 = .ok (.getfield 23, 3) := by decide +kernel
theorem dX6_size_20 : decode cX6_size 20 = .ok (.goto 7, 3) := by decide +kernel
theorem dX6_size_23 : decode cX6_size 23 = .ok (.aload_n 0, 1) := by decide +kernel
theorem dX6_size_24 : decode cX6_size 24 = .ok (.getfield 26, 3) := by decide +kernel
theorem dX6_size_27 : decode cX6_size 27 = .ok (.istore_n 3, 1) := by decide +kernel
theorem dX6_size_28 : decode cX6_size 28 = .ok (.iload_n 1, 1) := by decide +kernel
theorem dX6_size_29 : decode cX6_size 29 = .ok (.ifCond .ne 14, 3) := by decide +kernel
theorem dX6_size_32 : decode cX6_size 32 = .ok (.iload_n 2, 1) := by decide +kernel
theorem dX6_size_33 : decode cX6_size 33 = .ok (.iconst 1, 1) := by decide +kernel
theorem dX6_size_34 : decode cX6_size 34 = .ok (.if_icmp .lt 9, 3) := by decide +kernel
theorem dX6_size_37 : decode cX6_size 37 = .ok (.iload_n 2, 1) := by decide +kernel
theorem dX6_size_38 : decode cX6_size 38 = .ok (.bipush 16, 2) := by decide +kernel
theorem dX6_size_40 : decode cX6_size 40 = .ok (.if_icmp .le 34, 3) := by decide +kernel
theorem dX6_size_43 : decode cX6_size 43 = .ok (.iload_n 1, 1) := by decide +kernel
theorem dX6_size_44 : decode cX6_size 44 = .ok (.iconst 1, 1) := by decide +kernel
theorem dX6_size_45 : decode cX6_size 45 = .ok (.if_icmp .ne 14, 3) := by decide +kernel
theorem dX6_size_48 : decode cX6_size 48 = .ok (.iload_n 2, 1) := by decide +kernel
theorem dX6_size_49 : decode cX6_size 49 = .ok (.iconst 3, 1) := by decide +kernel
theorem dX6_size_50 : decode cX6_size 50 = .ok (.if_icmp .lt 9, 3) := by decide +kernel
theorem dX6_size_53 : decode cX6_size 53 = .ok (.iload_n 2, 1) := by decide +kernel
theorem dX6_size_54 : decode cX6_size 54 = .ok (.bipush 20, 2) := by decide +kernel
theorem dX6_size_56 : decode cX6_size 56 = .ok (.if_icmp .le 18, 3) := by decide +kernel
theorem dX6_size_59 : decode cX6_size 59 = .ok (.iload_n 1, 1) := by decide +kernel
theorem dX6_size_60 : decode cX6_size 60 = .ok (.iconst 2, 1) := by decide +kernel
theorem dX6_size_61 : decode cX6_size 61 = .ok (.if_icmp .ne 17, 3) := by decide +kernel
theorem dX6_size_64 : decode cX6_size 64 = .ok (.iload_n 2, 1) := by decide +kernel
theorem dX6_size_65 : decode cX6_size 65 = .ok (.ifCond .lt 13, 3) := by decide +kernel
theorem dX6_size_68 : decode cX6_size 68 = .ok (.iload_n 2, 1) := by decide +kernel
theorem dX6_size_69 : decode cX6_size 69 = .ok (.bipush 8, 2) := by decide +kernel
theorem dX6_size_71 : decode cX6_size 71 = .ok (.if_icmp .gt 7, 3) := by decide +kernel
theorem dX6_size_74 : decode cX6_size 74 = .ok (.iconst 1, 1) := by decide +kernel
theorem dX6_size_75 : decode cX6_size 75 = .ok (.goto 4, 3) := by decide +kernel
theorem dX6_size_78 : decode cX6_size 78 = .ok (.iconst 0, 1) := by decide +kernel
theorem dX6_size_79 : decode cX6_size 79 = .ok (.istore 4, 2) := by decide +kernel
theorem dX6_size_81 : decode cX6_size 81 = .ok (.iload 4, 2) := by decide +kernel
theorem dX6_size_83 : decode cX6_size 83 = .ok (.ifCond .ne 5, 3) := by decide +kernel
theorem dX6_size_86 : decode cX6_size 86 = .ok (.iconst (-1), 1) := by decide +kernel
theorem dX6_size_87 : decode cX6_size 87 = .ok (.ireturn, 1) := by decide +kernel
theorem dX6_size_88 : decode cX6_size 88 = .ok (.aload_n 0, 1) := by decide +kernel
theorem dX6_size_89 : decode cX6_size 89 = .ok (.iload_n 1, 1) := by decide +kernel
theorem dX6_size_90 : decode cX6_size 90 = .ok (.ifCond .ne 7, 3) := by decide +kernel
theorem dX6_size_93 : decode cX6_size 93 = .ok (.iload_n 2, 1) := by decide +kernel
theorem dX6_size_94 : decode cX6_size 94 = .ok (.goto 7, 3) := by decide +kernel
theorem dX6_size_97 : decode cX6_size 97 = .ok (.aload_n 0, 1) := by decide +kernel
theorem dX6_size_98 : decode cX6_size 98 = .ok (.getfield 19, 3) := by decide +kernel
theorem dX6_size_101 : decode cX6_size 101 = .ok (.putfield 19, 3) := by decide +kernel
theorem dX6_size_104 : decode cX6_size 104 = .ok (.aload_n 0, 1) := by decide +kernel
theorem dX6_size_105 : decode cX6_size 105 = .ok (.iload_n 1, 1) := by decide +kernel
theorem dX6_size_106 : decode cX6_size 106 = .ok (.iconst 1, 1) := by decide +kernel
theorem dX6_size_107 : decode cX6_size 107 = .ok (.if_icmp .ne 7, 3) := by decide +kernel
theorem dX6_size_110 : decode cX6_size 110 = .ok (.iload_n 2, 1) := by decide +kernel
theorem dX6_size_111 : decode cX6_size 111 = .ok (.goto 7, 3) := by decide +kernel
theorem dX6_size_114 : decode cX6_size 114 = .ok (.aload_n 0, 1) := by decide +kernel
theorem dX6_size_115 : decode cX6_size 115 = .ok (.getfield 23, 3) := by decide +kernel
theorem dX6_size_118 : decode cX6_size 118 = .ok (.putfield 23, 3) := by decide +kernel
theorem dX6_size_121 : decode cX6_size 121 = .ok (.aload_n 0, 1) := by decide +kernel
theorem dX6_size_122 : decode cX6_size 122 = .ok (.iload_n 1, 1) := by decide +kernel
theorem dX6_size_123 : decode cX6_size 123 = .ok (.iconst 2, 1) := by decide +kernel
theorem dX6_size_124 : decode cX6_size 124 = .ok (.if_icmp .ne 7, 3) := by decide +kernel
theorem dX6_size_127 : decode cX6_size 127 = .ok (.iload_n 2, 1) := by decide +kernel
theorem dX6_size_128 : decode cX6_size 128 = .ok (.goto 7, 3) := by decide +kernel
theorem dX6_size_131 : decode cX6_size 131 = .ok (.aload_n 0, 1) := by decide +kernel
theorem dX6_size_132 : decode cX6_size 132 = .ok (.getfield 26, 3) := by decide +kernel
theorem dX6_size_135 : decode cX6_size 135 = .ok (.putfield 26, 3) := by decide +kernel
theorem dX6_size_138 : decode cX6_size 138 = .ok (.iload_n 3, 1) := by decide +kernel
theorem dX6_size_139 : decode cX6_size 139 = .ok (.ireturn, 1) := by decide +kernel
theorem dX6_pagesOf_0 : decode cX6_pagesOf 0 = .ok (.iload_n 1, 1) := by decide +kernel
theorem dX6_pagesOf_1 : decode cX6_pagesOf 1 = .ok (.aload_n 0, 1) := by decide +kernel
theorem dX6_pagesOf_2 : decode cX6_pagesOf 2 = .ok (.getfield 19, 3) := by decide +kernel
theorem dX6_pagesOf_5 : decode cX6_pagesOf 5 = .ok (.iadd, 1) := by decide +kernel
theorem dX6_pagesOf_6 : decode cX6_pagesOf 6 = .ok (.iconst 1, 1) := by decide +kernel
theorem dX6_pagesOf_7 : decode cX6_pagesOf 7 = .ok (.isub, 1) := by decide +kernel
theorem dX6_pagesOf_8 : decode cX6_pagesOf 8 = .ok (.aload_n 0, 1) := by decide +kernel
theorem dX6_pagesOf_9 : decode cX6_pagesOf 9 = .ok (.getfield 19, 3) := by decide +kernel
theorem dX6_pagesOf_12 : decode cX6_pagesOf 12 = .ok (.idiv, 1) := by decide +kernel
theorem dX6_pagesOf_13 : decode cX6_pagesOf 13 = .ok (.ireturn, 1) := by decide +kernel
set_option maxRecDepth 20000 in
theorem ggX6_pages_X6_isTable : GoodIn wsX6_pages wsX6_isTable := goodIn_r _ [5] (by decide +kernel) (by decide +kernel)
set_option maxRecDepth 20000 in
theorem gX6_pages_X6_isTable : GoodIn wsX6_pages (va_wsS RX6 62 yX6_isTable wsX6_isTable) := goodIn_app (goodIn_of _ (by decide +kernel)) ggX6_pages_X6_isTable
set_option maxRecDepth 20000 in
theorem ggX6_pages_X6_pagesOf : GoodIn wsX6_pages wsX6_pagesOf := goodIn_r _ [9, 10, 11, 12, 13, 14, 15, 16, 17, 18, 19, 20, 21, 22, 23, 24, 25, 26, 27, 28, 29, 30, 31, 32, 33, 34] (by decide +kernel) (by decide +kernel)
set_option maxRecDepth 20000 in
theorem gX6_pages_X6_pagesOf : GoodIn wsX6_pages (wsV RX6 66 RX6 yX6_pagesOf wsX6_pagesOf) := goodIn_app (goodIn_of _ (by decide +kernel)) ggX6_pages_X6_pagesOf
theorem dX6_pages_0 : decode cX6_pages 0 = .ok (.iload_n 1, 1) := by decide +kernel
theorem dX6_pages_1 : decode cX6_pages 1 = .ok (.invokestatic 62, 3) := by decide +kernel
theorem dX6_pages_4 : decode cX6_pages 4 = .ok (.ifCond .eq 16, 3) := by decide +kernel
theorem dX6_pages_7 : decode cX6_pages 7 = .ok (.aload_n 0, 1) := by decide +kernel
theorem dX6_pages_8 : decode cX6_pages 8 = .ok (.aload_n 0, 1) := by decide +kernel
theorem dX6_pages_9 : decode cX6_pages 9 = .ok (.getfield 16, 3) := by decide +kernel
theorem dX6_pages_12 : decode cX6_pages 12 = .ok (.iload_n 1, 1) := by decide +kernel
theorem dX6_pages_13 : decode cX6_pages 13 = .ok (.iaload, 1) := by decide +kernel
theorem dX6_pages_14 : decode cX6_pages 14 = .ok (.invokevirtual 66, 3) := by decide +kernel
theorem dX6_pages_17 : decode cX6_pages 17 = .ok (.goto 4, 3) := by decide +kernel
theorem dX6_pages_20 : decode cX6_pages 20 = .ok (.iconst (-1), 1) := by decide +kernel
theorem dX6_pages_21 : decode cX6_pages 21 = .ok (.ireturn, 1) := by decide +kernel
theorem dX6_partOf_0 : decode cX6_partOf 0 = .ok (.iload_n 1, 1) := by decide +kernel
theorem dX6_partOf_1 : decode cX6_partOf 1 = .ok (.ldc 70, 2) := by decide +kernel
theorem dX6_partOf_3 : decode cX6_partOf 3 = .ok (.imul, 1) := by decide +kernel
theorem dX6_partOf_4 : decode cX6_partOf 4 = .ok (.iload_n 2, 1) := by decide +kernel
theorem dX6_partOf_5 : decode cX6_partOf 5 = .ok (.ldc 71, 2) := by decide +kernel
theorem dX6_partOf_7 : decode cX6_partOf 7 = .ok (.imul, 1) := by decide +kernel
theorem dX6_partOf_8 : decode cX6_partOf 8 = .ok (.iadd, 1) := by decide +kernel
theorem dX6_partOf_9 : decode cX6_partOf 9 = .ok (.istore_n 3, 1) := by decide +kernel
theorem dX6_partOf_10 : decode cX6_partOf 10 = .ok (.iload_n 3, 1) := by decide +kernel
theorem dX6_partOf_11 : decode cX6_partOf 11 = .ok (.iload_n 3, 1) := by decide +kernel
theorem dX6_partOf_12 : decode cX6_partOf 12 = .ok (.bipush 15, 2) := by decide +kernel
theorem dX6_partOf_14 : decode cX6_partOf 14 = .ok (.iushr, 1) := by decide +kernel
theorem dX6_partOf_15 : decode cX6_partOf 15 = .ok (.ixor, 1) := by decide +kernel
theorem dX6_partOf_16 : decode cX6_partOf 16 = .ok (.istore_n 3, 1) := by decide +kernel
theorem dX6_partOf_17 : decode cX6_partOf 17 = .ok (.iload_n 3, 1) := by decide +kernel
theorem dX6_partOf_18 : decode cX6_partOf 18 = .ok (.ldc 72, 2) := by decide +kernel
theorem dX6_partOf_20 : decode cX6_partOf 20 = .ok (.imul, 1) := by decide +kernel
theorem dX6_partOf_21 : decode cX6_partOf 21 = .ok (.istore_n 3, 1) := by decide +kernel
theorem dX6_partOf_22 : decode cX6_partOf 22 = .ok (.iload_n 3, 1) := by decide +kernel
theorem dX6_partOf_23 : decode cX6_partOf 23 = .ok (.iload_n 3, 1) := by decide +kernel
theorem dX6_partOf_24 : decode cX6_partOf 24 = .ok (.bipush 13, 2) := by decide +kernel
theorem dX6_partOf_26 : decode cX6_partOf 26 = .ok (.iushr, 1) := by decide +kernel
theorem dX6_partOf_27 : decode cX6_partOf 27 = .ok (.ixor, 1) := by decide +kernel
theorem dX6_partOf_28 : decode cX6_partOf 28 = .ok (.istore_n 3, 1) := by decide +kernel
theorem dX6_partOf_29 : decode cX6_partOf 29 = .ok (.iload_n 3, 1) := by decide +kernel
theorem dX6_partOf_30 : decode cX6_partOf 30 = .ok (.i2l, 1) := by decide +kernel
theorem dX6_partOf_31 : decode cX6_partOf 31 = .ok (.ldc2_w 73, 3) := by decide +kernel
theorem dX6_partOf_34 : decode cX6_partOf 34 = .ok (.land, 1) := by decide +kernel
theorem dX6_partOf_35 : decode cX6_partOf 35 = .ok (.aload_n 0, 1) := by decide +kernel
theorem dX6_partOf_36 : decode cX6_partOf 36 = .ok (.getfield 23, 3) := by decide +kernel
theorem dX6_partOf_39 : decode cX6_partOf 39 = .ok (.iconst 1, 1) := by decide +kernel
theorem dX6_partOf_40 : decode cX6_partOf 40 = .ok (.isub, 1) := by decide +kernel
theorem dX6_partOf_41 : decode cX6_partOf 41 = .ok (.i2l, 1) := by decide +kernel
theorem dX6_partOf_42 : decode cX6_partOf 42 = .ok (.lrem, 1) := by decide +kernel
theorem dX6_partOf_43 : decode cX6_partOf 43 = .ok (.l2i, 1) := by decide +kernel
theorem dX6_partOf_44 : decode cX6_partOf 44 = .ok (.ireturn, 1) := by decide +kernel
set_option maxRecDepth 20000 in
theorem ggX6_part_X6_partOf : GoodIn wsX6_part wsX6_partOf := goodIn_r _ [5, 6, 7, 8, 9, 10, 11, 12, 13, 14, 15, 16, 17, 18, 19, 20, 21, 22, 23, 24, 25, 26, 27, 28, 29, 30, 31, 32, 33, 34] (by decide +kernel) (by decide +kernel)
set_option maxRecDepth 20000 in
theorem gX6_part_X6_partOf : GoodIn wsX6_part (wsV RX6 75 RX6 yX6_partOf wsX6_partOf) := goodIn_app (goodIn_of _ (by decide +kernel)) ggX6_part_X6_partOf
theorem dX6_part_0 : decode cX6_part 0 = .ok (.iload_n 2, 1) := by decide +kernel
theorem dX6_part_1 : decode cX6_part 1 = .ok (.ifCond .lt 9, 3) := by decide +kernel
theorem dX6_part_4 : decode cX6_part 4 = .ok (.iload_n 2, 1) := by decide +kernel
theorem dX6_part_5 : decode cX6_part 5 = .ok (.bipush 8, 2) := by decide +kernel
theorem dX6_part_7 : decode cX6_part 7 = .ok (.if_icmp .le 7, 3) := by decide +kernel
theorem dX6_part_10 : decode cX6_part 10 = .ok (.iconst (-1), 1) := by decide +kernel
theorem dX6_part_11 : decode cX6_part 11 = .ok (.goto 9, 3) := by decide +kernel
theorem dX6_part_14 : decode cX6_part 14 = .ok (.aload_n 0, 1) := by decide +kernel
theorem dX6_part_15 : decode cX6_part 15 = .ok (.iload_n 1, 1) := by decide +kernel
theorem dX6_part_16 : decode cX6_part 16 = .ok (.iload_n 2, 1) := by decide +kernel
theorem dX6_part_17 : decode cX6_part 17 = .ok (.invokevirtual 75, 3) := by decide +kernel
theorem dX6_part_20 : decode cX6_part 20 = .ok (.ireturn, 1) := by decide +kernel
theorem dX6_beginOf_0 : decode cX6_beginOf 0 = .ok (.aload_n 0, 1) := by decide +kernel
theorem dX6_beginOf_1 : decode cX6_beginOf 1 = .ok (.getfield 32, 3) := by decide +kernel
theorem dX6_beginOf_4 : decode cX6_beginOf 4 = .ok (.bipush 42, 2) := by decide +kernel
theorem dX6_beginOf_6 : decode cX6_beginOf 6 = .ok (.iload_n 2, 1) := by decide +kernel
theorem dX6_beginOf_7 : decode cX6_beginOf 7 = .ok (.imul, 1) := by decide +kernel
theorem dX6_beginOf_8 : decode cX6_beginOf 8 = .ok (.bipush 21, 2) := by decide +kernel
theorem dX6_beginOf_10 : decode cX6_beginOf 10 = .ok (.iload_n 1, 1) := by decide +kernel
theorem dX6_beginOf_11 : decode cX6_beginOf 11 = .ok (.imul, 1) := by decide +kernel
theorem dX6_beginOf_12 : decode cX6_beginOf 12 = .ok (.iadd, 1) := by decide +kernel
theorem dX6_beginOf_13 : decode cX6_beginOf 13 = .ok (.iload_n 3, 1) := by decide +kernel
theorem dX6_beginOf_14 : decode cX6_beginOf 14 = .ok (.iadd, 1) := by decide +kernel
theorem dX6_beginOf_15 : decode cX6_beginOf 15 = .ok (.iaload, 1) := by decide +kernel
theorem dX6_beginOf_16 : decode cX6_beginOf 16 = .ok (.ireturn, 1) := by decide +kernel
set_option maxRecDepth 20000 in
theorem ggX6_sizeOf_X6_beginOf : GoodIn wsX6_sizeOf wsX6_beginOf := goodIn_r _ [5, 6, 7, 8, 9, 10, 11, 12, 13, 14, 15, 16, 17, 18, 19, 20, 21, 22, 23, 24, 25, 26, 27, 28, 29, 30] (by decide +kernel) (by decide +kernel)
set_option maxRecDepth 20000 in
theorem gX6_sizeOf_X6_beginOf : GoodIn wsX6_sizeOf (wsV RX6 79 RX6 yX6_beginOf wsX6_beginOf) := goodIn_app (goodIn_of _ (by decide +kernel)) ggX6_sizeOf_X6_beginOf
theorem dX6_sizeOf_0 : decode cX6_sizeOf 0 = .ok (.aload_n 0, 1) := by decide +kernel
theorem dX6_sizeOf_1 : decode cX6_sizeOf 1 = .ok (.iload_n 1, 1) := by decide +kernel
theorem dX6_sizeOf_2 : decode cX6_sizeOf 2 = .ok (.iload_n 2, 1) := by decide +kernel
theorem dX6_sizeOf_3 : decode cX6_sizeOf 3 = .ok (.iload_n 3, 1) := by decide +kernel
theorem dX6_sizeOf_4 : decode cX6_sizeOf 4 = .ok (.iconst 1, 1) := by decide +kernel
theorem dX6_sizeOf_5 : decode cX6_sizeOf 5 = .ok (.iadd, 1) := by decide +kernel
theorem dX6_sizeOf_6 : decode cX6_sizeOf 6 = .ok (.invokevirtual 79, 3) := by decide +kernel
theorem dX6_sizeOf_9 : decode cX6_sizeOf 9 = .ok (.aload_n 0, 1) := by decide +kernel
theorem dX6_sizeOf_10 : decode cX6_sizeOf 10 = .ok (.iload_n 1, 1) := by decide +kernel
theorem dX6_sizeOf_11 : decode cX6_sizeOf 11 = .ok (.iload_n 2, 1) := by decide +kernel
theorem dX6_sizeOf_12 : decode cX6_sizeOf 12 = .ok (.iload_n 3, 1) := by decide +kernel
theorem dX6_sizeOf_13 : decode cX6_sizeOf 13 = .ok (.invokevirtual 79, 3) := by decide +kernel
theorem dX6_sizeOf_16 : decode cX6_sizeOf 16 = .ok (.isub, 1) := by decide +kernel
theorem dX6_sizeOf_17 : decode cX6_sizeOf 17 = .ok (.ireturn, 1) := by decide +kernel
set_option maxRecDepth 20000 in
theorem ggX6_rowAt_X6_beginOf : GoodIn wsX6_rowAt wsX6_beginOf := goodIn_r _ [6, 7, 8, 9, 10, 11, 12, 13, 14, 15, 16, 17, 18, 19, 20, 21, 22, 23, 24, 25, 26, 27, 28, 29, 30, 31] (by decide +kernel) (by decide +kernel)
set_option maxRecDepth 20000 in
theorem gX6_rowAt_X6_beginOf : GoodIn wsX6_rowAt (wsV RX6 79 RX6 yX6_beginOf wsX6_beginOf) := goodIn_app (goodIn_of _ (by decide +kernel)) ggX6_rowAt_X6_beginOf
theorem dX6_rowAt_0 : decode cX6_rowAt 0 = .ok (.aload_n 0, 1) := by decide +kernel
theorem dX6_rowAt_1 : decode cX6_rowAt 1 = .ok (.getfield 29, 3) := by decide +kernel
theorem dX6_rowAt_4 : decode cX6_rowAt 4 = .ok (.sipush 1000, 3) := by decide +kernel
theorem dX6_rowAt_7 : decode cX6_rowAt 7 = .ok (.iload_n 2, 1) := by decide +kernel
theorem dX6_rowAt_8 : decode cX6_rowAt 8 = .ok (.imul, 1) := by decide +kernel
theorem dX6_rowAt_9 : decode cX6_rowAt 9 = .ok (.sipush 500, 3) := by decide +kernel
theorem dX6_rowAt_12 : decode cX6_rowAt 12 = .ok (.iload_n 1, 1) := by decide +kernel
theorem dX6_rowAt_13 : decode cX6_rowAt 13 = .ok (.imul, 1) := by decide +kernel
theorem dX6_rowAt_14 : decode cX6_rowAt 14 = .ok (.iadd, 1) := by decide +kernel
theorem dX6_rowAt_15 : decode cX6_rowAt 15 = .ok (.aload_n 0, 1) := by decide +kernel
theorem dX6_rowAt_16 : decode cX6_rowAt 16 = .ok (.iload_n 1, 1) := by decide +kernel
theorem dX6_rowAt_17 : decode cX6_rowAt 17 = .ok (.iload_n 2, 1) := by decide +kernel
theorem dX6_rowAt_18 : decode cX6_rowAt 18 = .ok (.iload_n 3, 1) := by decide +kernel
theorem dX6_rowAt_19 : decode cX6_rowAt 19 = .ok (.invokevirtual 79, 3) := by decide +kernel
theorem dX6_rowAt_22 : decode cX6_rowAt 22 = .ok (.iadd, 1) := by decide +kernel
theorem dX6_rowAt_23 : decode cX6_rowAt 23 = .ok (.iload 4, 2) := by decide +kernel
theorem dX6_rowAt_25 : decode cX6_rowAt 25 = .ok (.iadd, 1) := by decide +kernel
theorem dX6_rowAt_26 : decode cX6_rowAt 26 = .ok (.iaload, 1) := by decide +kernel
theorem dX6_rowAt_27 : decode cX6_rowAt 27 = .ok (.ireturn, 1) := by decide +kernel
set_option maxRecDepth 20000 in
theorem ggX6_keyAt_X6_rowAt : GoodIn wsX6_keyAt wsX6_rowAt := goodIn_r _ [6, 7, 8, 9, 10, 5, 11, 12, 13, 14, 15, 16, 17, 18, 19, 20, 21, 22, 23, 24, 25, 26, 27, 28, 29, 30, 31, 32, 33, 34, 35, 36] (by decide +kernel) (by decide +kernel)
set_option maxRecDepth 20000 in
theorem gX6_keyAt_X6_rowAt : GoodIn wsX6_keyAt (wsV RX6 83 RX6 yX6_rowAt wsX6_rowAt) := goodIn_app (goodIn_of _ (by decide +kernel)) ggX6_keyAt_X6_rowAt
theorem dX6_keyAt_0 : decode cX6_keyAt 0 = .ok (.aload_n 0, 1) := by decide +kernel
theorem dX6_keyAt_1 : decode cX6_keyAt 1 = .ok (.getfield 7, 3) := by decide +kernel
theorem dX6_keyAt_4 : decode cX6_keyAt 4 = .ok (.sipush 500, 3) := by decide +kernel
theorem dX6_keyAt_7 : decode cX6_keyAt 7 = .ok (.iload_n 1, 1) := by decide +kernel
theorem dX6_keyAt_8 : decode cX6_keyAt 8 = .ok (.imul, 1) := by decide +kernel
theorem dX6_keyAt_9 : decode cX6_keyAt 9 = .ok (.aload_n 0, 1) := by decide +kernel
theorem dX6_keyAt_10 : decode cX6_keyAt 10 = .ok (.iload_n 1, 1) := by decide +kernel
theorem dX6_keyAt_11 : decode cX6_keyAt 11 = .ok (.iload_n 2, 1) := by decide +kernel
theorem dX6_keyAt_12 : decode cX6_keyAt 12 = .ok (.iload_n 3, 1) := by decide +kernel
theorem dX6_keyAt_13 : decode cX6_keyAt 13 = .ok (.iload 4, 2) := by decide +kernel
theorem dX6_keyAt_15 : decode cX6_keyAt 15 = .ok (.invokevirtual 83, 3) := by decide +kernel
theorem dX6_keyAt_18 : decode cX6_keyAt 18 = .ok (.iadd, 1) := by decide +kernel
theorem dX6_keyAt_19 : decode cX6_keyAt 19 = .ok (.iaload, 1) := by decide +kernel
theorem dX6_keyAt_20 : decode cX6_keyAt 20 = .ok (.ireturn, 1) := by decide +kernel
set_option maxRecDepth 20000 in
theorem ggX6_isOneKey_X6_keyAt : GoodIn wsX6_isOneKey wsX6_keyAt := goodIn_r _ [5, 6, 7, 8, 9, 4, 10, 11, 12, 13, 14, 15, 16, 21, 22, 23, 24, 25, 26, 27, 28, 29, 30, 31, 32, 33, 34, 35, 36, 37, 38, 39, 40, 41, 42, 43, 44] (by decide +kernel) (by decide +kernel)
set_option maxRecDepth 20000 in
theorem gX6_isOneKey_X6_keyAt : GoodIn wsX6_isOneKey (wsV RX6 87 RX6 yX6_keyAt wsX6_keyAt) := goodIn_app (goodIn_of _ (by decide +kernel)) ggX6_isOneKey_X6_keyAt
set_option maxRecDepth 20000 in
theorem ggX6_isOneKey_X6_sizeOf : GoodIn wsX6_isOneKey wsX6_sizeOf := goodIn_r _ [20, 12, 13, 14, 4, 15, 16, 21, 22, 23, 24, 25, 26, 27, 28, 29, 30, 31, 32, 33, 34, 35, 36, 37, 38, 39, 40, 41, 42, 43, 44] (by decide +kernel) (by decide +kernel)
set_option maxRecDepth 20000 in
theorem gX6_isOneKey_X6_sizeOf : GoodIn wsX6_isOneKey (wsV RX6 90 RX6 yX6_sizeOf wsX6_sizeOf) := goodIn_app (goodIn_of _ (by decide +kernel)) ggX6_isOneKey_X6_sizeOf
theorem dX6_isOneKey_0 : decode cX6_isOneKey 0 = .ok (.aload_n 0, 1) := by decide +kernel
theorem dX6_isOneKey_1 : decode cX6_isOneKey 1 = .ok (.iconst 0, 1) := by decide +kernel
theorem dX6_isOneKey_2 : decode cX6_isOneKey 2 = .ok (.iload_n 1, 1) := by decide +kernel
theorem dX6_isOneKey_3 : decode cX6_isOneKey 3 = .ok (.iload_n 2, 1) := by decide +kernel
theorem dX6_isOneKey_4 : decode cX6_isOneKey 4 = .ok (.iconst 0, 1) := by decide +kernel
theorem dX6_isOneKey_5 : decode cX6_isOneKey 5 = .ok (.invokevirtual 87, 3) := by decide +kernel
theorem dX6_isOneKey_8 : decode cX6_isOneKey 8 = .ok (.istore_n 3, 1) := by decide +kernel
theorem dX6_isOneKey_9 : decode cX6_isOneKey 9 = .ok (.iconst 0, 1) := by decide +kernel
theorem dX6_isOneKey_10 : decode cX6_isOneKey 10 = .ok (.istore 4, 2) := by decide +kernel
theorem dX6_isOneKey_12 : decode cX6_isOneKey 12 = .ok (.iload 4, 2) := by decide +kernel
theorem dX6_isOneKey_14 : decode cX6_isOneKey 14 = .ok (.iconst 2, 1) := by decide +kernel
theorem dX6_isOneKey_15 : decode cX6_isOneKey 15 = .ok (.if_icmp .ge 47, 3) := by decide +kernel
theorem dX6_isOneKey_18 : decode cX6_isOneKey 18 = .ok (.iconst 0, 1) := by decide +kernel
theorem dX6_isOneKey_19 : decode cX6_isOneKey 19 = .ok (.istore 5, 2) := by decide +kernel
theorem dX6_isOneKey_21 : decode cX6_isOneKey 21 = .ok (.iload 5, 2) := by decide +kernel
theorem dX6_isOneKey_23 : decode cX6_isOneKey 23 = .ok (.aload_n 0, 1) := by decide +kernel
theorem dX6_isOneKey_24 : decode cX6_isOneKey 24 = .ok (.iload 4, 2) := by decide +kernel
theorem dX6_isOneKey_26 : decode cX6_isOneKey 26 = .ok (.iload_n 1, 1) := by decide +kernel
theorem dX6_isOneKey_27 : decode cX6_isOneKey 27 = .ok (.iload_n 2, 1) := by decide +kernel
theorem dX6_isOneKey_28 : decode cX6_isOneKey 28 = .ok (.invokevirtual 90, 3) := by decide +kernel
theorem dX6_isOneKey_31 : decode cX6_isOneKey 31 = .ok (.if_icmp .ge 25, 3) := by decide +kernel
theorem dX6_isOneKey_34 : decode cX6_isOneKey 34 = .ok (.aload_n 0, 1) := by decide +kernel
theorem dX6_isOneKey_35 : decode cX6_isOneKey 35 = .ok (.iload 4, 2) := by decide +kernel
theorem dX6_isOneKey_37 : decode cX6_isOneKey 37 = .ok (.iload_n 1, 1) := by decide +kernel
theorem dX6_isOneKey_38 : decode cX6_isOneKey 38 = .ok (.iload_n 2, 1) := by decide +kernel
theorem dX6_isOneKey_39 : decode cX6_isOneKey 39 = .ok (.iload 5, 2) := by decide +kernel
theorem dX6_isOneKey_41 : decode cX6_isOneKey 41 = .ok (.invokevirtual 87, 3) := by decide +kernel
theorem dX6_isOneKey_44 : decode cX6_isOneKey 44 = .ok (.iload_n 3, 1) := by decide +kernel
theorem dX6_isOneKey_45 : decode cX6_isOneKey 45 = .ok (.if_icmp .eq 5, 3) := by decide +kernel
theorem dX6_isOneKey_48 : decode cX6_isOneKey 48 = .ok (.iconst 0, 1) := by decide +kernel
theorem dX6_isOneKey_49 : decode cX6_isOneKey 49 = .ok (.ireturn, 1) := by decide +kernel
theorem dX6_isOneKey_50 : decode cX6_isOneKey 50 = .ok (.iinc 5 1, 3) := by decide +kernel
theorem dX6_isOneKey_53 : decode cX6_isOneKey 53 = .ok (.goto (-32), 3) := by decide +kernel
theorem dX6_isOneKey_56 : decode cX6_isOneKey 56 = .ok (.iinc 4 1, 3) := by decide +kernel
theorem dX6_isOneKey_59 : decode cX6_isOneKey 59 = .ok (.goto (-47), 3) := by decide +kernel
theorem dX6_isOneKey_62 : decode cX6_isOneKey 62 = .ok (.iconst 1, 1) := by decide +kernel
theorem dX6_isOneKey_63 : decode cX6_isOneKey 63 = .ok (.ireturn, 1) := by decide +kernel
theorem dX6_makePair_0 : decode cX6_makePair 0 = .ok (.aload_n 0, 1) := by decide +kernel
theorem dX6_makePair_1 : decode cX6_makePair 1 = .ok (.getfield 93, 3) := by decide +kernel
theorem dX6_makePair_4 : decode cX6_makePair 4 = .ok (.sipush 4000, 3) := by decide +kernel
theorem dX6_makePair_7 : decode cX6_makePair 7 = .ok (.if_icmp .ge 72, 3) := by decide +kernel
theorem dX6_makePair_10 : decode cX6_makePair 10 = .ok (.aload_n 0, 1) := by decide +kernel
theorem dX6_makePair_11 : decode cX6_makePair 11 = .ok (.getfield 38, 3) := by decide +kernel
theorem dX6_makePair_14 : decode cX6_makePair 14 = .ok (.aload_n 0, 1) := by decide +kernel
theorem dX6_makePair_15 : decode cX6_makePair 15 = .ok (.getfield 93, 3) := by decide +kernel
theorem dX6_makePair_18 : decode cX6_makePair 18 = .ok (.iload_n 1, 1) := by decide +kernel
theorem dX6_makePair_19 : decode cX6_makePair 19 = .ok (.iastore, 1) := by decide +kernel
theorem dX6_makePair_20 : decode cX6_makePair 20 = .ok (.aload_n 0, 1) := by decide +kernel
theorem dX6_makePair_21 : decode cX6_makePair 21 = .ok (.getfield 41, 3) := by decide +kernel
theorem dX6_makePair_24 : decode cX6_makePair 24 = .ok (.aload_n 0, 1) := by decide +kernel
theorem dX6_makePair_25 : decode cX6_makePair 25 = .ok (.getfield 93, 3) := by decide +kernel
theorem dX6_makePair_28 : decode cX6_makePair 28 = .ok (.iload_n 2, 1) := by decide +kernel
theorem dX6_makePair_29 : decode cX6_makePair 29 = .ok (.iastore, 1) := by decide +kernel
theorem dX6_makePair_30 : decode cX6_makePair 30 = .ok (.aload_n 0, 1) := by decide +kernel
theorem dX6_makePair_31 : decode cX6_makePair 31 = .ok (.getfield 44, 3) := by decide +kernel
theorem dX6_makePair_34 : decode cX6_makePair 34 = .ok (.aload_n 0, 1) := by decide +kernel
theorem dX6_makePair_35 : decode cX6_makePair 35 = .ok (.getfield 93, 3) := by decide +kernel
theorem dX6_makePair_38 : decode cX6_makePair 38 = .ok (.aload_n 0, 1) := by decide +kernel
theorem dX6_makePair_39 : decode cX6_makePair 39 = .ok (.getfield 7, 3) := by decide +kernel
theorem dX6_makePair_42 : decode cX6_makePair 42 = .ok (.iload_n 1, 1) := by decide +kernel
theorem dX6_makePair_43 : decode cX6_makePair 43 = .ok (.iaload, 1) := by decide +kernel
theorem dX6_makePair_44 : decode cX6_makePair 44 = .ok (.iastore, 1) := by decide +kernel
theorem dX6_makePair_45 : decode cX6_makePair 45 = .ok (.aload_n 0, 1) := by decide +kernel
theorem dX6_makePair_46 : decode cX6_makePair 46 = .ok (.getfield 47, 3) := by decide +kernel
theorem dX6_makePair_49 : decode cX6_makePair 49 = .ok (.aload_n 0, 1) := by decide +kernel
theorem dX6_makePair_50 : decode cX6_makePair 50 = .ok (.getfield 93, 3) := by decide +kernel
theorem dX6_makePair_53 : decode cX6_makePair 53 = .ok (.aload_n 0, 1) := by decide +kernel
theorem dX6_makePair_54 : decode cX6_makePair 54 = .ok (.getfield 13, 3) := by decide +kernel
theorem dX6_makePair_57 : decode cX6_makePair 57 = .ok (.iload_n 1, 1) := by decide +kernel
theorem dX6_makePair_58 : decode cX6_makePair 58 = .ok (.iaload, 1) := by decide +kernel
theorem dX6_makePair_59 : decode cX6_makePair 59 = .ok (.iastore, 1) := by decide +kernel
theorem dX6_makePair_60 : decode cX6_makePair 60 = .ok (.aload_n 0, 1) := by decide +kernel
theorem dX6_makePair_61 : decode cX6_makePair 61 = .ok (.getfield 50, 3) := by decide +kernel
theorem dX6_makePair_64 : decode cX6_makePair 64 = .ok (.aload_n 0, 1) := by decide +kernel
theorem dX6_makePair_65 : decode cX6_makePair 65 = .ok (.getfield 93, 3) := by decide +kernel
theorem dX6_makePair_68 : decode cX6_makePair 68 = .ok (.aload_n 0, 1) := by decide +kernel
theorem dX6_makePair_69 : decode cX6_makePair 69 = .ok (.getfield 13, 3) := by decide +kernel
theorem dX6_makePair_72 : decode cX6_makePair 72 = .ok (.sipush 500, 3) := by decide +kernel
theorem dX6_makePair_75 : decode cX6_makePair 75 = .ok (.iload_n 2, 1) := by decide +kernel
theorem dX6_makePair_76 : decode cX6_makePair 76 = .ok (.iadd, 1) := by decide +kernel
theorem dX6_makePair_77 : decode cX6_makePair 77 = .ok (.iaload, 1) := by decide +kernel
theorem dX6_makePair_78 : decode cX6_makePair 78 = .ok (.iastore, 1) := by decide +kernel
theorem dX6_makePair_79 : decode cX6_makePair 79 = .ok (.aload_n 0, 1) := by decide +kernel
theorem dX6_makePair_80 : decode cX6_makePair 80 = .ok (.dup, 1) := by decide +kernel
theorem dX6_makePair_81 : decode cX6_makePair 81 = .ok (.getfield 93, 3) := by decide +kernel
theorem dX6_makePair_84 : decode cX6_makePair 84 = .ok (.iconst 1, 1) := by decide +kernel
theorem dX6_makePair_85 : decode cX6_makePair 85 = .ok (.iadd, 1) := by decide +kernel
theorem dX6_makePair_86 : decode cX6_makePair 86 = .ok (.putfield 93, 3) := by decide +kernel
theorem dX6_makePair_89 : decode cX6_makePair 89 = .ok (.return_, 1) := by decide +kernel
set_option maxRecDepth 20000 in
theorem ggX6_meet_X6_sizeOf : GoodIn wsX6_meet wsX6_sizeOf := goodIn_r _ [5, 6, 7, 8, 4, 9, 10, 32, 33, 34, 35, 36, 37, 38, 39, 40, 41, 42, 43, 44, 45, 46, 47, 48, 49, 50, 51, 52, 53, 54, 55] (by decide +kernel) (by decide +kernel)
set_option maxRecDepth 20000 in
theorem gX6_meet_X6_sizeOf : GoodIn wsX6_meet (wsV RX6 90 RX6 yX6_sizeOf wsX6_sizeOf) := goodIn_app (goodIn_of _ (by decide +kernel)) ggX6_meet_X6_sizeOf
set_option maxRecDepth 20000 in
theorem ggX6_meet_X6_keyAt : GoodIn wsX6_meet wsX6_keyAt := goodIn_r _ [14, 15, 16, 17, 18, 4, 19, 20, 6, 7, 8, 9, 10, 32, 33, 34, 35, 36, 37, 38, 39, 40, 41, 42, 43, 44, 45, 46, 47, 48, 49, 50, 51, 52, 53, 54, 55] (by decide +kernel) (by decide +kernel)
set_option maxRecDepth 20000 in
theorem gX6_meet_X6_keyAt : GoodIn wsX6_meet (wsV RX6 87 RX6 yX6_keyAt wsX6_keyAt) := goodIn_app (goodIn_of _ (by decide +kernel)) ggX6_meet_X6_keyAt
set_option maxRecDepth 20000 in
theorem ggX6_meet_X6_rowAt : GoodIn wsX6_meet wsX6_rowAt := goodIn_r _ [19, 20, 6, 7, 8, 4, 9, 10, 32, 33, 34, 35, 36, 37, 38, 39, 40, 41, 42, 43, 44, 45, 46, 47, 48, 49, 50, 51, 52, 53, 54, 55] (by decide +kernel) (by decide +kernel)
set_option maxRecDepth 20000 in
theorem gX6_meet_X6_rowAt : GoodIn wsX6_meet (wsV RX6 83 RX6 yX6_rowAt wsX6_rowAt) := goodIn_app (goodIn_of _ (by decide +kernel)) ggX6_meet_X6_rowAt
set_option maxRecDepth 20000 in
theorem ggX6_meet_X6_makePair : GoodIn wsX6_meet wsX6_makePair := goodIn_r _ [24, 25, 26, 27, 28, 15, 29, 30, 31, 32, 33, 34, 35, 36, 37, 38, 39, 40, 41, 42, 43, 44, 45, 46, 47, 48, 49, 50, 51, 52, 53, 54, 55] (by decide +kernel) (by decide +kernel)
set_option maxRecDepth 20000 in
theorem gX6_meet_X6_makePair : GoodIn wsX6_meet (wsV RX6 96 RX6 yX6_makePair wsX6_makePair) := goodIn_app (goodIn_of _ (by decide +kernel)) ggX6_meet_X6_makePair
theorem dX6_meet_0 : decode cX6_meet 0 = .ok (.iconst 1, 1) := by decide +kernel
theorem dX6_meet_1 : decode cX6_meet 1 = .ok (.iload_n 1, 1) := by decide +kernel
theorem dX6_meet_2 : decode cX6_meet 2 = .ok (.isub, 1) := by decide +kernel
theorem dX6_meet_3 : decode cX6_meet 3 = .ok (.istore 6, 2) := by decide +kernel
theorem dX6_meet_5 : decode cX6_meet 5 = .ok (.iconst 0, 1) := by decide +kernel
theorem dX6_meet_6 : decode cX6_meet 6 = .ok (.istore 7, 2) := by decide +kernel
theorem dX6_meet_8 : decode cX6_meet 8 = .ok (.iload 7, 2) := by decide +kernel
theorem dX6_meet_10 : decode cX6_meet 10 = .ok (.aload_n 0, 1) := by decide +kernel
theorem dX6_meet_11 : decode cX6_meet 11 = .ok (.iload 6, 2) := by decide +kernel
theorem dX6_meet_13 : decode cX6_meet 13 = .ok (.iload_n 2, 1) := by decide +kernel
theorem dX6_meet_14 : decode cX6_meet 14 = .ok (.iload_n 3, 1) := by decide +kernel
theorem dX6_meet_15 : decode cX6_meet 15 = .ok (.invokevirtual 90, 3) := by decide +kernel
theorem dX6_meet_18 : decode cX6_meet 18 = .ok (.if_icmp .ge 97, 3) := by decide +kernel
theorem dX6_meet_21 : decode cX6_meet 21 = .ok (.iload 4, 2) := by decide +kernel
theorem dX6_meet_23 : decode cX6_meet 23 = .ok (.istore 8, 2) := by decide +kernel
theorem dX6_meet_25 : decode cX6_meet 25 = .ok (.iload 8, 2) := by decide +kernel
theorem dX6_meet_27 : decode cX6_meet 27 = .ok (.iload 5, 2) := by decide +kernel
theorem dX6_meet_29 : decode cX6_meet 29 = .ok (.if_icmp .ge 80, 3) := by decide +kernel
theorem dX6_meet_32 : decode cX6_meet 32 = .ok (.aload_n 0, 1) := by decide +kernel
theorem dX6_meet_33 : decode cX6_meet 33 = .ok (.iload_n 1, 1) := by decide +kernel
theorem dX6_meet_34 : decode cX6_meet 34 = .ok (.iload_n 2, 1) := by decide +kernel
theorem dX6_meet_35 : decode cX6_meet 35 = .ok (.iload_n 3, 1) := by decide +kernel
theorem dX6_meet_36 : decode cX6_meet 36 = .ok (.iload 8, 2) := by decide +kernel
theorem dX6_meet_38 : decode cX6_meet 38 = .ok (.invokevirtual 87, 3) := by decide +kernel
theorem dX6_meet_41 : decode cX6_meet 41 = .ok (.aload_n 0, 1) := by decide +kernel
theorem dX6_meet_42 : decode cX6_meet 42 = .ok (.iload 6, 2) := by decide +kernel
theorem dX6_meet_44 : decode cX6_meet 44 = .ok (.iload_n 2, 1) := by decide +kernel
theorem dX6_meet_45 : decode cX6_meet 45 = .ok (.iload_n 3, 1) := by decide +kernel
theorem dX6_meet_46 : decode cX6_meet 46 = .ok (.iload 7, 2) := by decide +kernel
theorem dX6_meet_48 : decode cX6_meet 48 = .ok (.invokevirtual 87, 3) := by decide +kernel
theorem dX6_meet_51 : decode cX6_meet 51 = .ok (.if_icmp .ne 52, 3) := by decide +kernel
theorem dX6_meet_54 : decode cX6_meet 54 = .ok (.aload_n 0, 1) := by decide +kernel
theorem dX6_meet_55 : decode cX6_meet 55 = .ok (.iload_n 1, 1) := by decide +kernel
theorem dX6_meet_56 : decode cX6_meet 56 = .ok (.iload_n 2, 1) := by decide +kernel
theorem dX6_meet_57 : decode cX6_meet 57 = .ok (.iload_n 3, 1) := by decide +kernel
theorem dX6_meet_58 : decode cX6_meet 58 = .ok (.iload 8, 2) := by decide +kernel
theorem dX6_meet_60 : decode cX6_meet 60 = .ok (.invokevirtual 83, 3) := by decide +kernel
theorem dX6_meet_63 : decode cX6_meet 63 = .ok (.istore 9, 2) := by decide +kernel
theorem dX6_meet_65 : decode cX6_meet 65 = .ok (.aload_n 0, 1) := by decide +kernel
theorem dX6_meet_66 : decode cX6_meet 66 = .ok (.iload 6, 2) := by decide +kernel
theorem dX6_meet_68 : decode cX6_meet 68 = .ok (.iload_n 2, 1) := by decide +kernel
theorem dX6_meet_69 : decode cX6_meet 69 = .ok (.iload_n 3, 1) := by decide +kernel
theorem dX6_meet_70 : decode cX6_meet 70 = .ok (.iload 7, 2) := by decide +kernel
theorem dX6_meet_72 : decode cX6_meet 72 = .ok (.invokevirtual 83, 3) := by decide +kernel
theorem dX6_meet_75 : decode cX6_meet 75 = .ok (.istore 10, 2) := by decide +kernel
theorem dX6_meet_77 : decode cX6_meet 77 = .ok (.aload_n 0, 1) := by decide +kernel
theorem dX6_meet_78 : decode cX6_meet 78 = .ok (.iload_n 1, 1) := by decide +kernel
theorem dX6_meet_79 : decode cX6_meet 79 = .ok (.ifCond .ne 8, 3) := by decide +kernel
theorem dX6_meet_82 : decode cX6_meet 82 = .ok (.iload 9, 2) := by decide +kernel
theorem dX6_meet_84 : decode cX6_meet 84 = .ok (.goto 5, 3) := by decide +kernel
theorem dX6_meet_87 : decode cX6_meet 87 = .ok (.iload 10, 2) := by decide +kernel
theorem dX6_meet_89 : decode cX6_meet 89 = .ok (.iload_n 1, 1) := by decide +kernel
theorem dX6_meet_90 : decode cX6_meet 90 = .ok (.ifCond .ne 8, 3) := by decide +kernel
theorem dX6_meet_93 : decode cX6_meet 93 = .ok (.iload 10, 2) := by decide +kernel
theorem dX6_meet_95 : decode cX6_meet 95 = .ok (.goto 5, 3) := by decide +kernel
theorem dX6_meet_98 : decode cX6_meet 98 = .ok (.iload 9, 2) := by decide +kernel
theorem dX6_meet_100 : decode cX6_meet 100 = .ok (.invokevirtual 96, 3) := by decide +kernel
theorem dX6_meet_103 : decode cX6_meet 103 = .ok (.iinc 8 1, 3) := by decide +kernel
theorem dX6_meet_106 : decode cX6_meet 106 = .ok (.goto (-81), 3) := by decide +kernel
theorem dX6_meet_109 : decode cX6_meet 109 = .ok (.iinc 7 1, 3) := by decide +kernel
theorem dX6_meet_112 : decode cX6_meet 112 = .ok (.goto (-104), 3) := by decide +kernel
theorem dX6_meet_115 : decode cX6_meet 115 = .ok (.return_, 1) := by decide +kernel
set_option maxRecDepth 20000 in
theorem ggX6_note_X6_sizeOf : GoodIn wsX6_note wsX6_sizeOf := goodIn_r _ [11, 12, 13, 14, 10, 15, 16, 17, 18, 19, 20, 21, 22, 23, 24, 25, 26, 27, 28, 29, 30, 31, 32, 33, 34, 35, 36, 37, 38, 39, 40] (by decide +kernel) (by decide +kernel)
set_option maxRecDepth 20000 in
theorem gX6_note_X6_sizeOf : GoodIn wsX6_note (wsV RX6 90 RX6 yX6_sizeOf wsX6_sizeOf) := goodIn_app (goodIn_of _ (by decide +kernel)) ggX6_note_X6_sizeOf
theorem dX6_note_0 : decode cX6_note 0 = .ok (.aload_n 0, 1) := by decide +kernel
theorem dX6_note_1 : decode cX6_note 1 = .ok (.getfield 100, 3) := by decide +kernel
theorem dX6_note_4 : decode cX6_note 4 = .ok (.sipush 300, 3) := by decide +kernel
theorem dX6_note_7 : decode cX6_note 7 = .ok (.if_icmp .ge 84, 3) := by decide +kernel
theorem dX6_note_10 : decode cX6_note 10 = .ok (.aload_n 0, 1) := by decide +kernel
theorem dX6_note_11 : decode cX6_note 11 = .ok (.getfield 59, 3) := by decide +kernel
theorem dX6_note_14 : decode cX6_note 14 = .ok (.iconst 5, 1) := by decide +kernel
theorem dX6_note_15 : decode cX6_note 15 = .ok (.aload_n 0, 1) := by decide +kernel
theorem dX6_note_16 : decode cX6_note 16 = .ok (.getfield 100, 3) := by decide +kernel
theorem dX6_note_19 : decode cX6_note 19 = .ok (.imul, 1) := by decide +kernel
theorem dX6_note_20 : decode cX6_note 20 = .ok (.iload_n 1, 1) := by decide +kernel
theorem dX6_note_21 : decode cX6_note 21 = .ok (.iastore, 1) := by decide +kernel
theorem dX6_note_22 : decode cX6_note 22 = .ok (.aload_n 0, 1) := by decide +kernel
theorem dX6_note_23 : decode cX6_note 23 = .ok (.getfield 59, 3) := by decide +kernel
theorem dX6_note_26 : decode cX6_note 26 = .ok (.iconst 5, 1) := by decide +kernel
theorem dX6_note_27 : decode cX6_note 27 = .ok (.aload_n 0, 1) := by decide +kernel
theorem dX6_note_28 : decode cX6_note 28 = .ok (.getfield 100, 3) := by decide +kernel
theorem dX6_note_31 : decode cX6_note 31 = .ok (.imul, 1) := by decide +kernel
theorem dX6_note_32 : decode cX6_note 32 = .ok (.iconst 1, 1) := by decide +kernel
theorem dX6_note_33 : decode cX6_note 33 = .ok (.iadd, 1) := by decide +kernel
theorem dX6_note_34 : decode cX6_note 34 = .ok (.iload_n 2, 1) := by decide +kernel
theorem dX6_note_35 : decode cX6_note 35 = .ok (.iastore, 1) := by decide +kernel
theorem dX6_note_36 : decode cX6_note 36 = .ok (.aload_n 0, 1) := by decide +kernel
theorem dX6_note_37 : decode cX6_note 37 = .ok (.getfield 59, 3) := by decide +kernel
theorem dX6_note_40 : decode cX6_note 40 = .ok (.iconst 5, 1) := by decide +kernel
theorem dX6_note_41 : decode cX6_note 41 = .ok (.aload_n 0, 1) := by decide +kernel
theorem dX6_note_42 : decode cX6_note 42 = .ok (.getfield 100, 3) := by decide +kernel
theorem dX6_note_45 : decode cX6_note 45 = .ok (.imul, 1) := by decide +kernel
theorem dX6_note_46 : decode cX6_note 46 = .ok (.iconst 2, 1) := by decide +kernel
theorem dX6_note_47 : decode cX6_note 47 = .ok (.iadd, 1) := by decide +kernel
theorem dX6_note_48 : decode cX6_note 48 = .ok (.aload_n 0, 1) := by decide +kernel
theorem dX6_note_49 : decode cX6_note 49 = .ok (.iconst 0, 1) := by decide +kernel
theorem dX6_note_50 : decode cX6_note 50 = .ok (.iload_n 2, 1) := by decide +kernel
theorem dX6_note_51 : decode cX6_note 51 = .ok (.iload_n 3, 1) := by decide +kernel
theorem dX6_note_52 : decode cX6_note 52 = .ok (.invokevirtual 90, 3) := by decide +kernel
theorem dX6_note_55 : decode cX6_note 55 = .ok (.iastore, 1) := by decide +kernel
theorem dX6_note_56 : decode cX6_note 56 = .ok (.aload_n 0, 1) := by decide +kernel
theorem dX6_note_57 : decode cX6_note 57 = .ok (.getfield 59, 3) := by decide +kernel
theorem dX6_note_60 : decode cX6_note 60 = .ok (.iconst 5, 1) := by decide +kernel
theorem dX6_note_61 : decode cX6_note 61 = .ok (.aload_n 0, 1) := by decide +kernel
theorem dX6_note_62 : decode cX6_note 62 = .ok (.getfield 100, 3) := by decide +kernel
theorem dX6_note_65 : decode cX6_note 65 = .ok (.imul, 1) := by decide +kernel
theorem dX6_note_66 : decode cX6_note 66 = .ok (.iconst 3, 1) := by decide +kernel
theorem dX6_note_67 : decode cX6_note 67 = .ok (.iadd, 1) := by decide +kernel
theorem dX6_note_68 : decode cX6_note 68 = .ok (.aload_n 0, 1) := by decide +kernel
theorem dX6_note_69 : decode cX6_note 69 = .ok (.iconst 1, 1) := by decide +kernel
theorem dX6_note_70 : decode cX6_note 70 = .ok (.iload_n 2, 1) := by decide +kernel
theorem dX6_note_71 : decode cX6_note 71 = .ok (.iload_n 3, 1) := by decide +kernel
theorem dX6_note_72 : decode cX6_note 72 = .ok (.invokevirtual 90, 3) := by decide +kernel
theorem dX6_note_75 : decode cX6_note 75 = .ok (.iastore, 1) := by decide +kernel
theorem dX6_note_76 : decode cX6_note 76 = .ok (.aload_n 0, 1) := by decide +kernel
theorem dX6_note_77 : decode cX6_note 77 = .ok (.getfield 59, 3) := by decide +kernel
theorem dX6_note_80 : decode cX6_note 80 = .ok (.iconst 5, 1) := by decide +kernel
theorem dX6_note_81 : decode cX6_note 81 = .ok (.aload_n 0, 1) := by decide +kernel
theorem dX6_note_82 : decode cX6_note 82 = .ok (.getfield 100, 3) := by decide +kernel
theorem dX6_note_85 : decode cX6_note 85 = .ok (.imul, 1) := by decide +kernel
theorem dX6_note_86 : decode cX6_note 86 = .ok (.iconst 4, 1) := by decide +kernel
theorem dX6_note_87 : decode cX6_note 87 = .ok (.iadd, 1) := by decide +kernel
theorem dX6_note_88 : decode cX6_note 88 = .ok (.iload 4, 2) := by decide +kernel
theorem dX6_note_90 : decode cX6_note 90 = .ok (.iastore, 1) := by decide +kernel
theorem dX6_note_91 : decode cX6_note 91 = .ok (.aload_n 0, 1) := by decide +kernel
theorem dX6_note_92 : decode cX6_note 92 = .ok (.dup, 1) := by decide +kernel
theorem dX6_note_93 : decode cX6_note 93 = .ok (.getfield 100, 3) := by decide +kernel
theorem dX6_note_96 : decode cX6_note 96 = .ok (.iconst 1, 1) := by decide +kernel
theorem dX6_note_97 : decode cX6_note 97 = .ok (.iadd, 1) := by decide +kernel
theorem dX6_note_98 : decode cX6_note 98 = .ok (.putfield 100, 3) := by decide +kernel
theorem dX6_note_101 : decode cX6_note 101 = .ok (.aload_n 0, 1) := by decide +kernel
theorem dX6_note_102 : decode cX6_note 102 = .ok (.getfield 56, 3) := by decide +kernel
theorem dX6_note_105 : decode cX6_note 105 = .ok (.iload_n 1, 1) := by decide +kernel
theorem dX6_note_106 : decode cX6_note 106 = .ok (.dup2, 1) := by decide +kernel
theorem dX6_note_107 : decode cX6_note 107 = .ok (.iaload, 1) := by decide +kernel
theorem dX6_note_108 : decode cX6_note 108 = .ok (.iconst 1, 1) := by decide +kernel
theorem dX6_note_109 : decode cX6_note 109 = .ok (.iadd, 1) := by decide +kernel
theorem dX6_note_110 : decode cX6_note 110 = .ok (.iastore, 1) := by decide +kernel
theorem dX6_note_111 : decode cX6_note 111 = .ok (.aload_n 0, 1) := by decide +kernel
theorem dX6_note_112 : decode cX6_note 112 = .ok (.aload_n 0, 1) := by decide +kernel
theorem dX6_note_113 : decode cX6_note 113 = .ok (.getfield 103, 3) := by decide +kernel
theorem dX6_note_116 : decode cX6_note 116 = .ok (.iload 4, 2) := by decide +kernel
theorem dX6_note_118 : decode cX6_note 118 = .ok (.iadd, 1) := by decide +kernel
theorem dX6_note_119 : decode cX6_note 119 = .ok (.putfield 103, 3) := by decide +kernel
theorem dX6_note_122 : decode cX6_note 122 = .ok (.aload_n 0, 1) := by decide +kernel
theorem dX6_note_123 : decode cX6_note 123 = .ok (.iload 5, 2) := by decide +kernel
theorem dX6_note_125 : decode cX6_note 125 = .ok (.aload_n 0, 1) := by decide +kernel
theorem dX6_note_126 : decode cX6_note 126 = .ok (.getfield 106, 3) := by decide +kernel
theorem dX6_note_129 : decode cX6_note 129 = .ok (.if_icmp .le 8, 3) := by decide +kernel
theorem dX6_note_132 : decode cX6_note 132 = .ok (.iload 5, 2) := by decide +kernel
theorem dX6_note_134 : decode cX6_note 134 = .ok (.goto 7, 3) := by decide +kernel
theorem dX6_note_137 : decode cX6_note 137 = .ok (.aload_n 0, 1) := by decide +kernel
theorem dX6_note_138 : decode cX6_note 138 = .ok (.getfield 106, 3) := by decide +kernel
theorem dX6_note_141 : decode cX6_note 141 = .ok (.putfield 106, 3) := by decide +kernel
theorem dX6_note_144 : decode cX6_note 144 = .ok (.aload_n 0, 1) := by decide +kernel
theorem dX6_note_145 : decode cX6_note 145 = .ok (.iload_n 2, 1) := by decide +kernel
theorem dX6_note_146 : decode cX6_note 146 = .ok (.aload_n 0, 1) := by decide +kernel
theorem dX6_note_147 : decode cX6_note 147 = .ok (.getfield 53, 3) := by decide +kernel
theorem dX6_note_150 : decode cX6_note 150 = .ok (.if_icmp .le 7, 3) := by decide +kernel
theorem dX6_note_153 : decode cX6_note 153 = .ok (.iload_n 2, 1) := by decide +kernel
theorem dX6_note_154 : decode cX6_note 154 = .ok (.goto 7, 3) := by decide +kernel
theorem dX6_note_157 : decode cX6_note 157 = .ok (.aload_n 0, 1) := by decide +kernel
theorem dX6_note_158 : decode cX6_note 158 = .ok (.getfield 53, 3) := by decide +kernel
theorem dX6_note_161 : decode cX6_note 161 = .ok (.putfield 53, 3) := by decide +kernel
theorem dX6_note_164 : decode cX6_note 164 = .ok (.return_, 1) := by decide +kernel
set_option maxRecDepth 20000 in
theorem ggX6_divide_X6_sizeOf : GoodIn wsX6_divide wsX6_sizeOf := goodIn_r _ [12, 13, 14, 15, 11, 16, 2, 43, 44, 45, 46, 47, 48, 49, 50, 51, 52, 53, 54, 55, 56, 57, 58, 59, 60, 61, 62, 63, 64, 65, 66] (by decide +kernel) (by decide +kernel)
set_option maxRecDepth 20000 in
theorem gX6_divide_X6_sizeOf : GoodIn wsX6_divide (wsV RX6 90 RX6 yX6_sizeOf wsX6_sizeOf) := goodIn_app (goodIn_of _ (by decide +kernel)) ggX6_divide_X6_sizeOf
set_option maxRecDepth 20000 in
theorem ggX6_divide_X6_keyAt : GoodIn wsX6_divide wsX6_keyAt := goodIn_r _ [20, 21, 22, 23, 24, 11, 25, 3, 13, 14, 15, 16, 2, 43, 44, 45, 46, 47, 48, 49, 50, 51, 52, 53, 54, 55, 56, 57, 58, 59, 60, 61, 62, 63, 64, 65, 66] (by decide +kernel) (by decide +kernel)
set_option maxRecDepth 20000 in
theorem gX6_divide_X6_keyAt : GoodIn wsX6_divide (wsV RX6 87 RX6 yX6_keyAt wsX6_keyAt) := goodIn_app (goodIn_of _ (by decide +kernel)) ggX6_divide_X6_keyAt
set_option maxRecDepth 20000 in
theorem ggX6_divide_X6_partOf : GoodIn wsX6_divide wsX6_partOf := goodIn_r _ [29, 30, 31, 32, 33, 1, 43, 44, 45, 46, 47, 48, 49, 50, 51, 52, 53, 54, 55, 56, 57, 58, 59, 60, 61, 62, 63, 64, 65, 66] (by decide +kernel) (by decide +kernel)
set_option maxRecDepth 20000 in
theorem gX6_divide_X6_partOf : GoodIn wsX6_divide (wsV RX6 75 RX6 yX6_partOf wsX6_partOf) := goodIn_app (goodIn_of _ (by decide +kernel)) ggX6_divide_X6_partOf
set_option maxRecDepth 20000 in
theorem ggX6_divide_X6_rowAt : GoodIn wsX6_divide wsX6_rowAt := goodIn_r _ [25, 3, 13, 14, 15, 11, 16, 2, 43, 44, 45, 46, 47, 48, 49, 50, 51, 52, 53, 54, 55, 56, 57, 58, 59, 60, 61, 62, 63, 64, 65, 66] (by decide +kernel) (by decide +kernel)
set_option maxRecDepth 20000 in
theorem gX6_divide_X6_rowAt : GoodIn wsX6_divide (wsV RX6 83 RX6 yX6_rowAt wsX6_rowAt) := goodIn_app (goodIn_of _ (by decide +kernel)) ggX6_divide_X6_rowAt
set_option maxRecDepth 20000 in
theorem ggX6_divide_X6_pagesAt : GoodIn wsX6_divide wsX6_pagesAt := goodIn_r _ [37, 8, 9, 10, 11, 12, 13, 14, 15, 16, 2, 38, 39, 40, 41, 42, 43, 44, 45, 46, 47, 48, 49, 50, 51, 52, 53, 54, 55, 56, 57, 58, 59, 60, 61, 62, 63, 64, 65, 66] (by decide +kernel) (by decide +kernel)
set_option maxRecDepth 20000 in
theorem gX6_divide_X6_pagesAt : GoodIn wsX6_divide (wsV RX6 112 RX6 yX6_pagesAt wsX6_pagesAt) := goodIn_app (goodIn_of _ (by decide +kernel)) ggX6_divide_X6_pagesAt
theorem dX6_divide_0 : decode cX6_divide 0 = .ok (.aload_n 0, 1) := by decide +kernel
theorem dX6_divide_1 : decode cX6_divide 1 = .ok (.getfield 23, 3) := by decide +kernel
theorem dX6_divide_4 : decode cX6_divide 4 = .ok (.iconst 1, 1) := by decide +kernel
theorem dX6_divide_5 : decode cX6_divide 5 = .ok (.isub, 1) := by decide +kernel
theorem dX6_divide_6 : decode cX6_divide 6 = .ok (.istore_n 3, 1) := by decide +kernel
theorem dX6_divide_7 : decode cX6_divide 7 = .ok (.iconst 0, 1) := by decide +kernel
theorem dX6_divide_8 : decode cX6_divide 8 = .ok (.istore 4, 2) := by decide +kernel
theorem dX6_divide_10 : decode cX6_divide 10 = .ok (.iload 4, 2) := by decide +kernel
theorem dX6_divide_12 : decode cX6_divide 12 = .ok (.iconst 2, 1) := by decide +kernel
theorem dX6_divide_13 : decode cX6_divide 13 = .ok (.if_icmp .ge 147, 3) := by decide +kernel
theorem dX6_divide_16 : decode cX6_divide 16 = .ok (.iconst 0, 1) := by decide +kernel
theorem dX6_divide_17 : decode cX6_divide 17 = .ok (.istore 5, 2) := by decide +kernel
theorem dX6_divide_19 : decode cX6_divide 19 = .ok (.iconst 0, 1) := by decide +kernel
theorem dX6_divide_20 : decode cX6_divide 20 = .ok (.istore 6, 2) := by decide +kernel
theorem dX6_divide_22 : decode cX6_divide 22 = .ok (.iload 6, 2) := by decide +kernel
theorem dX6_divide_24 : decode cX6_divide 24 = .ok (.iload_n 3, 1) := by decide +kernel
theorem dX6_divide_25 : decode cX6_divide 25 = .ok (.if_icmp .ge 108, 3) := by decide +kernel
theorem dX6_divide_28 : decode cX6_divide 28 = .ok (.aload_n 0, 1) := by decide +kernel
theorem dX6_divide_29 : decode cX6_divide 29 = .ok (.getfield 32, 3) := by decide +kernel
theorem dX6_divide_32 : decode cX6_divide 32 = .ok (.bipush 42, 2) := by decide +kernel
theorem dX6_divide_34 : decode cX6_divide 34 = .ok (.iload_n 1, 1) := by decide +kernel
theorem dX6_divide_35 : decode cX6_divide 35 = .ok (.iconst 1, 1) := by decide +kernel
theorem dX6_divide_36 : decode cX6_divide 36 = .ok (.iadd, 1) := by decide +kernel
theorem dX6_divide_37 : decode cX6_divide 37 = .ok (.imul, 1) := by decide +kernel
theorem dX6_divide_38 : decode cX6_divide 38 = .ok (.bipush 21, 2) := by decide +kernel
theorem dX6_divide_40 : decode cX6_divide 40 = .ok (.iload 4, 2) := by decide +kernel
theorem dX6_divide_42 : decode cX6_divide 42 = .ok (.imul, 1) := by decide +kernel
theorem dX6_divide_43 : decode cX6_divide 43 = .ok (.iadd, 1) := by decide +kernel
theorem dX6_divide_44 : decode cX6_divide 44 = .ok (.iload 6, 2) := by decide +kernel
theorem dX6_divide_46 : decode cX6_divide 46 = .ok (.iadd, 1) := by decide +kernel
theorem dX6_divide_47 : decode cX6_divide 47 = .ok (.iload 5, 2) := by decide +kernel
theorem dX6_divide_49 : decode cX6_divide 49 = .ok (.iastore, 1) := by decide +kernel
theorem dX6_divide_50 : decode cX6_divide 50 = .ok (.iconst 0, 1) := by decide +kernel
theorem dX6_divide_51 : decode cX6_divide 51 = .ok (.istore 7, 2) := by decide +kernel
theorem dX6_divide_53 : decode cX6_divide 53 = .ok (.iload 7, 2) := by decide +kernel
theorem dX6_divide_55 : decode cX6_divide 55 = .ok (.aload_n 0, 1) := by decide +kernel
theorem dX6_divide_56 : decode cX6_divide 56 = .ok (.iload 4, 2) := by decide +kernel
theorem dX6_divide_58 : decode cX6_divide 58 = .ok (.iload_n 1, 1) := by decide +kernel
theorem dX6_divide_59 : decode cX6_divide 59 = .ok (.iload_n 2, 1) := by decide +kernel
theorem dX6_divide_60 : decode cX6_divide 60 = .ok (.invokevirtual 90, 3) := by decide +kernel
theorem dX6_divide_63 : decode cX6_divide 63 = .ok (.if_icmp .ge 64, 3) := by decide +kernel
theorem dX6_divide_66 : decode cX6_divide 66 = .ok (.aload_n 0, 1) := by decide +kernel
theorem dX6_divide_67 : decode cX6_divide 67 = .ok (.aload_n 0, 1) := by decide +kernel
theorem dX6_divide_68 : decode cX6_divide 68 = .ok (.iload 4, 2) := by decide +kernel
theorem dX6_divide_70 : decode cX6_divide 70 = .ok (.iload_n 1, 1) := by decide +kernel
theorem dX6_divide_71 : decode cX6_divide 71 = .ok (.iload_n 2, 1) := by decide +kernel
theorem dX6_divide_72 : decode cX6_divide 72 = .ok (.iload 7, 2) := by decide +kernel
theorem dX6_divide_74 : decode cX6_divide 74 = .ok (.invokevirtual 87, 3) := by decide +kernel
theorem dX6_divide_77 : decode cX6_divide 77 = .ok (.iload_n 1, 1) := by decide +kernel
theorem dX6_divide_78 : decode cX6_divide 78 = .ok (.invokevirtual 75, 3) := by decide +kernel
theorem dX6_divide_81 : decode cX6_divide 81 = .ok (.iload 6, 2) := by decide +kernel
theorem dX6_divide_83 : decode cX6_divide 83 = .ok (.if_icmp .ne 38, 3) := by decide +kernel
theorem dX6_divide_86 : decode cX6_divide 86 = .ok (.aload_n 0, 1) := by decide +kernel
theorem dX6_divide_87 : decode cX6_divide 87 = .ok (.getfield 29, 3) := by decide +kernel
theorem dX6_divide_90 : decode cX6_divide 90 = .ok (.sipush 1000, 3) := by decide +kernel
theorem dX6_divide_93 : decode cX6_divide 93 = .ok (.iload_n 1, 1) := by decide +kernel
theorem dX6_divide_94 : decode cX6_divide 94 = .ok (.iconst 1, 1) := by decide +kernel
theorem dX6_divide_95 : decode cX6_divide 95 = .ok (.iadd, 1) := by decide +kernel
theorem dX6_divide_96 : decode cX6_divide 96 = .ok (.imul, 1) := by decide +kernel
theorem dX6_divide_97 : decode cX6_divide 97 = .ok (.sipush 500, 3) := by decide +kernel
theorem dX6_divide_100 : decode cX6_divide 100 = .ok (.iload 4, 2) := by decide +kernel
theorem dX6_divide_102 : decode cX6_divide 102 = .ok (.imul, 1) := by decide +kernel
theorem dX6_divide_103 : decode cX6_divide 103 = .ok (.iadd, 1) := by decide +kernel
theorem dX6_divide_104 : decode cX6_divide 104 = .ok (.iload 5, 2) := by decide +kernel
theorem dX6_divide_106 : decode cX6_divide 106 = .ok (.iadd, 1) := by decide +kernel
theorem dX6_divide_107 : decode cX6_divide 107 = .ok (.aload_n 0, 1) := by decide +kernel
theorem dX6_divide_108 : decode cX6_divide 108 = .ok (.iload 4, 2) := by decide +kernel
theorem dX6_divide_110 : decode cX6_divide 110 = .ok (.iload_n 1, 1) := by decide +kernel
theorem dX6_divide_111 : decode cX6_divide 111 = .ok (.iload_n 2, 1) := by decide +kernel
theorem dX6_divide_112 : decode cX6_divide 112 = .ok (.iload 7, 2) := by decide +kernel
theorem dX6_divide_114 : decode cX6_divide 114 = .ok (.invokevirtual 83, 3) := by decide +kernel
theorem dX6_divide_117 : decode cX6_divide 117 = .ok (.iastore, 1) := by decide +kernel
theorem dX6_divide_118 : decode cX6_divide 118 = .ok (.iinc 5 1, 3) := by decide +kernel
theorem dX6_divide_121 : decode cX6_divide 121 = .ok (.iinc 7 1, 3) := by decide +kernel
theorem dX6_divide_124 : decode cX6_divide 124 = .ok (.goto (-71), 3) := by decide +kernel
theorem dX6_divide_127 : decode cX6_divide 127 = .ok (.iinc 6 1, 3) := by decide +kernel
theorem dX6_divide_130 : decode cX6_divide 130 = .ok (.goto (-108), 3) := by decide +kernel
theorem dX6_divide_133 : decode cX6_divide 133 = .ok (.aload_n 0, 1) := by decide +kernel
theorem dX6_divide_134 : decode cX6_divide 134 = .ok (.getfield 32, 3) := by decide +kernel
theorem dX6_divide_137 : decode cX6_divide 137 = .ok (.bipush 42, 2) := by decide +kernel
theorem dX6_divide_139 : decode cX6_divide 139 = .ok (.iload_n 1, 1) := by decide +kernel
theorem dX6_divide_140 : decode cX6_divide 140 = .ok (.iconst 1, 1) := by decide +kernel
theorem dX6_divide_141 : decode cX6_divide 141 = .ok (.iadd, 1) := by decide +kernel
theorem dX6_divide_142 : decode cX6_divide 142 = .ok (.imul, 1) := by decide +kernel
theorem dX6_divide_143 : decode cX6_divide 143 = .ok (.bipush 21, 2) := by decide +kernel
theorem dX6_divide_145 : decode cX6_divide 145 = .ok (.iload 4, 2) := by decide +kernel
theorem dX6_divide_147 : decode cX6_divide 147 = .ok (.imul, 1) := by decide +kernel
theorem dX6_divide_148 : decode cX6_divide 148 = .ok (.iadd, 1) := by decide +kernel
theorem dX6_divide_149 : decode cX6_divide 149 = .ok (.iload_n 3, 1) := by decide +kernel
theorem dX6_divide_150 : decode cX6_divide 150 = .ok (.iadd, 1) := by decide +kernel
theorem dX6_divide_151 : decode cX6_divide 151 = .ok (.iload 5, 2) := by decide +kernel
theorem dX6_divide_153 : decode cX6_divide 153 = .ok (.iastore, 1) := by decide +kernel
theorem dX6_divide_154 : decode cX6_divide 154 = .ok (.iinc 4 1, 3) := by decide +kernel
theorem dX6_divide_157 : decode cX6_divide 157 = .ok (.goto (-147), 3) := by decide +kernel
theorem dX6_divide_160 : decode cX6_divide 160 = .ok (.iconst 0, 1) := by decide +kernel
theorem dX6_divide_161 : decode cX6_divide 161 = .ok (.istore 4, 2) := by decide +kernel
theorem dX6_divide_163 : decode cX6_divide 163 = .ok (.iload 4, 2) := by decide +kernel
theorem dX6_divide_165 : decode cX6_divide 165 = .ok (.iload_n 3, 1) := by decide +kernel
theorem dX6_divide_166 : decode cX6_divide 166 = .ok (.if_icmp .ge 45, 3) := by decide +kernel
theorem dX6_divide_169 : decode cX6_divide 169 = .ok (.aload_n 0, 1) := by decide +kernel
theorem dX6_divide_170 : decode cX6_divide 170 = .ok (.aload_n 0, 1) := by decide +kernel
theorem dX6_divide_171 : decode cX6_divide 171 = .ok (.getfield 109, 3) := by decide +kernel
theorem dX6_divide_174 : decode cX6_divide 174 = .ok (.aload_n 0, 1) := by decide +kernel
theorem dX6_divide_175 : decode cX6_divide 175 = .ok (.iload_n 1, 1) := by decide +kernel
theorem dX6_divide_176 : decode cX6_divide 176 = .ok (.iconst 1, 1) := by decide +kernel
theorem dX6_divide_177 : decode cX6_divide 177 = .ok (.iadd, 1) := by decide +kernel
theorem dX6_divide_178 : decode cX6_divide 178 = .ok (.iload 4, 2) := by decide +kernel
theorem dX6_divide_180 : decode cX6_divide 180 = .ok (.invokevirtual 112, 3) := by decide +kernel
theorem dX6_divide_183 : decode cX6_divide 183 = .ok (.iadd, 1) := by decide +kernel
theorem dX6_divide_184 : decode cX6_divide 184 = .ok (.putfield 109, 3) := by decide +kernel
theorem dX6_divide_187 : decode cX6_divide 187 = .ok (.aload_n 0, 1) := by decide +kernel
theorem dX6_divide_188 : decode cX6_divide 188 = .ok (.aload_n 0, 1) := by decide +kernel
theorem dX6_divide_189 : decode cX6_divide 189 = .ok (.getfield 115, 3) := by decide +kernel
theorem dX6_divide_192 : decode cX6_divide 192 = .ok (.aload_n 0, 1) := by decide +kernel
theorem dX6_divide_193 : decode cX6_divide 193 = .ok (.iload_n 1, 1) := by decide +kernel
theorem dX6_divide_194 : decode cX6_divide 194 = .ok (.iconst 1, 1) := by decide +kernel
theorem dX6_divide_195 : decode cX6_divide 195 = .ok (.iadd, 1) := by decide +kernel
theorem dX6_divide_196 : decode cX6_divide 196 = .ok (.iload 4, 2) := by decide +kernel
theorem dX6_divide_198 : decode cX6_divide 198 = .ok (.invokevirtual 112, 3) := by decide +kernel
theorem dX6_divide_201 : decode cX6_divide 201 = .ok (.iadd, 1) := by decide +kernel
theorem dX6_divide_202 : decode cX6_divide 202 = .ok (.putfield 115, 3) := by decide +kernel
theorem dX6_divide_205 : decode cX6_divide 205 = .ok (.iinc 4 1, 3) := by decide +kernel
theorem dX6_divide_208 : decode cX6_divide 208 = .ok (.goto (-45), 3) := by decide +kernel
theorem dX6_divide_211 : decode cX6_divide 211 = .ok (.aload_n 0, 1) := by decide +kernel
theorem dX6_divide_212 : decode cX6_divide 212 = .ok (.aload_n 0, 1) := by decide +kernel
theorem dX6_divide_213 : decode cX6_divide 213 = .ok (.getfield 115, 3) := by decide +kernel
theorem dX6_divide_216 : decode cX6_divide 216 = .ok (.aload_n 0, 1) := by decide +kernel
theorem dX6_divide_217 : decode cX6_divide 217 = .ok (.getfield 118, 3) := by decide +kernel
theorem dX6_divide_220 : decode cX6_divide 220 = .ok (.if_icmp .le 10, 3) := by decide +kernel
theorem dX6_divide_223 : decode cX6_divide 223 = .ok (.aload_n 0, 1) := by decide +kernel
theorem dX6_divide_224 : decode cX6_divide 224 = .ok (.getfield 115, 3) := by decide +kernel
theorem dX6_divide_227 : decode cX6_divide 227 = .ok (.goto 7, 3) := by decide +kernel
theorem dX6_divide_230 : decode cX6_divide 230 = .ok (.aload_n 0, 1) := by decide +kernel
theorem dX6_divide_231 : decode cX6_divide 231 = .ok (.getfield 118, 3) := by decide +kernel
theorem dX6_divide_234 : decode cX6_divide 234 = .ok (.putfield 118, 3) := by decide +kernel
theorem dX6_divide_237 : decode cX6_divide 237 = .ok (.aload_n 0, 1) := by decide +kernel
theorem dX6_divide_238 : decode cX6_divide 238 = .ok (.getfield 35, 3) := by decide +kernel
theorem dX6_divide_241 : decode cX6_divide 241 = .ok (.iload_n 1, 1) := by decide +kernel
theorem dX6_divide_242 : decode cX6_divide 242 = .ok (.iconst 1, 1) := by decide +kernel
theorem dX6_divide_243 : decode cX6_divide 243 = .ok (.iadd, 1) := by decide +kernel
theorem dX6_divide_244 : decode cX6_divide 244 = .ok (.iconst 0, 1) := by decide +kernel
theorem dX6_divide_245 : decode cX6_divide 245 = .ok (.iastore, 1) := by decide +kernel
theorem dX6_divide_246 : decode cX6_divide 246 = .ok (.return_, 1) := by decide +kernel
set_option maxRecDepth 20000 in
theorem ggX6_pagesAt_X6_sizeOf : GoodIn wsX6_pagesAt wsX6_sizeOf := goodIn_r _ [5, 6, 7, 8, 4, 9, 10, 16, 17, 18, 19, 20, 21, 22, 23, 24, 25, 26, 27, 28, 29, 30, 31, 32, 33, 34, 35, 36, 37, 38, 39] (by decide +kernel) (by decide +kernel)
set_option maxRecDepth 20000 in
theorem gX6_pagesAt_X6_sizeOf : GoodIn wsX6_pagesAt (wsV RX6 90 RX6 yX6_sizeOf wsX6_sizeOf) := goodIn_app (goodIn_of _ (by decide +kernel)) ggX6_pagesAt_X6_sizeOf
set_option maxRecDepth 20000 in
theorem ggX6_pagesAt_X6_pagesOf : GoodIn wsX6_pagesAt wsX6_pagesOf := goodIn_r _ [14, 15, 16, 17, 18, 19, 20, 21, 22, 23, 24, 25, 26, 27, 28, 29, 30, 31, 32, 33, 34, 35, 36, 37, 38, 39] (by decide +kernel) (by decide +kernel)
set_option maxRecDepth 20000 in
theorem gX6_pagesAt_X6_pagesOf : GoodIn wsX6_pagesAt (wsV RX6 66 RX6 yX6_pagesOf wsX6_pagesOf) := goodIn_app (goodIn_of _ (by decide +kernel)) ggX6_pagesAt_X6_pagesOf
theorem dX6_pagesAt_0 : decode cX6_pagesAt 0 = .ok (.aload_n 0, 1) := by decide +kernel
theorem dX6_pagesAt_1 : decode cX6_pagesAt 1 = .ok (.aload_n 0, 1) := by decide +kernel
theorem dX6_pagesAt_2 : decode cX6_pagesAt 2 = .ok (.iconst 0, 1) := by decide +kernel
theorem dX6_pagesAt_3 : decode cX6_pagesAt 3 = .ok (.iload_n 1, 1) := by decide +kernel
theorem dX6_pagesAt_4 : decode cX6_pagesAt 4 = .ok (.iload_n 2, 1) := by decide +kernel
theorem dX6_pagesAt_5 : decode cX6_pagesAt 5 = .ok (.invokevirtual 90, 3) := by decide +kernel
theorem dX6_pagesAt_8 : decode cX6_pagesAt 8 = .ok (.invokevirtual 66, 3) := by decide +kernel
theorem dX6_pagesAt_11 : decode cX6_pagesAt 11 = .ok (.aload_n 0, 1) := by decide +kernel
theorem dX6_pagesAt_12 : decode cX6_pagesAt 12 = .ok (.aload_n 0, 1) := by decide +kernel
theorem dX6_pagesAt_13 : decode cX6_pagesAt 13 = .ok (.iconst 1, 1) := by decide +kernel
theorem dX6_pagesAt_14 : decode cX6_pagesAt 14 = .ok (.iload_n 1, 1) := by decide +kernel
theorem dX6_pagesAt_15 : decode cX6_pagesAt 15 = .ok (.iload_n 2, 1) := by decide +kernel
theorem dX6_pagesAt_16 : decode cX6_pagesAt 16 = .ok (.invokevirtual 90, 3) := by decide +kernel
theorem dX6_pagesAt_19 : decode cX6_pagesAt 19 = .ok (.invokevirtual 66, 3) := by decide +kernel
theorem dX6_pagesAt_22 : decode cX6_pagesAt 22 = .ok (.iadd, 1) := by decide +kernel
theorem dX6_pagesAt_23 : decode cX6_pagesAt 23 = .ok (.ireturn, 1) := by decide +kernel
set_option maxRecDepth 20000 in
theorem ggX6_joinSet_X6_sizeOf : GoodIn wsX6_joinSet wsX6_sizeOf := goodIn_r _ [8, 9, 10, 11, 7, 12, 13, 77, 78, 79, 80, 81, 82, 83, 84, 85, 86, 87, 88, 89, 90, 91, 92, 93, 94, 95, 96, 97, 98, 99, 100] (by decide +kernel) (by decide +kernel)
set_option maxRecDepth 20000 in
theorem gX6_joinSet_X6_sizeOf : GoodIn wsX6_joinSet (wsV RX6 90 RX6 yX6_sizeOf wsX6_sizeOf) := goodIn_app (goodIn_of _ (by decide +kernel)) ggX6_joinSet_X6_sizeOf
set_option maxRecDepth 20000 in
theorem ggX6_joinSet_X6_note : GoodIn wsX6_joinSet wsX6_note := goodIn_r _ [17, 18, 19, 20, 21, 22, 23, 4, 5, 6, 7, 8, 9, 10, 11, 12, 13, 77, 78, 79, 80, 81, 82, 83, 84, 85, 86, 87, 88, 89, 90, 91, 92, 93, 94, 95, 96, 97, 98, 99, 100] (by decide +kernel) (by decide +kernel)
set_option maxRecDepth 20000 in
theorem gX6_joinSet_X6_note : GoodIn wsX6_joinSet (wsV RX6 121 RX6 yX6_note wsX6_note) := goodIn_app (goodIn_of _ (by decide +kernel)) ggX6_joinSet_X6_note
set_option maxRecDepth 20000 in
theorem ggX6_joinSet_X6_pagesOf : GoodIn wsX6_joinSet wsX6_pagesOf := goodIn_r _ [27, 3, 77, 78, 79, 80, 81, 82, 83, 84, 85, 86, 87, 88, 89, 90, 91, 92, 93, 94, 95, 96, 97, 98, 99, 100] (by decide +kernel) (by decide +kernel)
set_option maxRecDepth 20000 in
theorem gX6_joinSet_X6_pagesOf : GoodIn wsX6_joinSet (wsV RX6 66 RX6 yX6_pagesOf wsX6_pagesOf) := goodIn_app (goodIn_of _ (by decide +kernel)) ggX6_joinSet_X6_pagesOf
set_option maxRecDepth 20000 in
theorem ggX6_joinSet_X6_meet : GoodIn wsX6_joinSet wsX6_meet := goodIn_r _ [31, 4, 5, 6, 7, 8, 9, 10, 11, 12, 13, 32, 33, 34, 35, 36, 37, 38, 39, 40, 41, 42, 43, 44, 45, 46, 47, 48, 49, 50, 51, 52, 77, 78, 79, 80, 81, 82, 83, 84, 85, 86, 87, 88, 89, 90, 91, 92, 93, 94, 95, 96, 97, 98, 99, 100] (by decide +kernel) (by decide +kernel)
set_option maxRecDepth 20000 in
theorem gX6_joinSet_X6_meet : GoodIn wsX6_joinSet (wsV RX6 125 RX6 yX6_meet wsX6_meet) := goodIn_app (goodIn_of _ (by decide +kernel)) ggX6_joinSet_X6_meet
set_option maxRecDepth 20000 in
theorem ggX6_joinSet_X6_isOneKey : GoodIn wsX6_joinSet wsX6_isOneKey := goodIn_r _ [56, 32, 33, 34, 7, 35, 36, 37, 38, 39, 40, 41, 9, 10, 11, 12, 13, 4, 5, 6, 8, 77, 78, 79, 80, 81, 82, 83, 84, 85, 86, 87, 88, 89, 90, 91, 92, 93, 94, 95, 96, 97, 98, 99, 100] (by decide +kernel) (by decide +kernel)
set_option maxRecDepth 20000 in
theorem gX6_joinSet_X6_isOneKey : GoodIn wsX6_joinSet (wsV RX6 128 RX6 yX6_isOneKey wsX6_isOneKey) := goodIn_app (goodIn_of _ (by decide +kernel)) ggX6_joinSet_X6_isOneKey
set_option maxRecDepth 20000 in
theorem ggX6_joinSet_X6_divide : GoodIn wsX6_joinSet wsX6_divide := goodIn_r _ [60, 1, 13, 41, 61, 62, 63, 64, 4, 5, 6, 7, 8, 9, 10, 11, 12, 32, 33, 34, 35, 36, 37, 38, 39, 40, 65, 66, 67, 68, 69, 70, 71, 72, 73, 74, 75, 76, 24, 25, 26, 27, 3, 77, 78, 79, 80, 81, 82, 83, 84, 85, 86, 87, 88, 89, 90, 91, 92, 93, 94, 95, 96, 97, 98, 99, 100] (by decide +kernel) (by decide +kernel)
set_option maxRecDepth 20000 in
theorem gX6_joinSet_X6_divide : GoodIn wsX6_joinSet (wsV RX6 132 RX6 yX6_divide wsX6_divide) := goodIn_app (goodIn_of _ (by decide +kernel)) ggX6_joinSet_X6_divide
theorem dX6_joinSet_0 : decode cX6_joinSet 0 = .ok (.aload_n 0, 1) := by decide +kernel
theorem dX6_joinSet_1 : decode cX6_joinSet 1 = .ok (.iconst 0, 1) := by decide +kernel
theorem dX6_joinSet_2 : decode cX6_joinSet 2 = .ok (.iload_n 1, 1) := by decide +kernel
theorem dX6_joinSet_3 : decode cX6_joinSet 3 = .ok (.iload_n 2, 1) := by decide +kernel
theorem dX6_joinSet_4 : decode cX6_joinSet 4 = .ok (.invokevirtual 90, 3) := by decide +kernel
theorem dX6_joinSet_7 : decode cX6_joinSet 7 = .ok (.istore_n 3, 1) := by decide +kernel
theorem dX6_joinSet_8 : decode cX6_joinSet 8 = .ok (.aload_n 0, 1) := by decide +kernel
theorem dX6_joinSet_9 : decode cX6_joinSet 9 = .ok (.iconst 1, 1) := by decide +kernel
theorem dX6_joinSet_10 : decode cX6_joinSet 10 = .ok (.iload_n 1, 1) := by decide +kernel
theorem dX6_joinSet_11 : decode cX6_joinSet 11 = .ok (.iload_n 2, 1) := by decide +kernel
theorem dX6_joinSet_12 : decode cX6_joinSet 12 = .ok (.invokevirtual 90, 3) := by decide +kernel
theorem dX6_joinSet_15 : decode cX6_joinSet 15 = .ok (.istore 4, 2) := by decide +kernel
theorem dX6_joinSet_17 : decode cX6_joinSet 17 = .ok (.iload_n 3, 1) := by decide +kernel
theorem dX6_joinSet_18 : decode cX6_joinSet 18 = .ok (.ifCond .eq 8, 3) := by decide +kernel
theorem dX6_joinSet_21 : decode cX6_joinSet 21 = .ok (.iload 4, 2) := by decide +kernel
theorem dX6_joinSet_23 : decode cX6_joinSet 23 = .ok (.ifCond .ne 14, 3) := by decide +kernel
theorem dX6_joinSet_26 : decode cX6_joinSet 26 = .ok (.aload_n 0, 1) := by decide +kernel
theorem dX6_joinSet_27 : decode cX6_joinSet 27 = .ok (.iconst 0, 1) := by decide +kernel
theorem dX6_joinSet_28 : decode cX6_joinSet 28 = .ok (.iload_n 1, 1) := by decide +kernel
theorem dX6_joinSet_29 : decode cX6_joinSet 29 = .ok (.iload_n 2, 1) := by decide +kernel
theorem dX6_joinSet_30 : decode cX6_joinSet 30 = .ok (.iconst 0, 1) := by decide +kernel
theorem dX6_joinSet_31 : decode cX6_joinSet 31 = .ok (.iconst 0, 1) := by decide +kernel
theorem dX6_joinSet_32 : decode cX6_joinSet 32 = .ok (.invokevirtual 121, 3) := by decide +kernel
theorem dX6_joinSet_35 : decode cX6_joinSet 35 = .ok (.iconst 0, 1) := by decide +kernel
theorem dX6_joinSet_36 : decode cX6_joinSet 36 = .ok (.ireturn, 1) := by decide +kernel
theorem dX6_joinSet_37 : decode cX6_joinSet 37 = .ok (.aload_n 0, 1) := by decide +kernel
theorem dX6_joinSet_38 : decode cX6_joinSet 38 = .ok (.iload_n 3, 1) := by decide +kernel
theorem dX6_joinSet_39 : decode cX6_joinSet 39 = .ok (.invokevirtual 66, 3) := by decide +kernel
theorem dX6_joinSet_42 : decode cX6_joinSet 42 = .ok (.aload_n 0, 1) := by decide +kernel
theorem dX6_joinSet_43 : decode cX6_joinSet 43 = .ok (.iload 4, 2) := by decide +kernel
theorem dX6_joinSet_45 : decode cX6_joinSet 45 = .ok (.invokevirtual 66, 3) := by decide +kernel
theorem dX6_joinSet_48 : decode cX6_joinSet 48 = .ok (.if_icmp .gt 7, 3) := by decide +kernel
theorem dX6_joinSet_51 : decode cX6_joinSet 51 = .ok (.iconst 0, 1) := by decide +kernel
theorem dX6_joinSet_52 : decode cX6_joinSet 52 = .ok (.goto 4, 3) := by decide +kernel
theorem dX6_joinSet_55 : decode cX6_joinSet 55 = .ok (.iconst 1, 1) := by decide +kernel
theorem dX6_joinSet_56 : decode cX6_joinSet 56 = .ok (.istore 5, 2) := by decide +kernel
theorem dX6_joinSet_58 : decode cX6_joinSet 58 = .ok (.iload 5, 2) := by decide +kernel
theorem dX6_joinSet_60 : decode cX6_joinSet 60 = .ok (.ifCond .ne 7, 3) := by decide +kernel
theorem dX6_joinSet_63 : decode cX6_joinSet 63 = .ok (.iload_n 3, 1) := by decide +kernel
theorem dX6_joinSet_64 : decode cX6_joinSet 64 = .ok (.goto 5, 3) := by decide +kernel
theorem dX6_joinSet_67 : decode cX6_joinSet 67 = .ok (.iload 4, 2) := by decide +kernel
theorem dX6_joinSet_69 : decode cX6_joinSet 69 = .ok (.istore 6, 2) := by decide +kernel
theorem dX6_joinSet_71 : decode cX6_joinSet 71 = .ok (.iload 5, 2) := by decide +kernel
theorem dX6_joinSet_73 : decode cX6_joinSet 73 = .ok (.ifCond .ne 8, 3) := by decide +kernel
theorem dX6_joinSet_76 : decode cX6_joinSet 76 = .ok (.iload 4, 2) := by decide +kernel
theorem dX6_joinSet_78 : decode cX6_joinSet 78 = .ok (.goto 4, 3) := by decide +kernel
theorem dX6_joinSet_81 : decode cX6_joinSet 81 = .ok (.iload_n 3, 1) := by decide +kernel
theorem dX6_joinSet_82 : decode cX6_joinSet 82 = .ok (.istore 7, 2) := by decide +kernel
theorem dX6_joinSet_84 : decode cX6_joinSet 84 = .ok (.aload_n 0, 1) := by decide +kernel
theorem dX6_joinSet_85 : decode cX6_joinSet 85 = .ok (.iload 6, 2) := by decide +kernel
theorem dX6_joinSet_87 : decode cX6_joinSet 87 = .ok (.invokevirtual 66, 3) := by decide +kernel
theorem dX6_joinSet_90 : decode cX6_joinSet 90 = .ok (.aload_n 0, 1) := by decide +kernel
theorem dX6_joinSet_91 : decode cX6_joinSet 91 = .ok (.getfield 23, 3) := by decide +kernel
theorem dX6_joinSet_94 : decode cX6_joinSet 94 = .ok (.iconst 2, 1) := by decide +kernel
theorem dX6_joinSet_95 : decode cX6_joinSet 95 = .ok (.isub, 1) := by decide +kernel
theorem dX6_joinSet_96 : decode cX6_joinSet 96 = .ok (.if_icmp .gt 43, 3) := by decide +kernel
theorem dX6_joinSet_99 : decode cX6_joinSet 99 = .ok (.aload_n 0, 1) := by decide +kernel
theorem dX6_joinSet_100 : decode cX6_joinSet 100 = .ok (.iconst 1, 1) := by decide +kernel
theorem dX6_joinSet_101 : decode cX6_joinSet 101 = .ok (.iload_n 1, 1) := by decide +kernel
theorem dX6_joinSet_102 : decode cX6_joinSet 102 = .ok (.iload_n 2, 1) := by decide +kernel
theorem dX6_joinSet_103 : decode cX6_joinSet 103 = .ok (.aload_n 0, 1) := by decide +kernel
theorem dX6_joinSet_104 : decode cX6_joinSet 104 = .ok (.iload_n 3, 1) := by decide +kernel
theorem dX6_joinSet_105 : decode cX6_joinSet 105 = .ok (.invokevirtual 66, 3) := by decide +kernel
theorem dX6_joinSet_108 : decode cX6_joinSet 108 = .ok (.aload_n 0, 1) := by decide +kernel
theorem dX6_joinSet_109 : decode cX6_joinSet 109 = .ok (.iload 4, 2) := by decide +kernel
theorem dX6_joinSet_111 : decode cX6_joinSet 111 = .ok (.invokevirtual 66, 3) := by decide +kernel
theorem dX6_joinSet_114 : decode cX6_joinSet 114 = .ok (.iadd, 1) := by decide +kernel
theorem dX6_joinSet_115 : decode cX6_joinSet 115 = .ok (.aload_n 0, 1) := by decide +kernel
theorem dX6_joinSet_116 : decode cX6_joinSet 116 = .ok (.iload 6, 2) := by decide +kernel
theorem dX6_joinSet_118 : decode cX6_joinSet 118 = .ok (.invokevirtual 66, 3) := by decide +kernel
theorem dX6_joinSet_121 : decode cX6_joinSet 121 = .ok (.iconst 2, 1) := by decide +kernel
theorem dX6_joinSet_122 : decode cX6_joinSet 122 = .ok (.iadd, 1) := by decide +kernel
theorem dX6_joinSet_123 : decode cX6_joinSet 123 = .ok (.invokevirtual 121, 3) := by decide +kernel
theorem dX6_joinSet_126 : decode cX6_joinSet 126 = .ok (.aload_n 0, 1) := by decide +kernel
theorem dX6_joinSet_127 : decode cX6_joinSet 127 = .ok (.iload 5, 2) := by decide +kernel
theorem dX6_joinSet_129 : decode cX6_joinSet 129 = .ok (.iload_n 1, 1) := by decide +kernel
theorem dX6_joinSet_130 : decode cX6_joinSet 130 = .ok (.iload_n 2, 1) := by decide +kernel
theorem dX6_joinSet_131 : decode cX6_joinSet 131 = .ok (.iconst 0, 1) := by decide +kernel
theorem dX6_joinSet_132 : decode cX6_joinSet 132 = .ok (.iload 6, 2) := by decide +kernel
theorem dX6_joinSet_134 : decode cX6_joinSet 134 = .ok (.invokevirtual 125, 3) := by decide +kernel
theorem dX6_joinSet_137 : decode cX6_joinSet 137 = .ok (.iconst 0, 1) := by decide +kernel
theorem dX6_joinSet_138 : decode cX6_joinSet 138 = .ok (.ireturn, 1) := by decide +kernel
theorem dX6_joinSet_139 : decode cX6_joinSet 139 = .ok (.iload_n 1, 1) := by decide +kernel
theorem dX6_joinSet_140 : decode cX6_joinSet 140 = .ok (.aload_n 0, 1) := by decide +kernel
theorem dX6_joinSet_141 : decode cX6_joinSet 141 = .ok (.getfield 26, 3) := by decide +kernel
theorem dX6_joinSet_144 : decode cX6_joinSet 144 = .ok (.if_icmp .eq 12, 3) := by decide +kernel
theorem dX6_joinSet_147 : decode cX6_joinSet 147 = .ok (.aload_n 0, 1) := by decide +kernel
theorem dX6_joinSet_148 : decode cX6_joinSet 148 = .ok (.iload_n 1, 1) := by decide +kernel
theorem dX6_joinSet_149 : decode cX6_joinSet 149 = .ok (.iload_n 2, 1) := by decide +kernel
theorem dX6_joinSet_150 : decode cX6_joinSet 150 = .ok (.invokevirtual 128, 3) := by decide +kernel
theorem dX6_joinSet_153 : decode cX6_joinSet 153 = .ok (.ifCond .eq 110, 3) := by decide +kernel
theorem dX6_joinSet_156 : decode cX6_joinSet 156 = .ok (.aload_n 0, 1) := by decide +kernel
theorem dX6_joinSet_157 : decode cX6_joinSet 157 = .ok (.getfield 23, 3) := by decide +kernel
theorem dX6_joinSet_160 : decode cX6_joinSet 160 = .ok (.iconst 2, 1) := by decide +kernel
theorem dX6_joinSet_161 : decode cX6_joinSet 161 = .ok (.isub, 1) := by decide +kernel
theorem dX6_joinSet_162 : decode cX6_joinSet 162 = .ok (.aload_n 0, 1) := by decide +kernel
theorem dX6_joinSet_163 : decode cX6_joinSet 163 = .ok (.getfield 19, 3) := by decide +kernel
theorem dX6_joinSet_166 : decode cX6_joinSet 166 = .ok (.imul, 1) := by decide +kernel
theorem dX6_joinSet_167 : decode cX6_joinSet 167 = .ok (.istore 8, 2) := by decide +kernel
theorem dX6_joinSet_169 : decode cX6_joinSet 169 = .ok (.iload 6, 2) := by decide +kernel
theorem dX6_joinSet_171 : decode cX6_joinSet 171 = .ok (.iload 8, 2) := by decide +kernel
theorem dX6_joinSet_173 : decode cX6_joinSet 173 = .ok (.iadd, 1) := by decide +kernel
theorem dX6_joinSet_174 : decode cX6_joinSet 174 = .ok (.iconst 1, 1) := by decide +kernel
theorem dX6_joinSet_175 : decode cX6_joinSet 175 = .ok (.isub, 1) := by decide +kernel
theorem dX6_joinSet_176 : decode cX6_joinSet 176 = .ok (.iload 8, 2) := by decide +kernel
theorem dX6_joinSet_178 : decode cX6_joinSet 178 = .ok (.idiv, 1) := by decide +kernel
theorem dX6_joinSet_179 : decode cX6_joinSet 179 = .ok (.istore 9, 2) := by decide +kernel
theorem dX6_joinSet_181 : decode cX6_joinSet 181 = .ok (.aload_n 0, 1) := by decide +kernel
theorem dX6_joinSet_182 : decode cX6_joinSet 182 = .ok (.iconst 2, 1) := by decide +kernel
theorem dX6_joinSet_183 : decode cX6_joinSet 183 = .ok (.iload_n 1, 1) := by decide +kernel
theorem dX6_joinSet_184 : decode cX6_joinSet 184 = .ok (.iload_n 2, 1) := by decide +kernel
theorem dX6_joinSet_185 : decode cX6_joinSet 185 = .ok (.aload_n 0, 1) := by decide +kernel
theorem dX6_joinSet_186 : decode cX6_joinSet 186 = .ok (.iload 6, 2) := by decide +kernel
theorem dX6_joinSet_188 : decode cX6_joinSet 188 = .ok (.invokevirtual 66, 3) := by decide +kernel
theorem dX6_joinSet_191 : decode cX6_joinSet 191 = .ok (.iload 9, 2) := by decide +kernel
theorem dX6_joinSet_193 : decode cX6_joinSet 193 = .ok (.aload_n 0, 1) := by decide +kernel
theorem dX6_joinSet_194 : decode cX6_joinSet 194 = .ok (.iload 7, 2) := by decide +kernel
theorem dX6_joinSet_196 : decode cX6_joinSet 196 = .ok (.invokevirtual 66, 3) := by decide +kernel
theorem dX6_joinSet_199 : decode cX6_joinSet 199 = .ok (.imul, 1) := by decide +kernel
theorem dX6_joinSet_200 : decode cX6_joinSet 200 = .ok (.iadd, 1) := by decide +kernel
theorem dX6_joinSet_201 : decode cX6_joinSet 201 = .ok (.aload_n 0, 1) := by decide +kernel
theorem dX6_joinSet_202 : decode cX6_joinSet 202 = .ok (.getfield 23, 3) := by decide +kernel
theorem dX6_joinSet_205 : decode cX6_joinSet 205 = .ok (.invokevirtual 121, 3) := by decide +kernel
theorem dX6_joinSet_208 : decode cX6_joinSet 208 = .ok (.iconst 0, 1) := by decide +kernel
theorem dX6_joinSet_209 : decode cX6_joinSet 209 = .ok (.istore 10, 2) := by decide +kernel
theorem dX6_joinSet_211 : decode cX6_joinSet 211 = .ok (.iload 10, 2) := by decide +kernel
theorem dX6_joinSet_213 : decode cX6_joinSet 213 = .ok (.iload 9, 2) := by decide +kernel
theorem dX6_joinSet_215 : decode cX6_joinSet 215 = .ok (.if_icmp .ge 46, 3) := by decide +kernel
theorem dX6_joinSet_218 : decode cX6_joinSet 218 = .ok (.aload_n 0, 1) := by decide +kernel
theorem dX6_joinSet_219 : decode cX6_joinSet 219 = .ok (.iload 5, 2) := by decide +kernel
theorem dX6_joinSet_221 : decode cX6_joinSet 221 = .ok (.iload_n 1, 1) := by decide +kernel
theorem dX6_joinSet_222 : decode cX6_joinSet 222 = .ok (.iload_n 2, 1) := by decide +kernel
theorem dX6_joinSet_223 : decode cX6_joinSet 223 = .ok (.iload 10, 2) := by decide +kernel
theorem dX6_joinSet_225 : decode cX6_joinSet 225 = .ok (.iload 8, 2) := by decide +kernel
theorem dX6_joinSet_227 : decode cX6_joinSet 227 = .ok (.imul, 1) := by decide +kernel
theorem dX6_joinSet_228 : decode cX6_joinSet 228 = .ok (.iload 10, 2) := by decide +kernel
theorem dX6_joinSet_230 : decode cX6_joinSet 230 = .ok (.iconst 1, 1) := by decide +kernel
theorem dX6_joinSet_231 : decode cX6_joinSet 231 = .ok (.iadd, 1) := by decide +kernel
theorem dX6_joinSet_232 : decode cX6_joinSet 232 = .ok (.iload 8, 2) := by decide +kernel
theorem dX6_joinSet_234 : decode cX6_joinSet 234 = .ok (.imul, 1) := by decide +kernel
theorem dX6_joinSet_235 : decode cX6_joinSet 235 = .ok (.iload 6, 2) := by decide +kernel
theorem dX6_joinSet_237 : decode cX6_joinSet 237 = .ok (.if_icmp .ge 13, 3) := by decide +kernel
theorem dX6_joinSet_240 : decode cX6_joinSet 240 = .ok (.iload 10, 2) := by decide +kernel
theorem dX6_joinSet_242 : decode cX6_joinSet 242 = .ok (.iconst 1, 1) := by decide +kernel
theorem dX6_joinSet_243 : decode cX6_joinSet 243 = .ok (.iadd, 1) := by decide +kernel
theorem dX6_joinSet_244 : decode cX6_joinSet 244 = .ok (.iload 8, 2) := by decide +kernel
theorem dX6_joinSet_246 : decode cX6_joinSet 246 = .ok (.imul, 1) := by decide +kernel
theorem dX6_joinSet_247 : decode cX6_joinSet 247 = .ok (.goto 5, 3) := by decide +kernel
theorem dX6_joinSet_250 : decode cX6_joinSet 250 = .ok (.iload 6, 2) := by decide +kernel
theorem dX6_joinSet_252 : decode cX6_joinSet 252 = .ok (.invokevirtual 125, 3) := by decide +kernel
theorem dX6_joinSet_255 : decode cX6_joinSet 255 = .ok (.iinc 10 1, 3) := by decide +kernel
theorem dX6_joinSet_258 : decode cX6_joinSet 258 = .ok (.goto (-47), 3) := by decide +kernel
theorem dX6_joinSet_261 : decode cX6_joinSet 261 = .ok (.iconst 0, 1) := by decide +kernel
theorem dX6_joinSet_262 : decode cX6_joinSet 262 = .ok (.ireturn, 1) := by decide +kernel
theorem dX6_joinSet_263 : decode cX6_joinSet 263 = .ok (.aload_n 0, 1) := by decide +kernel
theorem dX6_joinSet_264 : decode cX6_joinSet 264 = .ok (.iconst 3, 1) := by decide +kernel
theorem dX6_joinSet_265 : decode cX6_joinSet 265 = .ok (.iload_n 1, 1) := by decide +kernel
theorem dX6_joinSet_266 : decode cX6_joinSet 266 = .ok (.iload_n 2, 1) := by decide +kernel
theorem dX6_joinSet_267 : decode cX6_joinSet 267 = .ok (.aload_n 0, 1) := by decide +kernel
theorem dX6_joinSet_268 : decode cX6_joinSet 268 = .ok (.iload_n 3, 1) := by decide +kernel
theorem dX6_joinSet_269 : decode cX6_joinSet 269 = .ok (.invokevirtual 66, 3) := by decide +kernel
theorem dX6_joinSet_272 : decode cX6_joinSet 272 = .ok (.aload_n 0, 1) := by decide +kernel
theorem dX6_joinSet_273 : decode cX6_joinSet 273 = .ok (.iload 4, 2) := by decide +kernel
theorem dX6_joinSet_275 : decode cX6_joinSet 275 = .ok (.invokevirtual 66, 3) := by decide +kernel
theorem dX6_joinSet_278 : decode cX6_joinSet 278 = .ok (.iadd, 1) := by decide +kernel
theorem dX6_joinSet_279 : decode cX6_joinSet 279 = .ok (.aload_n 0, 1) := by decide +kernel
theorem dX6_joinSet_280 : decode cX6_joinSet 280 = .ok (.getfield 23, 3) := by decide +kernel
theorem dX6_joinSet_283 : decode cX6_joinSet 283 = .ok (.invokevirtual 121, 3) := by decide +kernel
theorem dX6_joinSet_286 : decode cX6_joinSet 286 = .ok (.aload_n 0, 1) := by decide +kernel
theorem dX6_joinSet_287 : decode cX6_joinSet 287 = .ok (.iload_n 1, 1) := by decide +kernel
theorem dX6_joinSet_288 : decode cX6_joinSet 288 = .ok (.iload_n 2, 1) := by decide +kernel
theorem dX6_joinSet_289 : decode cX6_joinSet 289 = .ok (.invokevirtual 132, 3) := by decide +kernel
theorem dX6_joinSet_292 : decode cX6_joinSet 292 = .ok (.iconst 1, 1) := by decide +kernel
theorem dX6_joinSet_293 : decode cX6_joinSet 293 = .ok (.ireturn, 1) := by decide +kernel
theorem dX6_begin_0 : decode cX6_begin 0 = .ok (.aload_n 0, 1) := by decide +kernel
theorem dX6_begin_1 : decode cX6_begin 1 = .ok (.iconst 0, 1) := by decide +kernel
theorem dX6_begin_2 : decode cX6_begin 2 = .ok (.putfield 93, 3) := by decide +kernel
theorem dX6_begin_5 : decode cX6_begin 5 = .ok (.aload_n 0, 1) := by decide +kernel
theorem dX6_begin_6 : decode cX6_begin 6 = .ok (.iconst 0, 1) := by decide +kernel
theorem dX6_begin_7 : decode cX6_begin 7 = .ok (.putfield 103, 3) := by decide +kernel
theorem dX6_begin_10 : decode cX6_begin 10 = .ok (.aload_n 0, 1) := by decide +kernel
theorem dX6_begin_11 : decode cX6_begin 11 = .ok (.iconst 0, 1) := by decide +kernel
theorem dX6_begin_12 : decode cX6_begin 12 = .ok (.putfield 109, 3) := by decide +kernel
theorem dX6_begin_15 : decode cX6_begin 15 = .ok (.aload_n 0, 1) := by decide +kernel
theorem dX6_begin_16 : decode cX6_begin 16 = .ok (.iconst 0, 1) := by decide +kernel
theorem dX6_begin_17 : decode cX6_begin 17 = .ok (.putfield 106, 3) := by decide +kernel
theorem dX6_begin_20 : decode cX6_begin 20 = .ok (.aload_n 0, 1) := by decide +kernel
theorem dX6_begin_21 : decode cX6_begin 21 = .ok (.iconst 0, 1) := by decide +kernel
theorem dX6_begin_22 : decode cX6_begin 22 = .ok (.putfield 115, 3) := by decide +kernel
theorem dX6_begin_25 : decode cX6_begin 25 = .ok (.aload_n 0, 1) := by decide +kernel
theorem dX6_begin_26 : decode cX6_begin 26 = .ok (.iconst 0, 1) := by decide +kernel
theorem dX6_begin_27 : decode cX6_begin 27 = .ok (.putfield 118, 3) := by decide +kernel
theorem dX6_begin_30 : decode cX6_begin 30 = .ok (.aload_n 0, 1) := by decide +kernel
theorem dX6_begin_31 : decode cX6_begin 31 = .ok (.iconst (-1), 1) := by decide +kernel
theorem dX6_begin_32 : decode cX6_begin 32 = .ok (.putfield 53, 3) := by decide +kernel
theorem dX6_begin_35 : decode cX6_begin 35 = .ok (.aload_n 0, 1) := by decide +kernel
theorem dX6_begin_36 : decode cX6_begin 36 = .ok (.iconst 0, 1) := by decide +kernel
theorem dX6_begin_37 : decode cX6_begin 37 = .ok (.putfield 100, 3) := by decide +kernel
theorem dX6_begin_40 : decode cX6_begin 40 = .ok (.iconst 0, 1) := by decide +kernel
theorem dX6_begin_41 : decode cX6_begin 41 = .ok (.istore_n 1, 1) := by decide +kernel
theorem dX6_begin_42 : decode cX6_begin 42 = .ok (.iload_n 1, 1) := by decide +kernel
theorem dX6_begin_43 : decode cX6_begin 43 = .ok (.iconst 4, 1) := by decide +kernel
theorem dX6_begin_44 : decode cX6_begin 44 = .ok (.if_icmp .ge 16, 3) := by decide +kernel
theorem dX6_begin_47 : decode cX6_begin 47 = .ok (.aload_n 0, 1) := by decide +kernel
theorem dX6_begin_48 : decode cX6_begin 48 = .ok (.getfield 56, 3) := by decide +kernel
theorem dX6_begin_51 : decode cX6_begin 51 = .ok (.iload_n 1, 1) := by decide +kernel
theorem dX6_begin_52 : decode cX6_begin 52 = .ok (.iconst 0, 1) := by decide +kernel
theorem dX6_begin_53 : decode cX6_begin 53 = .ok (.iastore, 1) := by decide +kernel
theorem dX6_begin_54 : decode cX6_begin 54 = .ok (.iinc 1 1, 3) := by decide +kernel
theorem dX6_begin_57 : decode cX6_begin 57 = .ok (.goto (-15), 3) := by decide +kernel
theorem dX6_begin_60 : decode cX6_begin 60 = .ok (.iconst 0, 1) := by decide +kernel
theorem dX6_begin_61 : decode cX6_begin 61 = .ok (.istore_n 1, 1) := by decide +kernel
theorem dX6_begin_62 : decode cX6_begin 62 = .ok (.iload_n 1, 1) := by decide +kernel
theorem dX6_begin_63 : decode cX6_begin 63 = .ok (.iconst 2, 1) := by decide +kernel
theorem dX6_begin_64 : decode cX6_begin 64 = .ok (.if_icmp .ge 67, 3) := by decide +kernel
theorem dX6_begin_67 : decode cX6_begin 67 = .ok (.aload_n 0, 1) := by decide +kernel
theorem dX6_begin_68 : decode cX6_begin 68 = .ok (.getfield 32, 3) := by decide +kernel
theorem dX6_begin_71 : decode cX6_begin 71 = .ok (.bipush 21, 2) := by decide +kernel
theorem dX6_begin_73 : decode cX6_begin 73 = .ok (.iload_n 1, 1) := by decide +kernel
theorem dX6_begin_74 : decode cX6_begin 74 = .ok (.imul, 1) := by decide +kernel
theorem dX6_begin_75 : decode cX6_begin 75 = .ok (.iconst 0, 1) := by decide +kernel
theorem dX6_begin_76 : decode cX6_begin 76 = .ok (.iastore, 1) := by decide +kernel
theorem dX6_begin_77 : decode cX6_begin 77 = .ok (.aload_n 0, 1) := by decide +kernel
theorem dX6_begin_78 : decode cX6_begin 78 = .ok (.getfield 32, 3) := by decide +kernel
theorem dX6_begin_81 : decode cX6_begin 81 = .ok (.bipush 21, 2) := by decide +kernel
theorem dX6_begin_83 : decode cX6_begin 83 = .ok (.iload_n 1, 1) := by decide +kernel
theorem dX6_begin_84 : decode cX6_begin 84 = .ok (.imul, 1) := by decide +kernel
theorem dX6_begin_85 : decode cX6_begin 85 = .ok (.iconst 1, 1) := by decide +kernel
theorem dX6_begin_86 : decode cX6_begin 86 = .ok (.iadd, 1) := by decide +kernel
theorem dX6_begin_87 : decode cX6_begin 87 = .ok (.aload_n 0, 1) := by decide +kernel
theorem dX6_begin_88 : decode cX6_begin 88 = .ok (.getfield 16, 3) := by decide +kernel
theorem dX6_begin_91 : decode cX6_begin 91 = .ok (.iload_n 1, 1) := by decide +kernel
theorem dX6_begin_92 : decode cX6_begin 92 = .ok (.iaload, 1) := by decide +kernel
theorem dX6_begin_93 : decode cX6_begin 93 = .ok (.iastore, 1) := by decide +kernel
theorem dX6_begin_94 : decode cX6_begin 94 = .ok (.iconst 0, 1) := by decide +kernel
theorem dX6_begin_95 : decode cX6_begin 95 = .ok (.istore_n 2, 1) := by decide +kernel
theorem dX6_begin_96 : decode cX6_begin 96 = .ok (.iload_n 2, 1) := by decide +kernel
theorem dX6_begin_97 : decode cX6_begin 97 = .ok (.aload_n 0, 1) := by decide +kernel
theorem dX6_begin_98 : decode cX6_begin 98 = .ok (.getfield 16, 3) := by decide +kernel
theorem dX6_begin_101 : decode cX6_begin 101 = .ok (.iload_n 1, 1) := by decide +kernel
theorem dX6_begin_102 : decode cX6_begin 102 = .ok (.iaload, 1) := by decide +kernel
theorem dX6_begin_103 : decode cX6_begin 103 = .ok (.if_icmp .ge 22, 3) := by decide +kernel
theorem dX6_begin_106 : decode cX6_begin 106 = .ok (.aload_n 0, 1) := by decide +kernel
theorem dX6_begin_107 : decode cX6_begin 107 = .ok (.getfield 29, 3) := by decide +kernel
theorem dX6_begin_110 : decode cX6_begin 110 = .ok (.sipush 500, 3) := by decide +kernel
theorem dX6_begin_113 : decode cX6_begin 113 = .ok (.iload_n 1, 1) := by decide +kernel
theorem dX6_begin_114 : decode cX6_begin 114 = .ok (.imul, 1) := by decide +kernel
theorem dX6_begin_115 : decode cX6_begin 115 = .ok (.iload_n 2, 1) := by decide +kernel
theorem dX6_begin_116 : decode cX6_begin 116 = .ok (.iadd, 1) := by decide +kernel
theorem dX6_begin_117 : decode cX6_begin 117 = .ok (.iload_n 2, 1) := by decide +kernel
theorem dX6_begin_118 : decode cX6_begin 118 = .ok (.iastore, 1) := by decide +kernel
theorem dX6_begin_119 : decode cX6_begin 119 = .ok (.iinc 2 1, 3) := by decide +kernel
theorem dX6_begin_122 : decode cX6_begin 122 = .ok (.goto (-26), 3) := by decide +kernel
theorem dX6_begin_125 : decode cX6_begin 125 = .ok (.iinc 1 1, 3) := by decide +kernel
theorem dX6_begin_128 : decode cX6_begin 128 = .ok (.goto (-66), 3) := by decide +kernel
theorem dX6_begin_131 : decode cX6_begin 131 = .ok (.return_, 1) := by decide +kernel
set_option maxRecDepth 20000 in
theorem ggX6_join_X6_begin : GoodIn wsX6_join wsX6_begin := goodIn_r _ [9, 4, 10, 11, 12, 3, 13, 14, 15, 16, 17, 18, 19, 86, 87, 88, 89, 90, 91, 92, 93, 94, 95, 96, 97, 98, 99, 100, 101, 102, 103, 104, 105, 106, 107, 108, 109] (by decide +kernel) (by decide +kernel)
set_option maxRecDepth 20000 in
theorem gX6_join_X6_begin : GoodIn wsX6_join (wsV RX6 135 RX6 yX6_begin wsX6_begin) := goodIn_app (goodIn_of _ (by decide +kernel)) ggX6_join_X6_begin
set_option maxRecDepth 20000 in
theorem ggX6_join_X6_joinSet : GoodIn wsX6_join wsX6_joinSet := goodIn_r _ [23, 2, 24, 25, 26, 27, 28, 8, 29, 30, 31, 32, 33, 17, 34, 35, 36, 37, 15, 38, 16, 10, 12, 14, 39, 40, 41, 42, 43, 44, 45, 46, 47, 48, 49, 50, 51, 52, 53, 54, 55, 19, 56, 57, 58, 59, 4, 60, 61, 62, 63, 64, 65, 66, 67, 68, 69, 70, 71, 72, 73, 11, 3, 13, 1, 74, 75, 76, 77, 78, 79, 80, 81, 82, 83, 84, 85, 86, 87, 88, 89, 90, 91, 92, 93, 94, 95, 96, 97, 98, 99, 100, 101, 102, 103, 104, 105, 106, 107, 108, 109] (by decide +kernel) (by decide +kernel)
set_option maxRecDepth 20000 in
theorem gX6_join_X6_joinSet : GoodIn wsX6_join (wsV RX6 138 RX6 yX6_joinSet wsX6_joinSet) := goodIn_app (goodIn_of _ (by decide +kernel)) ggX6_join_X6_joinSet
set_option maxRecDepth 20000 in
theorem ggX6_join_X6_pagesAt : GoodIn wsX6_join wsX6_pagesAt := goodIn_r _ [85, 26, 27, 28, 8, 29, 30, 31, 32, 33, 17, 39, 40, 41, 42, 25, 86, 87, 88, 89, 90, 91, 92, 93, 94, 95, 96, 97, 98, 99, 100, 101, 102, 103, 104, 105, 106, 107, 108, 109] (by decide +kernel) (by decide +kernel)
set_option maxRecDepth 20000 in
theorem gX6_join_X6_pagesAt : GoodIn wsX6_join (wsV RX6 112 RX6 yX6_pagesAt wsX6_pagesAt) := goodIn_app (goodIn_of _ (by decide +kernel)) ggX6_join_X6_pagesAt
theorem dX6_join_0 : decode cX6_join 0 = .ok (.aload_n 0, 1) := by decide +kernel
theorem dX6_join_1 : decode cX6_join 1 = .ok (.invokevirtual 135, 3) := by decide +kernel
theorem dX6_join_4 : decode cX6_join 4 = .ok (.aload_n 0, 1) := by decide +kernel
theorem dX6_join_5 : decode cX6_join 5 = .ok (.iconst 0, 1) := by decide +kernel
theorem dX6_join_6 : decode cX6_join 6 = .ok (.iconst 0, 1) := by decide +kernel
theorem dX6_join_7 : decode cX6_join 7 = .ok (.invokevirtual 138, 3) := by decide +kernel
theorem dX6_join_10 : decode cX6_join 10 = .ok (.ifCond .eq 7, 3) := by decide +kernel
theorem dX6_join_13 : decode cX6_join 13 = .ok (.iconst 1, 1) := by decide +kernel
theorem dX6_join_14 : decode cX6_join 14 = .ok (.goto 4, 3) := by decide +kernel
theorem dX6_join_17 : decode cX6_join 17 = .ok (.iconst 0, 1) := by decide +kernel
theorem dX6_join_18 : decode cX6_join 18 = .ok (.istore_n 1, 1) := by decide +kernel
theorem dX6_join_19 : decode cX6_join 19 = .ok (.iload_n 1, 1) := by decide +kernel
theorem dX6_join_20 : decode cX6_join 20 = .ok (.ifCond .le 107, 3) := by decide +kernel
theorem dX6_join_23 : decode cX6_join 23 = .ok (.aload_n 0, 1) := by decide +kernel
theorem dX6_join_24 : decode cX6_join 24 = .ok (.getfield 35, 3) := by decide +kernel
theorem dX6_join_27 : decode cX6_join 27 = .ok (.iload_n 1, 1) := by decide +kernel
theorem dX6_join_28 : decode cX6_join 28 = .ok (.iaload, 1) := by decide +kernel
theorem dX6_join_29 : decode cX6_join 29 = .ok (.aload_n 0, 1) := by decide +kernel
theorem dX6_join_30 : decode cX6_join 30 = .ok (.getfield 23, 3) := by decide +kernel
theorem dX6_join_33 : decode cX6_join 33 = .ok (.iconst 1, 1) := by decide +kernel
theorem dX6_join_34 : decode cX6_join 34 = .ok (.isub, 1) := by decide +kernel
theorem dX6_join_35 : decode cX6_join 35 = .ok (.if_icmp .ne 42, 3) := by decide +kernel
theorem dX6_join_38 : decode cX6_join 38 = .ok (.iinc 1 (-1), 3) := by decide +kernel
theorem dX6_join_41 : decode cX6_join 41 = .ok (.aload_n 0, 1) := by decide +kernel
theorem dX6_join_42 : decode cX6_join 42 = .ok (.iload_n 1, 1) := by decide +kernel
theorem dX6_join_43 : decode cX6_join 43 = .ok (.ifCond .le 24, 3) := by decide +kernel
theorem dX6_join_46 : decode cX6_join 46 = .ok (.aload_n 0, 1) := by decide +kernel
theorem dX6_join_47 : decode cX6_join 47 = .ok (.getfield 115, 3) := by decide +kernel
theorem dX6_join_50 : decode cX6_join 50 = .ok (.aload_n 0, 1) := by decide +kernel
theorem dX6_join_51 : decode cX6_join 51 = .ok (.iload_n 1, 1) := by decide +kernel
theorem dX6_join_52 : decode cX6_join 52 = .ok (.aload_n 0, 1) := by decide +kernel
theorem dX6_join_53 : decode cX6_join 53 = .ok (.getfield 35, 3) := by decide +kernel
theorem dX6_join_56 : decode cX6_join 56 = .ok (.iload_n 1, 1) := by decide +kernel
theorem dX6_join_57 : decode cX6_join 57 = .ok (.iaload, 1) := by decide +kernel
theorem dX6_join_58 : decode cX6_join 58 = .ok (.iconst 1, 1) := by decide +kernel
theorem dX6_join_59 : decode cX6_join 59 = .ok (.isub, 1) := by decide +kernel
theorem dX6_join_60 : decode cX6_join 60 = .ok (.invokevirtual 112, 3) := by decide +kernel
theorem dX6_join_63 : decode cX6_join 63 = .ok (.isub, 1) := by decide +kernel
theorem dX6_join_64 : decode cX6_join 64 = .ok (.goto 7, 3) := by decide +kernel
theorem dX6_join_67 : decode cX6_join 67 = .ok (.aload_n 0, 1) := by decide +kernel
theorem dX6_join_68 : decode cX6_join 68 = .ok (.getfield 115, 3) := by decide +kernel
theorem dX6_join_71 : decode cX6_join 71 = .ok (.putfield 115, 3) := by decide +kernel
theorem dX6_join_74 : decode cX6_join 74 = .ok (.goto (-55), 3) := by decide +kernel
theorem dX6_join_77 : decode cX6_join 77 = .ok (.aload_n 0, 1) := by decide +kernel
theorem dX6_join_78 : decode cX6_join 78 = .ok (.getfield 35, 3) := by decide +kernel
theorem dX6_join_81 : decode cX6_join 81 = .ok (.iload_n 1, 1) := by decide +kernel
theorem dX6_join_82 : decode cX6_join 82 = .ok (.iaload, 1) := by decide +kernel
theorem dX6_join_83 : decode cX6_join 83 = .ok (.istore_n 2, 1) := by decide +kernel
theorem dX6_join_84 : decode cX6_join 84 = .ok (.aload_n 0, 1) := by decide +kernel
theorem dX6_join_85 : decode cX6_join 85 = .ok (.getfield 35, 3) := by decide +kernel
theorem dX6_join_88 : decode cX6_join 88 = .ok (.iload_n 1, 1) := by decide +kernel
theorem dX6_join_89 : decode cX6_join 89 = .ok (.dup2, 1) := by decide +kernel
theorem dX6_join_90 : decode cX6_join 90 = .ok (.iaload, 1) := by decide +kernel
theorem dX6_join_91 : decode cX6_join 91 = .ok (.iconst 1, 1) := by decide +kernel
theorem dX6_join_92 : decode cX6_join 92 = .ok (.iadd, 1) := by decide +kernel
theorem dX6_join_93 : decode cX6_join 93 = .ok (.iastore, 1) := by decide +kernel
theorem dX6_join_94 : decode cX6_join 94 = .ok (.aload_n 0, 1) := by decide +kernel
theorem dX6_join_95 : decode cX6_join 95 = .ok (.iload_n 1, 1) := by decide +kernel
theorem dX6_join_96 : decode cX6_join 96 = .ok (.iload_n 2, 1) := by decide +kernel
theorem dX6_join_97 : decode cX6_join 97 = .ok (.invokevirtual 138, 3) := by decide +kernel
theorem dX6_join_100 : decode cX6_join 100 = .ok (.ifCond .eq 9, 3) := by decide +kernel
theorem dX6_join_103 : decode cX6_join 103 = .ok (.iinc 1 1, 3) := by decide +kernel
theorem dX6_join_106 : decode cX6_join 106 = .ok (.goto 18, 3) := by decide +kernel
theorem dX6_join_109 : decode cX6_join 109 = .ok (.aload_n 0, 1) := by decide +kernel
theorem dX6_join_110 : decode cX6_join 110 = .ok (.aload_n 0, 1) := by decide +kernel
theorem dX6_join_111 : decode cX6_join 111 = .ok (.getfield 115, 3) := by decide +kernel
theorem dX6_join_114 : decode cX6_join 114 = .ok (.aload_n 0, 1) := by decide +kernel
theorem dX6_join_115 : decode cX6_join 115 = .ok (.iload_n 1, 1) := by decide +kernel
theorem dX6_join_116 : decode cX6_join 116 = .ok (.iload_n 2, 1) := by decide +kernel
theorem dX6_join_117 : decode cX6_join 117 = .ok (.invokevirtual 112, 3) := by decide +kernel
theorem dX6_join_120 : decode cX6_join 120 = .ok (.isub, 1) := by decide +kernel
theorem dX6_join_121 : decode cX6_join 121 = .ok (.putfield 115, 3) := by decide +kernel
theorem dX6_join_124 : decode cX6_join 124 = .ok (.goto (-105), 3) := by decide +kernel
theorem dX6_join_127 : decode cX6_join 127 = .ok (.aload_n 0, 1) := by decide +kernel
theorem dX6_join_128 : decode cX6_join 128 = .ok (.getfield 93, 3) := by decide +kernel
theorem dX6_join_131 : decode cX6_join 131 = .ok (.sipush 4000, 3) := by decide +kernel
theorem dX6_join_134 : decode cX6_join 134 = .ok (.if_icmp .le 8, 3) := by decide +kernel
theorem dX6_join_137 : decode cX6_join 137 = .ok (.bipush (-2), 2) := by decide +kernel
theorem dX6_join_139 : decode cX6_join 139 = .ok (.goto 7, 3) := by decide +kernel
theorem dX6_join_142 : decode cX6_join 142 = .ok (.aload_n 0, 1) := by decide +kernel
theorem dX6_join_143 : decode cX6_join 143 = .ok (.getfield 93, 3) := by decide +kernel
theorem dX6_join_146 : decode cX6_join 146 = .ok (.ireturn, 1) := by decide +kernel
theorem dX6_pair_0 : decode cX6_pair 0 = .ok (.iload_n 1, 1) := by decide +kernel
theorem dX6_pair_1 : decode cX6_pair 1 = .ok (.ifCond .lt 21, 3) := by decide +kernel
theorem dX6_pair_4 : decode cX6_pair 4 = .ok (.iload_n 1, 1) := by decide +kernel
theorem dX6_pair_5 : decode cX6_pair 5 = .ok (.aload_n 0, 1) := by decide +kernel
theorem dX6_pair_6 : decode cX6_pair 6 = .ok (.getfield 93, 3) := by decide +kernel
theorem dX6_pair_9 : decode cX6_pair 9 = .ok (.if_icmp .ge 13, 3) := by decide +kernel
theorem dX6_pair_12 : decode cX6_pair 12 = .ok (.aload_n 0, 1) := by decide +kernel
theorem dX6_pair_13 : decode cX6_pair 13 = .ok (.getfield 93, 3) := by decide +kernel
theorem dX6_pair_16 : decode cX6_pair 16 = .ok (.sipush 4000, 3) := by decide +kernel
theorem dX6_pair_19 : decode cX6_pair 19 = .ok (.if_icmp .le 5, 3) := by decide +kernel
theorem dX6_pair_22 : decode cX6_pair 22 = .ok (.iconst (-1), 1) := by decide +kernel
theorem dX6_pair_23 : decode cX6_pair 23 = .ok (.ireturn, 1) := by decide +kernel
theorem dX6_pair_24 : decode cX6_pair 24 = .ok (.iload_n 2, 1) := by decide +kernel
theorem dX6_pair_25 : decode cX6_pair 25 = .ok (.tableswitch 70 0 4 #[35, 42, 49, 56, 63], 35) := by decide +kernel
theorem dX6_pair_60 : decode cX6_pair 60 = .ok (.aload_n 0, 1) := by decide +kernel
theorem dX6_pair_61 : decode cX6_pair 61 = .ok (.getfield 38, 3) := by decide +kernel
theorem dX6_pair_64 : decode cX6_pair 64 = .ok (.iload_n 1, 1) := by decide +kernel
theorem dX6_pair_65 : decode cX6_pair 65 = .ok (.iaload, 1) := by decide +kernel
theorem dX6_pair_66 : decode cX6_pair 66 = .ok (.ireturn, 1) := by decide +kernel
theorem dX6_pair_67 : decode cX6_pair 67 = .ok (.aload_n 0, 1) := by decide +kernel
theorem dX6_pair_68 : decode cX6_pair 68 = .ok (.getfield 41, 3) := by decide +kernel
theorem dX6_pair_71 : decode cX6_pair 71 = .ok (.iload_n 1, 1) := by decide +kernel
theorem dX6_pair_72 : decode cX6_pair 72 = .ok (.iaload, 1) := by decide +kernel
theorem dX6_pair_73 : decode cX6_pair 73 = .ok (.ireturn, 1) := by decide +kernel
theorem dX6_pair_74 : decode cX6_pair 74 = .ok (.aload_n 0, 1) := by decide +kernel
theorem dX6_pair_75 : decode cX6_pair 75 = .ok (.getfield 44, 3) := by decide +kernel
theorem dX6_pair_78 : decode cX6_pair 78 = .ok (.iload_n 1, 1) := by decide +kernel
theorem dX6_pair_79 : decode cX6_pair 79 = .ok (.iaload, 1) := by decide +kernel
theorem dX6_pair_80 : decode cX6_pair 80 = .ok (.ireturn, 1) := by decide +kernel
theorem dX6_pair_81 : decode cX6_pair 81 = .ok (.aload_n 0, 1) := by decide +kernel
theorem dX6_pair_82 : decode cX6_pair 82 = .ok (.getfield 47, 3) := by decide +kernel
theorem dX6_pair_85 : decode cX6_pair 85 = .ok (.iload_n 1, 1) := by decide +kernel
theorem dX6_pair_86 : decode cX6_pair 86 = .ok (.iaload, 1) := by decide +kernel
theorem dX6_pair_87 : decode cX6_pair 87 = .ok (.ireturn, 1) := by decide +kernel
theorem dX6_pair_88 : decode cX6_pair 88 = .ok (.aload_n 0, 1) := by decide +kernel
theorem dX6_pair_89 : decode cX6_pair 89 = .ok (.getfield 50, 3) := by decide +kernel
theorem dX6_pair_92 : decode cX6_pair 92 = .ok (.iload_n 1, 1) := by decide +kernel
theorem dX6_pair_93 : decode cX6_pair 93 = .ok (.iaload, 1) := by decide +kernel
theorem dX6_pair_94 : decode cX6_pair 94 = .ok (.ireturn, 1) := by decide +kernel
theorem dX6_pair_95 : decode cX6_pair 95 = .ok (.iconst (-1), 1) := by decide +kernel
theorem dX6_pair_96 : decode cX6_pair 96 = .ok (.ireturn, 1) := by decide +kernel
theorem dX6_told_0 : decode cX6_told 0 = .ok (.iload_n 1, 1) := by decide +kernel
theorem dX6_told_1 : decode cX6_told 1 = .ok (.tableswitch 104 0 10 #[59, 64, 69, 74, 79, 84, 89, 89, 89, 89, 99], 59) := by decide +kernel
theorem dX6_told_60 : decode cX6_told 60 = .ok (.aload_n 0, 1) := by decide +kernel
theorem dX6_told_61 : decode cX6_told 61 = .ok (.getfield 103, 3) := by decide +kernel
theorem dX6_told_64 : decode cX6_told 64 = .ok (.ireturn, 1) := by decide +kernel
theorem dX6_told_65 : decode cX6_told 65 = .ok (.aload_n 0, 1) := by decide +kernel
theorem dX6_told_66 : decode cX6_told 66 = .ok (.getfield 109, 3) := by decide +kernel
theorem dX6_told_69 : decode cX6_told 69 = .ok (.ireturn, 1) := by decide +kernel
theorem dX6_told_70 : decode cX6_told 70 = .ok (.aload_n 0, 1) := by decide +kernel
theorem dX6_told_71 : decode cX6_told 71 = .ok (.getfield 106, 3) := by decide +kernel
theorem dX6_told_74 : decode cX6_told 74 = .ok (.ireturn, 1) := by decide +kernel
theorem dX6_told_75 : decode cX6_told 75 = .ok (.aload_n 0, 1) := by decide +kernel
theorem dX6_told_76 : decode cX6_told 76 = .ok (.getfield 118, 3) := by decide +kernel
theorem dX6_told_79 : decode cX6_told 79 = .ok (.ireturn, 1) := by decide +kernel
theorem dX6_told_80 : decode cX6_told 80 = .ok (.aload_n 0, 1) := by decide +kernel
theorem dX6_told_81 : decode cX6_told 81 = .ok (.getfield 53, 3) := by decide +kernel
theorem dX6_told_84 : decode cX6_told 84 = .ok (.ireturn, 1) := by decide +kernel
theorem dX6_told_85 : decode cX6_told 85 = .ok (.aload_n 0, 1) := by decide +kernel
theorem dX6_told_86 : decode cX6_told 86 = .ok (.getfield 100, 3) := by decide +kernel
theorem dX6_told_89 : decode cX6_told 89 = .ok (.ireturn, 1) := by decide +kernel
theorem dX6_told_90 : decode cX6_told 90 = .ok (.aload_n 0, 1) := by decide +kernel
theorem dX6_told_91 : decode cX6_told 91 = .ok (.getfield 56, 3) := by decide +kernel
theorem dX6_told_94 : decode cX6_told 94 = .ok (.iload_n 1, 1) := by decide +kernel
theorem dX6_told_95 : decode cX6_told 95 = .ok (.bipush 6, 2) := by decide +kernel
theorem dX6_told_97 : decode cX6_told 97 = .ok (.isub, 1) := by decide +kernel
theorem dX6_told_98 : decode cX6_told 98 = .ok (.iaload, 1) := by decide +kernel
theorem dX6_told_99 : decode cX6_told 99 = .ok (.ireturn, 1) := by decide +kernel
theorem dX6_told_100 : decode cX6_told 100 = .ok (.aload_n 0, 1) := by decide +kernel
theorem dX6_told_101 : decode cX6_told 101 = .ok (.getfield 93, 3) := by decide +kernel
theorem dX6_told_104 : decode cX6_told 104 = .ok (.ireturn, 1) := by decide +kernel
theorem dX6_told_105 : decode cX6_told 105 = .ok (.iconst (-1), 1) := by decide +kernel
theorem dX6_told_106 : decode cX6_told 106 = .ok (.ireturn, 1) := by decide +kernel
theorem dX6_event_0 : decode cX6_event 0 = .ok (.iload_n 1, 1) := by decide +kernel
theorem dX6_event_1 : decode cX6_event 1 = .ok (.ifCond .lt 27, 3) := by decide +kernel
theorem dX6_event_4 : decode cX6_event 4 = .ok (.iload_n 1, 1) := by decide +kernel
theorem dX6_event_5 : decode cX6_event 5 = .ok (.aload_n 0, 1) := by decide +kernel
theorem dX6_event_6 : decode cX6_event 6 = .ok (.getfield 100, 3) := by decide +kernel
theorem dX6_event_9 : decode cX6_event 9 = .ok (.if_icmp .ge 19, 3) := by decide +kernel
theorem dX6_event_12 : decode cX6_event 12 = .ok (.iload_n 1, 1) := by decide +kernel
theorem dX6_event_13 : decode cX6_event 13 = .ok (.sipush 300, 3) := by decide +kernel
theorem dX6_event_16 : decode cX6_event 16 = .ok (.if_icmp .ge 12, 3) := by decide +kernel
theorem dX6_event_19 : decode cX6_event 19 = .ok (.iload_n 2, 1) := by decide +kernel
theorem dX6_event_20 : decode cX6_event 20 = .ok (.ifCond .lt 8, 3) := by decide +kernel
theorem dX6_event_23 : decode cX6_event 23 = .ok (.iload_n 2, 1) := by decide +kernel
theorem dX6_event_24 : decode cX6_event 24 = .ok (.iconst 4, 1) := by decide +kernel
theorem dX6_event_25 : decode cX6_event 25 = .ok (.if_icmp .le 7, 3) := by decide +kernel
theorem dX6_event_28 : decode cX6_event 28 = .ok (.iconst (-1), 1) := by decide +kernel
theorem dX6_event_29 : decode cX6_event 29 = .ok (.goto 13, 3) := by decide +kernel
theorem dX6_event_32 : decode cX6_event 32 = .ok (.aload_n 0, 1) := by decide +kernel
theorem dX6_event_33 : decode cX6_event 33 = .ok (.getfield 59, 3) := by decide +kernel
theorem dX6_event_36 : decode cX6_event 36 = .ok (.iconst 5, 1) := by decide +kernel
theorem dX6_event_37 : decode cX6_event 37 = .ok (.iload_n 1, 1) := by decide +kernel
theorem dX6_event_38 : decode cX6_event 38 = .ok (.imul, 1) := by decide +kernel
theorem dX6_event_39 : decode cX6_event 39 = .ok (.iload_n 2, 1) := by decide +kernel
theorem dX6_event_40 : decode cX6_event 40 = .ok (.iadd, 1) := by decide +kernel
theorem dX6_event_41 : decode cX6_event 41 = .ok (.iaload, 1) := by decide +kernel
theorem dX6_event_42 : decode cX6_event 42 = .ok (.ireturn, 1) := by decide +kernel
end
section
theorem dJ9_max_7cf53_0 : decode cJ9_max_7cf53 0 = .ok (.iload_n 0, 1) := by decide +kernel
theorem dJ9_max_7cf53_1 : decode cJ9_max_7cf53 1 = .ok (.iload_n 1, 1) := by decide +kernel
theorem dJ9_max_7cf53_2 : decode cJ9_max_7cf53 2 = .ok (.if_icmp .lt 7, 3) := by decide +kernel
theorem dJ9_max_7cf53_5 : decode cJ9_max_7cf53 5 = .ok (.iload_n 0, 1) := by decide +kernel
theorem dJ9_max_7cf53_6 : decode cJ9_max_7cf53 6 = .ok (.goto 4, 3) := by decide +kernel
theorem dJ9_max_7cf53_9 : decode cJ9_max_7cf53 9 = .ok (.iload_n 1, 1) := by decide +kernel
theorem dJ9_max_7cf53_10 : decode cJ9_max_7cf53 10 = .ok (.ireturn, 1) := by decide +kernel
theorem dJ9_min_7cf53_0 : decode cJ9_min_7cf53 0 = .ok (.iload_n 0, 1) := by decide +kernel
theorem dJ9_min_7cf53_1 : decode cJ9_min_7cf53 1 = .ok (.iload_n 1, 1) := by decide +kernel
theorem dJ9_min_7cf53_2 : decode cJ9_min_7cf53 2 = .ok (.if_icmp .gt 7, 3) := by decide +kernel
theorem dJ9_min_7cf53_5 : decode cJ9_min_7cf53 5 = .ok (.iload_n 0, 1) := by decide +kernel
theorem dJ9_min_7cf53_6 : decode cJ9_min_7cf53 6 = .ok (.goto 4, 3) := by decide +kernel
theorem dJ9_min_7cf53_9 : decode cJ9_min_7cf53 9 = .ok (.iload_n 1, 1) := by decide +kernel
theorem dJ9_min_7cf53_10 : decode cJ9_min_7cf53 10 = .ok (.ireturn, 1) := by decide +kernel
theorem dJ7_fill_53178_0 : decode cJ7_fill_53178 0 = .ok (.iconst 0, 1) := by decide +kernel
theorem dJ7_fill_53178_1 : decode cJ7_fill_53178 1 = .ok (.istore_n 2, 1) := by decide +kernel
theorem dJ7_fill_53178_2 : decode cJ7_fill_53178 2 = .ok (.aload_n 0, 1) := by decide +kernel
theorem dJ7_fill_53178_3 : decode cJ7_fill_53178 3 = .ok (.arraylength, 1) := by decide +kernel
theorem dJ7_fill_53178_4 : decode cJ7_fill_53178 4 = .ok (.istore_n 3, 1) := by decide +kernel
theorem dJ7_fill_53178_5 : decode cJ7_fill_53178 5 = .ok (.iload_n 2, 1) := by decide +kernel
theorem dJ7_fill_53178_6 : decode cJ7_fill_53178 6 = .ok (.iload_n 3, 1) := by decide +kernel
theorem dJ7_fill_53178_7 : decode cJ7_fill_53178 7 = .ok (.if_icmp .ge 13, 3) := by decide +kernel
theorem dJ7_fill_53178_10 : decode cJ7_fill_53178 10 = .ok (.aload_n 0, 1) := by decide +kernel
theorem dJ7_fill_53178_11 : decode cJ7_fill_53178 11 = .ok (.iload_n 2, 1) := by decide +kernel
theorem dJ7_fill_53178_12 : decode cJ7_fill_53178 12 = .ok (.iload_n 1, 1) := by decide +kernel
theorem dJ7_fill_53178_13 : decode cJ7_fill_53178 13 = .ok (.iastore, 1) := by decide +kernel
theorem dJ7_fill_53178_14 : decode cJ7_fill_53178 14 = .ok (.iinc 2 1, 3) := by decide +kernel
theorem dJ7_fill_53178_17 : decode cJ7_fill_53178 17 = .ok (.goto (-12), 3) := by decide +kernel
theorem dJ7_fill_53178_20 : decode cJ7_fill_53178 20 = .ok (.return_, 1) := by decide +kernel
end
section
abbrev vwCl : List vw_C := [(RX0, TX0, 4), (RX1, TX1, 4), (RX2, TX2, 8), (RX3, TX3, 1), (RX4, TX4, 3), (RX5, TX5, 5), (RX6, TX6, 24)]
/-! helpers: starts and ends of contracts over a world, calls with the frame -/
/-- links to fields of nest mates: what the tables say of them, carried as a fact of the state -/
def jb_NL : List (String × Nat × String × String × String) := [(RX5, 57, "JoinBench$Table", "count", "I"), (RX5, 85, "JoinBench$Joiner", "left", "LJoinBench$Side;"), (RX5, 97, "JoinBench$Joiner", "right", "LJoinBench$Side;"), (RX0, 109, "JoinBench$Side", "isLeft", "Z"), (RX0, 40, "JoinBench$Side", "count", "I"), (RX2, 39, "JoinBench$Table", "count", "I"), (RX2, 42, "JoinBench$Table", "keys", "[I"), (RX2, 49, "JoinBench$Table", "values", "[I")]
def jb_N (U : State) : Prop := ∀ q ∈ jb_NL, va_Nw (.fieldLinkNest q.1 q.2.1 q.2.2.1 q.2.2.2.1 q.2.2.2.2 "JoinBench") U
theorem jb_N.calling {U : State} {g : JFrame} {mk : MethodId} {a : Array Value} (h : jb_N U) : jb_N (U.calling g mk a) := fun q hq => va_Nw.same rfl rfl (h q hq)
theorem jb_N.warm {s U : State} (hW : s.WarmedH U.vm) (h : jb_N s) : jb_N U := fun q hq => va_Nw.warmF hW (h q hq)
theorem jb_N.use {s : State} {args : Array Value} (h : jb_N s) {q : String × Nat × String × String × String} (hq : q ∈ jb_NL) : (Cond.fieldLinkNest q.1 q.2.1 q.2.2.1 q.2.2.2.1 q.2.2.2.2 "JoinBench").before args s = true := va_Nw.use rfl (h q hq)
/-- a start that is only read -/
def jb_R (dC : Nat → ClassId) (dI : Nat → Nat → Nat) (cI : ClassId) (ws : va_W) : State → Prop := fun U => va_P (dC, dI) vwCl ws U.heap ∧ va_K (dC, dI) vwCl [(cI, .int)] U ∧ jb_N U
theorem jb_R_blind {dC : Nat → ClassId} {dI : Nat → Nat → Nat} {cI : ClassId} {ws : va_W} {av : List Value} : FrameBlind (va_Pc av (jb_R dC dI cI ws)) := fun a U g mk q => ⟨q.1, q.2.1, va_K.moved (u := U) (U := U.calling g mk a) (Vm.Alike.refl U.vm) q.2.2.1, q.2.2.2.calling⟩
theorem jb_R_pre {dC : Nat → ClassId} {dI : Nat → Nat → Nat} {cI : ClassId} {ws : va_W} {av : List Value} {s : State} {H : Heap} (hP : va_P (dC, dI) vwCl ws H) (hK : va_K (dC, dI) vwCl [(cI, .int)] s) (hNw : jb_N s) : ∀ U : State, U.heap = H → s.WarmedH U.vm → va_Pc av (jb_R dC dI cI ws) av.toArray U := fun U hU hW => ⟨rfl, by rw [hU]; exact hP, va_K.moved hW.alike hK, hNw.warm hW⟩
/-- a start of which nothing is asked -/
def jb_Z : State → Prop := fun _ => True
theorem jb_Z_blind {av : List Value} : FrameBlind (va_Pc av jb_Z) := fun _ _ _ _ q => ⟨q.1, trivial⟩
theorem jb_Z_pre {av : List Value} {s : State} {H : Heap} : ∀ U : State, U.heap = H → s.WarmedH U.vm → va_Pc av jb_Z av.toArray U := fun _ _ _ => ⟨rfl, trivial⟩
/-- a start whose cells are written -/
def jb_M (dC : Nat → ClassId) (dI : Nat → Nat → Nat) (cI : ClassId) (sz : Nat) (ws : va_W) : State → Prop := fun U => U.heap.size = sz ∧ va_P (dC, dI) vwCl ws U.heap ∧ va_K (dC, dI) vwCl [(cI, .int)] U ∧ jb_N U ∧ va_D (fun _ => True) ws
theorem jb_M_blind {dC : Nat → ClassId} {dI : Nat → Nat → Nat} {cI : ClassId} {sz : Nat} {ws : va_W} {av : List Value} : FrameBlind (va_Pc av (jb_M dC dI cI sz ws)) := fun a U g mk q => ⟨q.1, q.2.1, q.2.2.1, va_K.moved (u := U) (U := U.calling g mk a) (Vm.Alike.refl U.vm) q.2.2.2.1, q.2.2.2.2.1.calling, q.2.2.2.2.2⟩
theorem jb_M_pre {dC : Nat → ClassId} {dI : Nat → Nat → Nat} {cI : ClassId} {ws : va_W} {av : List Value} {A : Nat → Prop} {s : State} {H : Heap} (hP : va_P (dC, dI) vwCl ws H) (hD : va_D A ws) (hK : va_K (dC, dI) vwCl [(cI, .int)] s) (hNw : jb_N s) : ∀ U : State, U.heap = H → s.WarmedH U.vm → va_Pc av (jb_M dC dI cI H.size ws) av.toArray U := fun U hU hW => ⟨rfl, by rw [hU], by rw [hU]; exact hP, va_K.moved hW.alike hK, hNw.warm hW, hD.weaken (fun _ _ _ _ => trivial)⟩
/-- the world behind a method -/
def jb_B {S : Type} (dC : Nat → ClassId) (dI : Nat → Nat → Nat) (A : Nat → Prop) (w1 : S → va_W) : S → State → Prop := fun u t => va_P (dC, dI) vwCl (w1 u) t.heap ∧ va_D A (w1 u)
theorem jb_cI {D : va_G} {cI cJ : ClassId} {s : State} (hK2 : va_K D vwCl ([(cI, .int)] ++ [(cJ, .int)]) s) (hK : va_K D vwCl [(cI, .int)] s) : cJ = cI :=
  Option.some.inj ((va_nm_int (hK2.2 1 _ rfl).2).symm.trans (va_nm_int (hK.2 0 _ rfl).2))
section JBC
variable {p : Program} {l : Launch} {e : Env} {R : Room} {s : State} {m : MethodId} {args : Array Value} {below : List Frame} {meth : Method} {c : Code} {H : Heap} {locs : List Loc} {cells slots : Nat} {Q : State → Prop}
variable {pc : Nat} {ls : Array Slot} {rest st0 : List Value} {a : Array Value} {A : Nat → Prop} {H0 : Heap} {mc ms : Nat} {dC : Nat → ClassId} {dI : Nat → Nat → Nat}
/-- a call that writes its own cells and answers an int -/
theorem jb_ci {S : Type} {post : Int32 → S → Prop} {w1 : S → va_W} {ws wc wr : va_W} (hr : va_Run p l e R s m args below meth c H locs cells slots mc ms (F0 m pc ls st0) rest (va_Qi post (jb_B dC dI (va_A wc H.size) w1) (va_A wc H.size) a) (va_A wc H.size)) (hP : va_P (dC, dI) vwCl ws H) (hD : va_D A ws) (hS : va_S A H0 H locs) (hA : ∀ q, H0.size ≤ q → A q) (isC isR : List Nat) (hC : isC.map (fun i => ws[i]?) = wc.map some) (hR : isR.map (fun i => ws[i]?) = wr.map some) (hn : va_nd isR = true) (hdis : ∀ i ∈ isR, i ∉ isC)
    (kk : ∀ (r : Int32) (u : S) (H1 : Heap) (locs1 : List Loc), post r u → va_P (dC, dI) vwCl (wr ++ w1 u) H1 → va_D A (wr ++ w1 u) → va_S A H0 H1 locs1 → W p l e R s m args below meth c H1 locs1 (cells + mc) (slots + ms) Q (F0 m (pc + 3) ls (.int r :: rest))) : W p l e R s m args below meth c H locs cells slots Q (F0 m pc ls st0) := by
  have hFc := va_free (wc := wc) hD hS hA isC hC
  refine va_calli hr hS (fun q _ h => hFc q h) hFc (fun r u t H1 locs1 ht hvm hw hB hz1 hk1 hS1 => ?_)
  obtain ⟨hP1, hD1⟩ := hB
  rw [ht] at hP1
  obtain ⟨hP2, hD2⟩ := va_join (wr := wr) (w1 := w1 u) hP hD isC isR hC hR hn hdis hk1 hFc hP1 hD1
  exact kk r u H1 locs1 hw hP2 hD2 hS1
/-- a call that writes its own cells and answers nothing -/
theorem jb_cv {S : Type} {post : S → Prop} {w1 : S → va_W} {ws wc wr : va_W} (hr : va_Run p l e R s m args below meth c H locs cells slots mc ms (F0 m pc ls st0) rest (va_Qv post (jb_B dC dI (va_A wc H.size) w1) (va_A wc H.size) a) (va_A wc H.size)) (hP : va_P (dC, dI) vwCl ws H) (hD : va_D A ws) (hS : va_S A H0 H locs) (hA : ∀ q, H0.size ≤ q → A q) (isC isR : List Nat) (hC : isC.map (fun i => ws[i]?) = wc.map some) (hR : isR.map (fun i => ws[i]?) = wr.map some) (hn : va_nd isR = true) (hdis : ∀ i ∈ isR, i ∉ isC)
    (kk : ∀ (u : S) (H1 : Heap) (locs1 : List Loc), post u → va_P (dC, dI) vwCl (wr ++ w1 u) H1 → va_D A (wr ++ w1 u) → va_S A H0 H1 locs1 → W p l e R s m args below meth c H1 locs1 (cells + mc) (slots + ms) Q (F0 m (pc + 3) ls rest)) : W p l e R s m args below meth c H locs cells slots Q (F0 m pc ls st0) := by
  have hFc := va_free (wc := wc) hD hS hA isC hC
  refine va_callv hr hS (fun q _ h => hFc q h) hFc (fun u t H1 locs1 ht hvm hw hB hz1 hk1 hS1 => ?_)
  obtain ⟨hP1, hD1⟩ := hB
  rw [ht] at hP1
  obtain ⟨hP2, hD2⟩ := va_join (wr := wr) (w1 := w1 u) hP hD isC isR hC hR hn hdis hk1 hFc hP1 hD1
  exact kk u H1 locs1 hw hP2 hD2 hS1
end JBC
/-- comparisons of small numbers -/
theorem jb_nlt {a b : Nat} (ha : a < 2 ^ 31) (hb : b < 2 ^ 31) : ¬ nI a < nI b ↔ b ≤ a := by rw [nI_ltI ha hb]; omega
theorem jb_nle {a b : Nat} (ha : a < 2 ^ 31) (hb : b < 2 ^ 31) : ¬ nI a ≤ nI b ↔ b < a := by rw [nI_leI ha hb]; omega
theorem jb_cl {n : Nat} (h : n < 2 ^ 31) : (nI n).toNatClampNeg = n := nI_clamp h
theorem jb_lit (n : Nat) : (OfNat.ofNat n : Int32) = nI n := rfl
theorem jb_arr0 (N : Nat) : ∀ cA : ClassId, vp_cell cA (N, .inl (fun _ => 0)) = arrV cA N (fun _ => defaultValue .int) := fun _ => rfl
end
section
/-! PER, MEMORY, PARTINGS: the class JoinBench$Sizes (X3) -/
/-- what 'now' holds -/
def jb_now (per mem par : Nat) : Nat → Int32 := fun k => if k = 0 then nI per else if k = 1 then nI mem else nI par
/-- pages of n rows -/
def jb_pg (per n : Nat) : Nat := (n + per - 1) / per
/-- the hash -/
def jb_hash (key lv : Int32) : Int32 :=
  let h1 := key * (-1640531527) + lv * 1013904243
  let h2 := h1 ^^^ (h1.toUInt32 >>> ((15 : Int32).toUInt32 &&& Int32.toUInt32 31)).toInt32
  let h3 := h2 * (-2048144777)
  h3 ^^^ (h3.toUInt32 >>> ((13 : Int32).toUInt32 &&& Int32.toUInt32 31)).toInt32
/-- the part of a key at a level -/
def jb_pt (mem : Nat) (key lv : Int32) : Nat := (jb_hash key lv).toBitVec.toNat % (mem - 1)
theorem jb_un (h : Int32) : h.toInt64 &&& 4294967295 = lN h.toBitVec.toNat := by
  apply Int64.toBitVec_inj.mp
  have hb : (lN h.toBitVec.toNat).toBitVec = BitVec.ofNat 64 h.toBitVec.toNat := by
    show (Int64.ofNat _).toBitVec = _
    rfl
  rw [hb]
  show h.toInt64.toBitVec &&& 4294967295#64 = _
  have hs : h.toInt64.toBitVec = h.toBitVec.signExtend 64 := rfl
  rw [hs]
  generalize h.toBitVec = x
  apply BitVec.eq_of_getElem_eq
  intro i hi
  have h2 : (BitVec.ofNat 64 x.toNat) = x.setWidth 64 := by
    apply BitVec.eq_of_toNat_eq
    simp [BitVec.toNat_setWidth]
  rw [h2]
  by_cases hlt : i < 32
  · have hm : (4294967295#64).getLsbD i = true := by
      have : ∀ j, j < 32 → (4294967295#64).getLsbD j = true := by decide
      exact this i hlt
    simp [BitVec.getLsbD_signExtend, hlt, hi, BitVec.getElem_setWidth, ← BitVec.getLsbD_eq_getElem, hm]
  · have hm : (4294967295#64).getLsbD i = false := by
      have : ∀ j, j < 64 → ¬ j < 32 → (4294967295#64).getLsbD j = false := by decide
      exact this i hi hlt
    have h3 : x.getLsbD i = false := BitVec.getLsbD_of_ge x i (by omega)
    simp [BitVec.getElem_setWidth, ← BitVec.getLsbD_eq_getElem, hm, h3]
theorem jb_nmul (a b : Nat) : nI a * nI b = nI (a * b) := by
  unfold nI
  exact (Int32.ofNat_mul a b).symm
theorem jb_pgpos {per n : Nat} (h1 : 1 ≤ per) (hn : n < 1000000) (hp : per ≤ 16) : (nI n + nI per - 1) / nI per = nI (jb_pg per n) := by
  have e1 : nI n + nI per - 1 = nI (n + per - 1) := by
    rw [nI_add, show (1 : Int32) = nI 1 from rfl, pk_sub (by omega)]
  rw [e1, pk_div (by omega) (by omega) (by omega)]
  rfl
theorem iX3_memory_X3 : ∀ w ∈ wsX30, w ∈ wsX3_memory := by decide +kernel
set_option maxHeartbeats 1000000 in
set_option maxRecDepth 100000 in
/-- Sizes.memory() -/
theorem c_memory (l : Launch) (dC : Nat → ClassId) (dI : Nat → Nat → Nat) (cI : ClassId) (aS aN per mem par : Nat) : Met l yX3_memory wsX3_memory ({ frames := 2, cells := 0, slots := 0, locals := 80 } : Room) (va_Pc [.ref aS] (jb_R dC dI cI [(aS, .inr (3, [.ref aN])), (aN, .inl (cI, 3, .inl (jb_now per mem par)))])) (vp_Si (fun r => r = nI mem)) 0 0 (fun _ => False) := by
  refine Met.ofW (cc := cX3_memory) (maxL := 1) (ret := (some .int)) (by decide) rfl ?_
  intro p e s m args below meth c s₁ B hml hv
  obtain ⟨rfl, hP, hK, hNw⟩ := hv
  have hx := B.exec
  have hb := B.bytes
  have hr := B.returns
  have hts := atoms_spec (ws := wsX3_memory) B.pre
  have hown : s.vm.findClass RX3 = some m.cls := findClass_of_methodNamed B.named
  have hlocks := B.notSynchronized
  have hl := lv_entry ([.ref aS]) (n := 1) (Nat.le_of_ble_eq_true rfl)
  rw [lg_entry_eq]
  generalize (lg_sl ([.ref aS]) ++ List.replicate (1 - (lg_sl ([.ref aS])).length) Slot.unset).toArray = ls at hl ⊢
  have hl : lv_has ls 1 [(0, .ref aS)] := hl
  refine lv_aload_n hx hb dX3_memory_0 rfl (lv_at hl 0 rfl) ?_
  refine va_get (D := (dC, dI)) (ci := 3) (v := .ref aN) (C := RX3) (T := TX3) (N := 1) hx hb hts iX3_memory_X3 hown hK hP 0 rfl rfl 0 (by decide) (hts (.fieldLink RX3 20 "JoinBench$Sizes" "now" "[I") (by decide +kernel)) (fun _ h9 => h9) rfl dX3_memory_1 ?_
  refine lv_iconst (v := 1) hx hb dX3_memory_4 (by decide) ?_
  refine va_iald hx hb hK hP 1 0 rfl rfl (i := 1) (by unfold vp_in; decide) dX3_memory_5 ?_
  refine lv_topi (fun v_1 ev_1 => ?_)
  have hv_1 : v_1 = nI mem := ev_1.trans (rfl)
  clear ev_1; subst hv_1
  exact W.iret (v := nI mem) hx hb hr (fun t ht hW => ⟨_, rfl, rfl, ht⟩) (fun _ h => by cases h) dX3_memory_6
theorem iX3_partings_X3 : ∀ w ∈ wsX30, w ∈ wsX3_partings := by decide +kernel
set_option maxHeartbeats 1000000 in
set_option maxRecDepth 100000 in
/-- Sizes.partings() -/
theorem c_partings (l : Launch) (dC : Nat → ClassId) (dI : Nat → Nat → Nat) (cI : ClassId) (aS aN per mem par : Nat) : Met l yX3_partings wsX3_partings ({ frames := 2, cells := 0, slots := 0, locals := 80 } : Room) (va_Pc [.ref aS] (jb_R dC dI cI [(aS, .inr (3, [.ref aN])), (aN, .inl (cI, 3, .inl (jb_now per mem par)))])) (vp_Si (fun r => r = nI par)) 0 0 (fun _ => False) := by
  refine Met.ofW (cc := cX3_partings) (maxL := 1) (ret := (some .int)) (by decide) rfl ?_
  intro p e s m args below meth c s₁ B hml hv
  obtain ⟨rfl, hP, hK, hNw⟩ := hv
  have hx := B.exec
  have hb := B.bytes
  have hr := B.returns
  have hts := atoms_spec (ws := wsX3_partings) B.pre
  have hown : s.vm.findClass RX3 = some m.cls := findClass_of_methodNamed B.named
  have hlocks := B.notSynchronized
  have hl := lv_entry ([.ref aS]) (n := 1) (Nat.le_of_ble_eq_true rfl)
  rw [lg_entry_eq]
  generalize (lg_sl ([.ref aS]) ++ List.replicate (1 - (lg_sl ([.ref aS])).length) Slot.unset).toArray = ls at hl ⊢
  have hl : lv_has ls 1 [(0, .ref aS)] := hl
  refine lv_aload_n hx hb dX3_partings_0 rfl (lv_at hl 0 rfl) ?_
  refine va_get (D := (dC, dI)) (ci := 3) (v := .ref aN) (C := RX3) (T := TX3) (N := 1) hx hb hts iX3_partings_X3 hown hK hP 0 rfl rfl 0 (by decide) (hts (.fieldLink RX3 20 "JoinBench$Sizes" "now" "[I") (by decide +kernel)) (fun _ h9 => h9) rfl dX3_partings_1 ?_
  refine lv_iconst (v := 2) hx hb dX3_partings_4 (by decide) ?_
  refine va_iald hx hb hK hP 1 0 rfl rfl (i := 2) (by unfold vp_in; decide) dX3_partings_5 ?_
  refine lv_topi (fun v_1 ev_1 => ?_)
  have hv_1 : v_1 = nI par := ev_1.trans (rfl)
  clear ev_1; subst hv_1
  exact W.iret (v := nI par) hx hb hr (fun t ht hW => ⟨_, rfl, rfl, ht⟩) (fun _ h => by cases h) dX3_partings_6
theorem iX3_parts_X3 : ∀ w ∈ wsX30, w ∈ wsX3_parts := by decide +kernel
set_option maxHeartbeats 1000000 in
set_option maxRecDepth 100000 in
/-- Sizes.parts() -/
theorem c_parts (l : Launch) (dC : Nat → ClassId) (dI : Nat → Nat → Nat) (cI : ClassId) (aS aN per mem par : Nat) (hm : 3 ≤ mem) : Met l yX3_parts wsX3_parts ({ frames := 2, cells := 0, slots := 0, locals := 80 } : Room) (va_Pc [.ref aS] (jb_R dC dI cI [(aS, .inr (3, [.ref aN])), (aN, .inl (cI, 3, .inl (jb_now per mem par)))])) (vp_Si (fun r => r = nI (mem - 1))) 0 0 (fun _ => False) := by
  refine Met.ofW (cc := cX3_parts) (maxL := 1) (ret := (some .int)) (by decide) rfl ?_
  intro p e s m args below meth c s₁ B hml hv
  obtain ⟨rfl, hP, hK, hNw⟩ := hv
  have hx := B.exec
  have hb := B.bytes
  have hr := B.returns
  have hts := atoms_spec (ws := wsX3_parts) B.pre
  have hown : s.vm.findClass RX3 = some m.cls := findClass_of_methodNamed B.named
  have hlocks := B.notSynchronized
  have hl := lv_entry ([.ref aS]) (n := 1) (Nat.le_of_ble_eq_true rfl)
  rw [lg_entry_eq]
  generalize (lg_sl ([.ref aS]) ++ List.replicate (1 - (lg_sl ([.ref aS])).length) Slot.unset).toArray = ls at hl ⊢
  have hl : lv_has ls 1 [(0, .ref aS)] := hl
  refine lv_aload_n hx hb dX3_parts_0 rfl (lv_at hl 0 rfl) ?_
  refine va_get (D := (dC, dI)) (ci := 3) (v := .ref aN) (C := RX3) (T := TX3) (N := 1) hx hb hts iX3_parts_X3 hown hK hP 0 rfl rfl 0 (by decide) (hts (.fieldLink RX3 20 "JoinBench$Sizes" "now" "[I") (by decide +kernel)) (fun _ h9 => h9) rfl dX3_parts_1 ?_
  refine lv_iconst (v := 1) hx hb dX3_parts_4 (by decide) ?_
  refine va_iald hx hb hK hP 1 0 rfl rfl (i := 1) (by unfold vp_in; decide) dX3_parts_5 ?_
  refine lv_topi (fun v_1 ev_1 => ?_)
  have hv_1 : v_1 = nI mem := ev_1.trans (rfl)
  clear ev_1; subst hv_1
  refine lv_iconst (v := 1) hx hb dX3_parts_6 (by decide) ?_
  refine lv_isub hx hb dX3_parts_7 ?_
  refine lv_topi (fun v_2 ev_2 => ?_)
  have hv_2 : v_2 = nI (mem - 1) := ev_2.trans (pk_sub (a := mem) (b := 1) (by omega))
  clear ev_2; subst hv_2
  exact W.iret (v := nI (mem - 1)) hx hb hr (fun t ht hW => ⟨_, rfl, rfl, ht⟩) (fun _ h => by cases h) dX3_parts_8
theorem iX3_blockPages_X3 : ∀ w ∈ wsX30, w ∈ wsX3_blockPages := by decide +kernel
set_option maxHeartbeats 1000000 in
set_option maxRecDepth 100000 in
/-- Sizes.blockPages() -/
theorem c_blockPages (l : Launch) (dC : Nat → ClassId) (dI : Nat → Nat → Nat) (cI : ClassId) (aS aN per mem par : Nat) (hm : 3 ≤ mem) : Met l yX3_blockPages wsX3_blockPages ({ frames := 2, cells := 0, slots := 0, locals := 80 } : Room) (va_Pc [.ref aS] (jb_R dC dI cI [(aS, .inr (3, [.ref aN])), (aN, .inl (cI, 3, .inl (jb_now per mem par)))])) (vp_Si (fun r => r = nI (mem - 2))) 0 0 (fun _ => False) := by
  refine Met.ofW (cc := cX3_blockPages) (maxL := 1) (ret := (some .int)) (by decide) rfl ?_
  intro p e s m args below meth c s₁ B hml hv
  obtain ⟨rfl, hP, hK, hNw⟩ := hv
  have hx := B.exec
  have hb := B.bytes
  have hr := B.returns
  have hts := atoms_spec (ws := wsX3_blockPages) B.pre
  have hown : s.vm.findClass RX3 = some m.cls := findClass_of_methodNamed B.named
  have hlocks := B.notSynchronized
  have hl := lv_entry ([.ref aS]) (n := 1) (Nat.le_of_ble_eq_true rfl)
  rw [lg_entry_eq]
  generalize (lg_sl ([.ref aS]) ++ List.replicate (1 - (lg_sl ([.ref aS])).length) Slot.unset).toArray = ls at hl ⊢
  have hl : lv_has ls 1 [(0, .ref aS)] := hl
  refine lv_aload_n hx hb dX3_blockPages_0 rfl (lv_at hl 0 rfl) ?_
  refine va_get (D := (dC, dI)) (ci := 3) (v := .ref aN) (C := RX3) (T := TX3) (N := 1) hx hb hts iX3_blockPages_X3 hown hK hP 0 rfl rfl 0 (by decide) (hts (.fieldLink RX3 20 "JoinBench$Sizes" "now" "[I") (by decide +kernel)) (fun _ h9 => h9) rfl dX3_blockPages_1 ?_
  refine lv_iconst (v := 1) hx hb dX3_blockPages_4 (by decide) ?_
  refine va_iald hx hb hK hP 1 0 rfl rfl (i := 1) (by unfold vp_in; decide) dX3_blockPages_5 ?_
  refine lv_topi (fun v_1 ev_1 => ?_)
  have hv_1 : v_1 = nI mem := ev_1.trans (rfl)
  clear ev_1; subst hv_1
  refine lv_iconst (v := 2) hx hb dX3_blockPages_6 (by decide) ?_
  refine lv_isub hx hb dX3_blockPages_7 ?_
  refine lv_topi (fun v_2 ev_2 => ?_)
  have hv_2 : v_2 = nI (mem - 2) := ev_2.trans (pk_sub (a := mem) (b := 2) (by omega))
  clear ev_2; subst hv_2
  exact W.iret (v := nI (mem - 2)) hx hb hr (fun t ht hW => ⟨_, rfl, rfl, ht⟩) (fun _ h => by cases h) dX3_blockPages_8
theorem iX3_blockRows_X3 : ∀ w ∈ wsX30, w ∈ wsX3_blockRows := by decide +kernel
set_option maxHeartbeats 1000000 in
set_option maxRecDepth 100000 in
/-- Sizes.blockRows() -/
theorem c_blockRows (l : Launch) (dC : Nat → ClassId) (dI : Nat → Nat → Nat) (cI : ClassId) (aS aN per mem par : Nat) (hm : 3 ≤ mem) : Met l yX3_blockRows wsX3_blockRows ({ frames := 3, cells := 0, slots := 0, locals := 120 } : Room) (va_Pc [.ref aS] (jb_R dC dI cI [(aS, .inr (3, [.ref aN])), (aN, .inl (cI, 3, .inl (jb_now per mem par)))])) (vp_Si (fun r => r = nI ((mem - 2) * per))) 0 0 (fun _ => False) := by
  refine Met.ofW (cc := cX3_blockRows) (maxL := 1) (ret := (some .int)) (by decide) rfl ?_
  intro p e s m args below meth c s₁ B hml hv
  obtain ⟨rfl, hP, hK, hNw⟩ := hv
  have hx := B.exec
  have hb := B.bytes
  have hr := B.returns
  have hts := atoms_spec (ws := wsX3_blockRows) B.pre
  have hown : s.vm.findClass RX3 = some m.cls := findClass_of_methodNamed B.named
  have hlocks := B.notSynchronized
  have hl := lv_entry ([.ref aS]) (n := 1) (Nat.le_of_ble_eq_true rfl)
  rw [lg_entry_eq]
  generalize (lg_sl ([.ref aS]) ++ List.replicate (1 - (lg_sl ([.ref aS])).length) Slot.unset).toArray = ls at hl ⊢
  have hl : lv_has ls 1 [(0, .ref aS)] := hl
  refine lv_aload_n hx hb dX3_blockRows_0 rfl (lv_at hl 0 rfl) ?_
  refine vp_callSi (va_runV (As := []) (rest := []) ⟨hx, hb, hml, hown, hts⟩ (c_blockPages l dC dI cI aS aN per mem par hm) (cwV 0 hts gX3_blockRows_X3_blockPages rfl rfl rfl (by decide +kernel) ⟨(by decide +kernel), (by decide +kernel)⟩)  ⟨jb_R_blind, va_recv hK hP (ci := 3) (q0 := 0) rfl rfl, jb_R_pre (hP.sub (ws' := [(aS, .inr (3, [.ref aN])), (aN, .inl (cI, 3, .inl (jb_now per mem par)))]) [0, 1] rfl) hK hNw⟩ rfl rfl hl.1 rfl (lv_room (Nat.le_of_ble_eq_true rfl)) dX3_blockRows_1 ⟨by decide +kernel, by decide +kernel⟩).run (fun r_1 hr_1 => ?_)
  subst hr_1
  refine lv_aload_n hx hb dX3_blockRows_4 rfl (lv_at hl 0 rfl) ?_
  refine va_get (D := (dC, dI)) (ci := 3) (v := .ref aN) (C := RX3) (T := TX3) (N := 1) hx hb hts iX3_blockRows_X3 hown hK hP 0 rfl rfl 0 (by decide) (hts (.fieldLink RX3 20 "JoinBench$Sizes" "now" "[I") (by decide +kernel)) (fun _ h9 => h9) rfl dX3_blockRows_5 ?_
  refine lv_iconst (v := 0) hx hb dX3_blockRows_8 (by decide) ?_
  refine va_iald hx hb hK hP 1 0 rfl rfl (i := 0) (by unfold vp_in; decide) dX3_blockRows_9 ?_
  refine lv_topi (fun v_2 ev_2 => ?_)
  have hv_2 : v_2 = nI per := ev_2.trans (rfl)
  clear ev_2; subst hv_2
  refine lv_imul hx hb dX3_blockRows_10 ?_
  refine lv_topi (fun v_3 ev_3 => ?_)
  have hv_3 : v_3 = nI ((mem - 2) * per) := ev_3.trans (jb_nmul _ _)
  clear ev_3; subst hv_3
  exact W.iret (v := nI ((mem - 2) * per)) hx hb hr (fun t ht hW => ⟨_, rfl, rfl, ht⟩) (fun _ h => by cases h) dX3_blockRows_11
theorem iX3_pagesFor_X3 : ∀ w ∈ wsX30, w ∈ wsX3_pagesFor := by decide +kernel
set_option maxHeartbeats 1000000 in
set_option maxRecDepth 100000 in
/-- Sizes.pagesFor(rows) -/
theorem c_pagesFor (l : Launch) (dC : Nat → ClassId) (dI : Nat → Nat → Nat) (cI : ClassId) (aS aN per mem par : Nat) (n : Nat) (h1 : 1 ≤ per) (hn : n < 1000000) (hp : per ≤ 16) : Met l yX3_pagesFor wsX3_pagesFor ({ frames := 2, cells := 0, slots := 0, locals := 80 } : Room) (va_Pc [.ref aS, .int (nI n)] (jb_R dC dI cI [(aS, .inr (3, [.ref aN])), (aN, .inl (cI, 3, .inl (jb_now per mem par)))])) (vp_Si (fun r => r = nI (jb_pg per n))) 0 0 (fun _ => False) := by
  refine Met.ofW (cc := cX3_pagesFor) (maxL := 3) (ret := (some .int)) (by decide) rfl ?_
  intro p e s m args below meth c s₁ B hml hv
  obtain ⟨rfl, hP, hK, hNw⟩ := hv
  have hx := B.exec
  have hb := B.bytes
  have hr := B.returns
  have hts := atoms_spec (ws := wsX3_pagesFor) B.pre
  have hown : s.vm.findClass RX3 = some m.cls := findClass_of_methodNamed B.named
  have hlocks := B.notSynchronized
  have hl := lv_entry ([.ref aS, .int (nI n)]) (n := 3) (Nat.le_of_ble_eq_true rfl)
  rw [lg_entry_eq]
  generalize (lg_sl ([.ref aS, .int (nI n)]) ++ List.replicate (3 - (lg_sl ([.ref aS, .int (nI n)])).length) Slot.unset).toArray = ls at hl ⊢
  have hl : lv_has ls 3 [(0, .ref aS), (1, .int (nI n))] := hl
  refine lv_aload_n hx hb dX3_pagesFor_0 rfl (lv_at hl 0 rfl) ?_
  refine va_get (D := (dC, dI)) (ci := 3) (v := .ref aN) (C := RX3) (T := TX3) (N := 1) hx hb hts iX3_pagesFor_X3 hown hK hP 0 rfl rfl 0 (by decide) (hts (.fieldLink RX3 20 "JoinBench$Sizes" "now" "[I") (by decide +kernel)) (fun _ h9 => h9) rfl dX3_pagesFor_1 ?_
  refine lv_iconst (v := 0) hx hb dX3_pagesFor_4 (by decide) ?_
  refine va_iald hx hb hK hP 1 0 rfl rfl (i := 0) (by unfold vp_in; decide) dX3_pagesFor_5 ?_
  refine lv_topi (fun v_1 ev_1 => ?_)
  have hv_1 : v_1 = nI per := ev_1.trans (rfl)
  clear ev_1; subst hv_1
  refine lv_istore_n (lv' := [(2, .int (nI per)), (0, .ref aS), (1, .int (nI n))]) hx hb dX3_pagesFor_6 rfl hl (by decide) rfl (fun ls hl => ?_)
  refine lv_iload_n hx hb dX3_pagesFor_7 rfl (lv_at hl 0 rfl) ?_
  refine lv_iconst (v := 1) hx hb dX3_pagesFor_8 (by decide) ?_
  refine lv_icmp_ge (tgt := 16) hx hb dX3_pagesFor_9 (by decide) (fun c_9 => ?_) (fun c_9 => ?_)
  · refine lv_iload_n hx hb dX3_pagesFor_16 rfl (lv_at hl 2 rfl) ?_
    refine lv_iload_n hx hb dX3_pagesFor_17 rfl (lv_at hl 0 rfl) ?_
    refine lv_iadd hx hb dX3_pagesFor_18 ?_
    refine lv_iconst (v := 1) hx hb dX3_pagesFor_19 (by decide) ?_
    refine lv_isub hx hb dX3_pagesFor_20 ?_
    refine lv_iload_n hx hb dX3_pagesFor_21 rfl (lv_at hl 0 rfl) ?_
    refine lv_idiv hx hb dX3_pagesFor_22 (nI_ne0 (by omega) (by omega)) ?_
    exact W.iret (v := (((nI n + nI per) - 1) / nI per)) hx hb hr (fun t ht hW => ⟨_, rfl, jb_pgpos h1 hn hp, ht⟩) (fun _ h => by cases h) dX3_pagesFor_23
  · exact absurd (nI_le h1 (by omega)) c_9
set_option maxHeartbeats 1000000 in
set_option maxRecDepth 100000 in
/-- Sizes.hashOf(key, level) -/
theorem c_hashOf (l : Launch) (key lv : Int32) : Met l yX3_hashOf wsX3_hashOf ({ frames := 2, cells := 0, slots := 0, locals := 80 } : Room) (va_Pc [.int key, .int lv] (jb_Z)) (vp_Si (fun r => r = jb_hash key lv)) 0 0 (fun _ => False) := by
  refine Met.ofW (cc := cX3_hashOf) (maxL := 3) (ret := (some .int)) (by decide) rfl ?_
  intro p e s m args below meth c s₁ B hml hv
  obtain ⟨rfl, -⟩ := hv
  have hx := B.exec
  have hb := B.bytes
  have hr := B.returns
  have hts := atoms_spec (ws := wsX3_hashOf) B.pre
  have hown : s.vm.findClass RX3 = some m.cls := findClass_of_methodNamed B.named
  have hlocks := B.notSynchronized
  have hl := lv_entry ([.int key, .int lv]) (n := 3) (Nat.le_of_ble_eq_true rfl)
  rw [lg_entry_eq]
  generalize (lg_sl ([.int key, .int lv]) ++ List.replicate (3 - (lg_sl ([.int key, .int lv])).length) Slot.unset).toArray = ls at hl ⊢
  have hl : lv_has ls 3 [(0, .int key), (1, .int lv)] := hl
  refine lv_iload_n hx hb dX3_hashOf_0 rfl (lv_at hl 0 rfl) ?_
  refine lv_ldc (v := (-1640531527)) hx hb hown (hts (.constant RX3 42 (-1640531527)) (by decide +kernel)) dX3_hashOf_1 ?_
  refine lv_imul hx hb dX3_hashOf_3 ?_
  refine lv_iload_n hx hb dX3_hashOf_4 rfl (lv_at hl 1 rfl) ?_
  refine lv_ldc (v := 1013904243) hx hb hown (hts (.constant RX3 43 (1013904243)) (by decide +kernel)) dX3_hashOf_5 ?_
  refine lv_imul hx hb dX3_hashOf_7 ?_
  refine lv_iadd hx hb dX3_hashOf_8 ?_
  refine lv_istore_n (lv' := [(2, .int ((key * (-1640531527)) + (lv * 1013904243))), (0, .int key), (1, .int lv)]) hx hb dX3_hashOf_9 rfl hl (by decide) rfl (fun ls hl => ?_)
  refine lv_iload_n hx hb dX3_hashOf_10 rfl (lv_at hl 0 rfl) ?_
  refine lv_iload_n hx hb dX3_hashOf_11 rfl (lv_at hl 0 rfl) ?_
  refine lv_bipush (v := 15) hx hb dX3_hashOf_12 (by decide) ?_
  refine lv_iushr hx hb dX3_hashOf_14 rfl ?_
  refine lv_ixor hx hb dX3_hashOf_15 ?_
  refine lv_istore_n (lv' := [(2, .int (((key * (-1640531527)) + (lv * 1013904243)) ^^^ (((key * (-1640531527)) + (lv * 1013904243)).toUInt32 >>> ((15 : Int32).toUInt32 &&& Int32.toUInt32 31)).toInt32)), (0, .int key), (1, .int lv)]) hx hb dX3_hashOf_16 rfl hl (by decide) rfl (fun ls hl => ?_)
  refine lv_iload_n hx hb dX3_hashOf_17 rfl (lv_at hl 0 rfl) ?_
  refine lv_ldc (v := (-2048144777)) hx hb hown (hts (.constant RX3 44 (-2048144777)) (by decide +kernel)) dX3_hashOf_18 ?_
  refine lv_imul hx hb dX3_hashOf_20 ?_
  refine lv_istore_n (lv' := [(2, .int ((((key * (-1640531527)) + (lv * 1013904243)) ^^^ (((key * (-1640531527)) + (lv * 1013904243)).toUInt32 >>> ((15 : Int32).toUInt32 &&& Int32.toUInt32 31)).toInt32) * (-2048144777))), (0, .int key), (1, .int lv)]) hx hb dX3_hashOf_21 rfl hl (by decide) rfl (fun ls hl => ?_)
  refine lv_iload_n hx hb dX3_hashOf_22 rfl (lv_at hl 0 rfl) ?_
  refine lv_iload_n hx hb dX3_hashOf_23 rfl (lv_at hl 0 rfl) ?_
  refine lv_bipush (v := 13) hx hb dX3_hashOf_24 (by decide) ?_
  refine lv_iushr hx hb dX3_hashOf_26 rfl ?_
  refine lv_ixor hx hb dX3_hashOf_27 ?_
  exact W.iret (v := (((((key * (-1640531527)) + (lv * 1013904243)) ^^^ (((key * (-1640531527)) + (lv * 1013904243)).toUInt32 >>> ((15 : Int32).toUInt32 &&& Int32.toUInt32 31)).toInt32) * (-2048144777)) ^^^ (((((key * (-1640531527)) + (lv * 1013904243)) ^^^ (((key * (-1640531527)) + (lv * 1013904243)).toUInt32 >>> ((15 : Int32).toUInt32 &&& Int32.toUInt32 31)).toInt32) * (-2048144777)).toUInt32 >>> ((13 : Int32).toUInt32 &&& Int32.toUInt32 31)).toInt32)) hx hb hr (fun t ht hW => ⟨_, rfl, rfl, ht⟩) (fun _ h => by cases h) dX3_hashOf_28
set_option maxHeartbeats 1000000 in
set_option maxRecDepth 100000 in
/-- Sizes.partOf(key, level) -/
theorem c_partOf (l : Launch) (dC : Nat → ClassId) (dI : Nat → Nat → Nat) (cI : ClassId) (aS aN per mem par : Nat) (key lv : Int32) (hm : 3 ≤ mem) (hm2 : mem ≤ 20) : Met l yX3_partOf wsX3_partOf ({ frames := 4, cells := 0, slots := 0, locals := 160 } : Room) (va_Pc [.ref aS, .int key, .int lv] (jb_R dC dI cI [(aS, .inr (3, [.ref aN])), (aN, .inl (cI, 3, .inl (jb_now per mem par)))])) (vp_Si (fun r => r = nI (jb_pt mem key lv))) 0 0 (fun _ => False) := by
  refine Met.ofW (cc := cX3_partOf) (maxL := 6) (ret := (some .int)) (by decide) rfl ?_
  intro p e s m args below meth c s₁ B hml hv
  obtain ⟨rfl, hP, hK, hNw⟩ := hv
  have hx := B.exec
  have hb := B.bytes
  have hr := B.returns
  have hts := atoms_spec (ws := wsX3_partOf) B.pre
  have hown : s.vm.findClass RX3 = some m.cls := findClass_of_methodNamed B.named
  have hlocks := B.notSynchronized
  have hl := lv_entry ([.ref aS, .int key, .int lv]) (n := 6) (Nat.le_of_ble_eq_true rfl)
  rw [lg_entry_eq]
  generalize (lg_sl ([.ref aS, .int key, .int lv]) ++ List.replicate (6 - (lg_sl ([.ref aS, .int key, .int lv])).length) Slot.unset).toArray = ls at hl ⊢
  have hl : lv_has ls 6 [(0, .ref aS), (1, .int key), (2, .int lv)] := hl
  refine lv_iload_n hx hb dX3_partOf_0 rfl (lv_at hl 1 rfl) ?_
  refine lv_iload_n hx hb dX3_partOf_1 rfl (lv_at hl 2 rfl) ?_
  refine vp_callSi (va_runS (As := [.int key, .int lv]) (rest := []) ⟨hx, hb, hml, hown, hts⟩ (c_hashOf l key lv) (va_cwS 2 hts gX3_partOf_X3_hashOf rfl rfl rfl (by decide +kernel) ⟨(by decide +kernel), (by decide +kernel)⟩)  ⟨jb_Z_blind, jb_Z_pre⟩ rfl rfl hl.1 rfl (lv_room (Nat.le_of_ble_eq_true rfl)) dX3_partOf_2 ⟨by decide +kernel, by decide +kernel⟩).run (fun r_1 hr_1 => ?_)
  subst hr_1
  refine lv_i2l hx hb dX3_partOf_5 rfl ?_
  refine lv_ldc2 (v := 4294967295) hx hb hown (hts (.constantLong RX3 37 (4294967295)) (by decide +kernel)) dX3_partOf_6 ?_
  refine lv_land hx hb dX3_partOf_9 ?_
  refine lv_topl (fun un eun => ?_)
  have eun : un = lN (jb_hash key lv).toBitVec.toNat := eun.trans (jb_un _)
  refine lv_lstore_n (lv' := [(3, .long un), (0, .ref aS), (1, .int key), (2, .int lv)]) hx hb dX3_partOf_10 rfl hl (by decide) rfl (fun ls hl => ?_)
  refine lv_aload_n hx hb dX3_partOf_11 rfl (lv_at hl 1 rfl) ?_
  refine vp_callSi (va_runV (As := []) (rest := []) ⟨hx, hb, hml, hown, hts⟩ (c_parts l dC dI cI aS aN per mem par hm) (cwV 0 hts gX3_partOf_X3_parts rfl rfl rfl (by decide +kernel) ⟨(by decide +kernel), (by decide +kernel)⟩)  ⟨jb_R_blind, va_recv hK hP (ci := 3) (q0 := 0) rfl rfl, jb_R_pre (hP.sub (ws' := [(aS, .inr (3, [.ref aN])), (aN, .inl (cI, 3, .inl (jb_now per mem par)))]) [0, 1] rfl) hK hNw⟩ rfl rfl hl.1 rfl (lv_room (Nat.le_of_ble_eq_true rfl)) dX3_partOf_12 ⟨by decide +kernel, by decide +kernel⟩).run (fun r_2 hr_2 => ?_)
  subst hr_2
  refine lv_istore (lv' := [(5, .int (nI (mem - 1))), (3, .long un), (0, .ref aS), (1, .int key), (2, .int lv)]) hx hb dX3_partOf_15 hl (by decide) rfl (fun ls hl => ?_)
  refine lv_iload hx hb dX3_partOf_17 (lv_at hl 0 rfl) ?_
  refine lv_iconst (v := 1) hx hb dX3_partOf_19 (by decide) ?_
  refine lv_icmp_ge (tgt := 27) hx hb dX3_partOf_20 (by decide) (fun c_20 => ?_) (fun c_20 => ?_)
  · refine lv_lload_n hx hb dX3_partOf_27 rfl (lv_at hl 1 rfl) ?_
    refine lv_iload hx hb dX3_partOf_28 (lv_at hl 0 rfl) ?_
    refine lv_i2l hx hb dX3_partOf_30 rfl ?_
    refine lv_lrem hx hb dX3_partOf_31 (by rw [nI_l (by omega)]; intro h; have := (lN_eq (a := mem - 1) (b := 0) (by omega) (by omega)).mp h; omega) ?_
    refine lv_l2i hx hb dX3_partOf_32 rfl ?_
    exact W.iret (v := (un - un / (nI (mem - 1)).toInt64 * (nI (mem - 1)).toInt64).toInt32) hx hb hr (fun t ht hW => ⟨_, rfl, by rw [eun, nI_l (by omega), pk_lRem (by have := (jb_hash key lv).toBitVec.isLt; omega) (by omega) (by omega), lN_i]; rfl, ht⟩) (fun _ h => by cases h) dX3_partOf_33
  · exact absurd (nI_le (a := 1) (b := mem - 1) (by omega) (by omega)) c_20
end
section
/-! a table as rows come and go: the class JoinBench$Table (X4) -/
def jb_addA (n : Nat) (K : Nat → Int32) (x : Int32) : Nat → Int32 := if n < 500 then upd K n x else K
def jb_addN (n : Nat) : Nat := if n < 500 then n + 1 else n
def jb_addR (n : Nat) : Int32 := if n < 500 then nI (n + 1) else -2
/-- is so many there to drop? -/
def jb_dropN (n : Nat) (k : Int32) : Nat := if k < 0 ∨ nI n < k then n else n - k.toNatClampNeg
def jb_dropR (n : Nat) (k : Int32) : Int32 := if k < 0 ∨ nI n < k then -1 else nI (n - k.toNatClampNeg)
theorem iX4_add_X4 : ∀ w ∈ wsX40, w ∈ wsX4_add := by decide +kernel
set_option maxHeartbeats 1000000 in
set_option maxRecDepth 100000 in
/-- Table.add(key, value) -/
theorem c_add (l : Launch) (dC : Nat → ClassId) (dI : Nat → Nat → Nat) (cI : ClassId) (sz : Nat) (hT hK1 hV1 : Nat) (K V : Nat → Int32) (n : Nat) (x y : Int32) (hn : n ≤ 500) : Met l yX4_add wsX4_add ({ frames := 1, cells := 0, slots := 0, locals := 40 } : Room) (va_Pc [.ref hT, .int x, .int y] (jb_M dC dI cI sz [(hT, .inr (4, [.ref hK1, .ref hV1, .int (nI n)])), (hK1, .inl (cI, 500, .inl K)), (hV1, .inl (cI, 500, .inl V))])) (va_Qi (fun r (_ : Unit) => r = jb_addR n) (jb_B dC dI (va_A [(hT, .inr (4, [.ref hK1, .ref hV1, .int (nI n)])), (hK1, .inl (cI, 500, .inl K)), (hV1, .inl (cI, 500, .inl V))] sz) (fun _ => [(hT, .inr (4, [.ref hK1, .ref hV1, .int (nI (jb_addN n))])), (hK1, .inl (cI, 500, .inl (jb_addA n K x))), (hV1, .inl (cI, 500, .inl (jb_addA n V y)))])) (va_A [(hT, .inr (4, [.ref hK1, .ref hV1, .int (nI n)])), (hK1, .inl (cI, 500, .inl K)), (hV1, .inl (cI, 500, .inl V))] sz)) 0 0 (va_A [(hT, .inr (4, [.ref hK1, .ref hV1, .int (nI n)])), (hK1, .inl (cI, 500, .inl K)), (hV1, .inl (cI, 500, .inl V))] sz) := by
  refine Met.ofW (cc := cX4_add) (maxL := 3) (ret := (some .int)) (by decide) rfl ?_
  intro p e s m args below meth c s₁ B hml hv
  obtain ⟨rfl, hsz, hP, hK, hNw, hD0⟩ := hv
  have hx := B.exec
  have hb := B.bytes
  have hr := B.returns
  have hts := atoms_spec (ws := wsX4_add) B.pre
  have hown : s.vm.findClass RX4 = some m.cls := findClass_of_methodNamed B.named
  have hlocks := B.notSynchronized
  subst hsz
  have hD := hD0.self (sz := s.heap.size)
  generalize hAe : va_A [(hT, .inr (4, [.ref hK1, .ref hV1, .int (nI n)])), (hK1, .inl (cI, 500, .inl K)), (hV1, .inl (cI, 500, .inl V))] s.heap.size = A at hD ⊢
  have hA : ∀ q : Nat, s.heap.size ≤ q → A q := fun q h => by rw [← hAe]; exact Or.inr h
  have hS : va_S A s.heap s.heap [] := va_S.rf
  have hP : va_P (dC, dI) vwCl [(hT, .inr (4, [.ref hK1, .ref hV1, .int (nI n)])), (hK1, .inl (cI, 500, .inl K)), (hV1, .inl (cI, 500, .inl V))] s.heap := hP
  have hl := lv_entry ([.ref hT, .int x, .int y]) (n := 3) (Nat.le_of_ble_eq_true rfl)
  rw [lg_entry_eq]
  generalize (lg_sl ([.ref hT, .int x, .int y]) ++ List.replicate (3 - (lg_sl ([.ref hT, .int x, .int y])).length) Slot.unset).toArray = ls at hl ⊢
  have hl : lv_has ls 3 [(0, .ref hT), (1, .int x), (2, .int y)] := hl
  refine lv_aload_n hx hb dX4_add_0 rfl (lv_at hl 0 rfl) ?_
  refine va_get (D := (dC, dI)) (ci := 4) (v := .int (nI n)) (C := RX4) (T := TX4) (N := 3) hx hb hts iX4_add_X4 hown hK hP 0 rfl rfl 2 (by decide) (hts (.fieldLink RX4 18 "JoinBench$Table" "count" "I") (by decide +kernel)) (fun _ h9 => h9) rfl dX4_add_1 ?_
  refine lv_sipush (v := 500) hx hb dX4_add_4 (by decide) ?_
  refine lv_icmp_lt (tgt := 13) hx hb dX4_add_7 (by decide) (fun c_7 => ?_) (fun c_7 => ?_)
  · have hlt : n < 500 := (nI_ltI (by omega) (by decide)).mp c_7
    refine lv_aload_n hx hb dX4_add_13 rfl (lv_at hl 0 rfl) ?_
    refine va_get (D := (dC, dI)) (ci := 4) (v := .ref hK1) (C := RX4) (T := TX4) (N := 3) hx hb hts iX4_add_X4 hown hK hP 0 rfl rfl 0 (by decide) (hts (.fieldLink RX4 9 "JoinBench$Table" "keys" "[I") (by decide +kernel)) (fun _ h9 => h9) rfl dX4_add_14 ?_
    refine lv_aload_n hx hb dX4_add_17 rfl (lv_at hl 0 rfl) ?_
    refine va_get (D := (dC, dI)) (ci := 4) (v := .int (nI n)) (C := RX4) (T := TX4) (N := 3) hx hb hts iX4_add_X4 hown hK hP 0 rfl rfl 2 (by decide) (hts (.fieldLink RX4 18 "JoinBench$Table" "count" "I") (by decide +kernel)) (fun _ h9 => h9) rfl dX4_add_18 ?_
    refine lv_iload_n hx hb dX4_add_21 rfl (lv_at hl 1 rfl) ?_
    refine va_iast hx hb hK hP hD hS 1 0 rfl rfl (i := nI n) (x := x) (vp_in_nI hlt (by decide)) dX4_add_22 (fun H locs hP hD hS => ?_)
    rw [show (nI n : Int32).toNatClampNeg = n from nI_clamp (by omega)] at hP hD
    have hP : va_P (dC, dI) vwCl [(hT, .inr (4, [.ref hK1, .ref hV1, .int (nI n)])), (hK1, .inl (cI, 500, .inl (upd K n x))), (hV1, .inl (cI, 500, .inl V))] H := hP
    have hD : va_D A [(hT, .inr (4, [.ref hK1, .ref hV1, .int (nI n)])), (hK1, .inl (cI, 500, .inl (upd K n x))), (hV1, .inl (cI, 500, .inl V))] := hD
    refine lv_aload_n hx hb dX4_add_23 rfl (lv_at hl 0 rfl) ?_
    refine va_get (D := (dC, dI)) (ci := 4) (v := .ref hV1) (C := RX4) (T := TX4) (N := 3) hx hb hts iX4_add_X4 hown hK hP 0 rfl rfl 1 (by decide) (hts (.fieldLink RX4 15 "JoinBench$Table" "values" "[I") (by decide +kernel)) (fun _ h9 => h9) rfl dX4_add_24 ?_
    refine lv_aload_n hx hb dX4_add_27 rfl (lv_at hl 0 rfl) ?_
    refine va_get (D := (dC, dI)) (ci := 4) (v := .int (nI n)) (C := RX4) (T := TX4) (N := 3) hx hb hts iX4_add_X4 hown hK hP 0 rfl rfl 2 (by decide) (hts (.fieldLink RX4 18 "JoinBench$Table" "count" "I") (by decide +kernel)) (fun _ h9 => h9) rfl dX4_add_28 ?_
    refine lv_iload_n hx hb dX4_add_31 rfl (lv_at hl 2 rfl) ?_
    refine va_iast hx hb hK hP hD hS 2 0 rfl rfl (i := nI n) (x := y) (vp_in_nI hlt (by decide)) dX4_add_32 (fun H locs hP hD hS => ?_)
    rw [show (nI n : Int32).toNatClampNeg = n from nI_clamp (by omega)] at hP hD
    have hP : va_P (dC, dI) vwCl [(hT, .inr (4, [.ref hK1, .ref hV1, .int (nI n)])), (hK1, .inl (cI, 500, .inl (upd K n x))), (hV1, .inl (cI, 500, .inl (upd V n y)))] H := hP
    have hD : va_D A [(hT, .inr (4, [.ref hK1, .ref hV1, .int (nI n)])), (hK1, .inl (cI, 500, .inl (upd K n x))), (hV1, .inl (cI, 500, .inl (upd V n y)))] := hD
    refine lv_aload_n hx hb dX4_add_33 rfl (lv_at hl 0 rfl) ?_
    refine lv_dup hx hb dX4_add_34 rfl ?_
    refine va_get (D := (dC, dI)) (ci := 4) (v := .int (nI n)) (C := RX4) (T := TX4) (N := 3) hx hb hts iX4_add_X4 hown hK hP 0 rfl rfl 2 (by decide) (hts (.fieldLink RX4 18 "JoinBench$Table" "count" "I") (by decide +kernel)) (fun _ h9 => h9) rfl dX4_add_35 ?_
    refine lv_iconst (v := 1) hx hb dX4_add_38 (by decide) ?_
    refine lv_iadd hx hb dX4_add_39 ?_
    refine lv_topi (fun v_1 ev_1 => ?_)
    have hv_1 : v_1 = nI (n + 1) := ev_1.trans (nI_1 n)
    clear ev_1; subst hv_1
    refine va_put (D := (dC, dI)) (ci := 4) (v := .int (nI (n + 1))) (ty := .int) (C := RX4) (T := TX4) (N := 3) hx hb hts iX4_add_X4 tyX4 tyX4_ok nmX4 hown hK hP hD hS 0 rfl rfl 2 (by decide) (hts (.fieldLink RX4 18 "JoinBench$Table" "count" "I") (by decide +kernel)) (fun _ h9 => h9) rfl (by decide +kernel) rfl rfl (Nat.le_of_ble_eq_true rfl) dX4_add_40 (fun H locs hP hD hS => ?_)
    have hP : va_P (dC, dI) vwCl [(hT, .inr (4, [.ref hK1, .ref hV1, .int (nI (n + 1))])), (hK1, .inl (cI, 500, .inl (upd K n x))), (hV1, .inl (cI, 500, .inl (upd V n y)))] H := hP
    have hD : va_D A [(hT, .inr (4, [.ref hK1, .ref hV1, .int (nI (n + 1))])), (hK1, .inl (cI, 500, .inl (upd K n x))), (hV1, .inl (cI, 500, .inl (upd V n y)))] := hD
    refine lv_aload_n hx hb dX4_add_43 rfl (lv_at hl 0 rfl) ?_
    refine va_get (D := (dC, dI)) (ci := 4) (v := .int (nI (n + 1))) (C := RX4) (T := TX4) (N := 3) hx hb hts iX4_add_X4 hown hK hP 0 rfl rfl 2 (by decide) (hts (.fieldLink RX4 18 "JoinBench$Table" "count" "I") (by decide +kernel)) (fun _ h9 => h9) rfl dX4_add_44 ?_
    have hP9 : va_P (dC, dI) vwCl [(hT, .inr (4, [.ref hK1, .ref hV1, .int (nI (jb_addN n))])), (hK1, .inl (cI, 500, .inl (jb_addA n K x))), (hV1, .inl (cI, 500, .inl (jb_addA n V y)))] H := by rw [show jb_addA n K x = upd K n x from if_pos hlt, show jb_addA n V y = upd V n y from if_pos hlt, show jb_addN n = n + 1 from if_pos hlt]; exact hP.sub [0, 1, 2] rfl
    have hD9 : va_D A [(hT, .inr (4, [.ref hK1, .ref hV1, .int (nI (jb_addN n))])), (hK1, .inl (cI, 500, .inl (jb_addA n K x))), (hV1, .inl (cI, 500, .inl (jb_addA n V y)))] := by rw [show jb_addA n K x = upd K n x from if_pos hlt, show jb_addA n V y = upd V n y from if_pos hlt, show jb_addN n = n + 1 from if_pos hlt]; exact hD.sub [0, 1, 2] (by decide) rfl
    exact W.iret (v := nI (n + 1)) hx hb hr (fun t ht hW => ⟨⟨_, (), rfl, (if_pos hlt).symm, by rw [ht]; exact hP9, hD9⟩, hS.F ht⟩) hS.2.2 dX4_add_47
  · have hge : ¬ n < 500 := fun h => c_7 ((nI_ltI (by omega) (by decide)).mpr h)
    refine lv_bipush (v := (-2)) hx hb dX4_add_10 (by decide) ?_
    have hP9 : va_P (dC, dI) vwCl [(hT, .inr (4, [.ref hK1, .ref hV1, .int (nI (jb_addN n))])), (hK1, .inl (cI, 500, .inl (jb_addA n K x))), (hV1, .inl (cI, 500, .inl (jb_addA n V y)))] s.heap := by rw [show jb_addA n K x = K from if_neg hge, show jb_addA n V y = V from if_neg hge, show jb_addN n = n from if_neg hge]; exact hP.sub [0, 1, 2] rfl
    have hD9 : va_D A [(hT, .inr (4, [.ref hK1, .ref hV1, .int (nI (jb_addN n))])), (hK1, .inl (cI, 500, .inl (jb_addA n K x))), (hV1, .inl (cI, 500, .inl (jb_addA n V y)))] := by rw [show jb_addA n K x = K from if_neg hge, show jb_addA n V y = V from if_neg hge, show jb_addN n = n from if_neg hge]; exact hD.sub [0, 1, 2] (by decide) rfl
    exact W.iret (v := (-2)) hx hb hr (fun t ht hW => ⟨⟨_, (), rfl, (if_neg hge).symm, by rw [ht]; exact hP9, hD9⟩, hS.F ht⟩) hS.2.2 dX4_add_12
theorem iX4_drop_X4 : ∀ w ∈ wsX40, w ∈ wsX4_drop := by decide +kernel
set_option maxHeartbeats 1000000 in
set_option maxRecDepth 100000 in
/-- Table.drop(n) -/
theorem c_drop (l : Launch) (dC : Nat → ClassId) (dI : Nat → Nat → Nat) (cI : ClassId) (sz : Nat) (hT hK1 hV1 : Nat) (K V : Nat → Int32) (n : Nat) (x : Int32) (hn : n ≤ 500) : Met l yX4_drop wsX4_drop ({ frames := 1, cells := 0, slots := 0, locals := 40 } : Room) (va_Pc [.ref hT, .int x] (jb_M dC dI cI sz [(hT, .inr (4, [.ref hK1, .ref hV1, .int (nI n)])), (hK1, .inl (cI, 500, .inl K)), (hV1, .inl (cI, 500, .inl V))])) (va_Qi (fun r (_ : Unit) => r = jb_dropR n x) (jb_B dC dI (va_A [(hT, .inr (4, [.ref hK1, .ref hV1, .int (nI n)])), (hK1, .inl (cI, 500, .inl K)), (hV1, .inl (cI, 500, .inl V))] sz) (fun _ => [(hT, .inr (4, [.ref hK1, .ref hV1, .int (nI (jb_dropN n x))])), (hK1, .inl (cI, 500, .inl K)), (hV1, .inl (cI, 500, .inl V))])) (va_A [(hT, .inr (4, [.ref hK1, .ref hV1, .int (nI n)])), (hK1, .inl (cI, 500, .inl K)), (hV1, .inl (cI, 500, .inl V))] sz)) 0 0 (va_A [(hT, .inr (4, [.ref hK1, .ref hV1, .int (nI n)])), (hK1, .inl (cI, 500, .inl K)), (hV1, .inl (cI, 500, .inl V))] sz) := by
  refine Met.ofW (cc := cX4_drop) (maxL := 2) (ret := (some .int)) (by decide) rfl ?_
  intro p e s m args below meth c s₁ B hml hv
  obtain ⟨rfl, hsz, hP, hK, hNw, hD0⟩ := hv
  have hx := B.exec
  have hb := B.bytes
  have hr := B.returns
  have hts := atoms_spec (ws := wsX4_drop) B.pre
  have hown : s.vm.findClass RX4 = some m.cls := findClass_of_methodNamed B.named
  have hlocks := B.notSynchronized
  subst hsz
  have hD := hD0.self (sz := s.heap.size)
  generalize hAe : va_A [(hT, .inr (4, [.ref hK1, .ref hV1, .int (nI n)])), (hK1, .inl (cI, 500, .inl K)), (hV1, .inl (cI, 500, .inl V))] s.heap.size = A at hD ⊢
  have hA : ∀ q : Nat, s.heap.size ≤ q → A q := fun q h => by rw [← hAe]; exact Or.inr h
  have hS : va_S A s.heap s.heap [] := va_S.rf
  have hP : va_P (dC, dI) vwCl [(hT, .inr (4, [.ref hK1, .ref hV1, .int (nI n)])), (hK1, .inl (cI, 500, .inl K)), (hV1, .inl (cI, 500, .inl V))] s.heap := hP
  have hl := lv_entry ([.ref hT, .int x]) (n := 2) (Nat.le_of_ble_eq_true rfl)
  rw [lg_entry_eq]
  generalize (lg_sl ([.ref hT, .int x]) ++ List.replicate (2 - (lg_sl ([.ref hT, .int x])).length) Slot.unset).toArray = ls at hl ⊢
  have hl : lv_has ls 2 [(0, .ref hT), (1, .int x)] := hl
  refine lv_iload_n hx hb dX4_drop_0 rfl (lv_at hl 1 rfl) ?_
  refine lv_if_lt (tgt := 12) hx hb dX4_drop_1 (by decide) (fun c_1 => ?_) (fun c_1 => ?_)
  · have hbad : x < 0 ∨ nI n < x := Or.inl c_1
    refine lv_iconst (v := (-1)) hx hb dX4_drop_12 (by decide) ?_
    have hP9 : va_P (dC, dI) vwCl [(hT, .inr (4, [.ref hK1, .ref hV1, .int (nI (jb_dropN n x))])), (hK1, .inl (cI, 500, .inl K)), (hV1, .inl (cI, 500, .inl V))] s.heap := by rw [show jb_dropN n x = n from if_pos hbad]; exact hP.sub [0, 1, 2] rfl
    have hD9 : va_D A [(hT, .inr (4, [.ref hK1, .ref hV1, .int (nI (jb_dropN n x))])), (hK1, .inl (cI, 500, .inl K)), (hV1, .inl (cI, 500, .inl V))] := by rw [show jb_dropN n x = n from if_pos hbad]; exact hD.sub [0, 1, 2] (by decide) rfl
    exact W.iret (v := (-1)) hx hb hr (fun t ht hW => ⟨⟨_, (), rfl, (if_pos hbad).symm, by rw [ht]; exact hP9, hD9⟩, hS.F ht⟩) hS.2.2 dX4_drop_13
  · refine lv_iload_n hx hb dX4_drop_4 rfl (lv_at hl 1 rfl) ?_
    refine lv_aload_n hx hb dX4_drop_5 rfl (lv_at hl 0 rfl) ?_
    refine va_get (D := (dC, dI)) (ci := 4) (v := .int (nI n)) (C := RX4) (T := TX4) (N := 3) hx hb hts iX4_drop_X4 hown hK hP 0 rfl rfl 2 (by decide) (hts (.fieldLink RX4 18 "JoinBench$Table" "count" "I") (by decide +kernel)) (fun _ h9 => h9) rfl dX4_drop_6 ?_
    refine lv_icmp_le (tgt := 14) hx hb dX4_drop_9 (by decide) (fun c_9 => ?_) (fun c_9 => ?_)
    · have hgood : ¬ (x < 0 ∨ nI n < x) := fun h => h.elim c_1 (fun h => Int32.not_le.mpr h c_9)
      obtain ⟨k, hk, ek⟩ := nI_of2 (x := x) (M := nI n) (n := n) (nI_toInt (by omega)) c_1 c_9
      refine lv_aload_n hx hb dX4_drop_14 rfl (lv_at hl 0 rfl) ?_
      refine lv_dup hx hb dX4_drop_15 rfl ?_
      refine va_get (D := (dC, dI)) (ci := 4) (v := .int (nI n)) (C := RX4) (T := TX4) (N := 3) hx hb hts iX4_drop_X4 hown hK hP 0 rfl rfl 2 (by decide) (hts (.fieldLink RX4 18 "JoinBench$Table" "count" "I") (by decide +kernel)) (fun _ h9 => h9) rfl dX4_drop_16 ?_
      refine lv_iload_n hx hb dX4_drop_19 rfl (lv_at hl 1 rfl) ?_
      refine lv_isub hx hb dX4_drop_20 ?_
      refine lv_topi (fun v_1 ev_1 => ?_)
      have hv_1 : v_1 = nI (n - x.toNatClampNeg) := ev_1.trans (by rw [ek, nI_clamp (by omega)]; exact pk_sub hk)
      clear ev_1; subst hv_1
      refine va_put (D := (dC, dI)) (ci := 4) (v := .int (nI (n - x.toNatClampNeg))) (ty := .int) (C := RX4) (T := TX4) (N := 3) hx hb hts iX4_drop_X4 tyX4 tyX4_ok nmX4 hown hK hP hD hS 0 rfl rfl 2 (by decide) (hts (.fieldLink RX4 18 "JoinBench$Table" "count" "I") (by decide +kernel)) (fun _ h9 => h9) rfl (by decide +kernel) rfl rfl (Nat.le_of_ble_eq_true rfl) dX4_drop_21 (fun H locs hP hD hS => ?_)
      have hP : va_P (dC, dI) vwCl [(hT, .inr (4, [.ref hK1, .ref hV1, .int (nI (n - x.toNatClampNeg))])), (hK1, .inl (cI, 500, .inl K)), (hV1, .inl (cI, 500, .inl V))] H := hP
      have hD : va_D A [(hT, .inr (4, [.ref hK1, .ref hV1, .int (nI (n - x.toNatClampNeg))])), (hK1, .inl (cI, 500, .inl K)), (hV1, .inl (cI, 500, .inl V))] := hD
      refine lv_aload_n hx hb dX4_drop_24 rfl (lv_at hl 0 rfl) ?_
      refine va_get (D := (dC, dI)) (ci := 4) (v := .int (nI (n - x.toNatClampNeg))) (C := RX4) (T := TX4) (N := 3) hx hb hts iX4_drop_X4 hown hK hP 0 rfl rfl 2 (by decide) (hts (.fieldLink RX4 18 "JoinBench$Table" "count" "I") (by decide +kernel)) (fun _ h9 => h9) rfl dX4_drop_25 ?_
      have hP9 : va_P (dC, dI) vwCl [(hT, .inr (4, [.ref hK1, .ref hV1, .int (nI (jb_dropN n x))])), (hK1, .inl (cI, 500, .inl K)), (hV1, .inl (cI, 500, .inl V))] H := by rw [show jb_dropN n x = n - x.toNatClampNeg from if_neg hgood]; exact hP.sub [0, 1, 2] rfl
      have hD9 : va_D A [(hT, .inr (4, [.ref hK1, .ref hV1, .int (nI (jb_dropN n x))])), (hK1, .inl (cI, 500, .inl K)), (hV1, .inl (cI, 500, .inl V))] := by rw [show jb_dropN n x = n - x.toNatClampNeg from if_neg hgood]; exact hD.sub [0, 1, 2] (by decide) rfl
      exact W.iret (v := nI (n - x.toNatClampNeg)) hx hb hr (fun t ht hW => ⟨⟨_, (), rfl, (if_neg hgood).symm, by rw [ht]; exact hP9, hD9⟩, hS.F ht⟩) hS.2.2 dX4_drop_28
    · have hbad : x < 0 ∨ nI n < x := Or.inr (Int32.not_le.mp c_9)
      refine lv_iconst (v := (-1)) hx hb dX4_drop_12 (by decide) ?_
      have hP9 : va_P (dC, dI) vwCl [(hT, .inr (4, [.ref hK1, .ref hV1, .int (nI (jb_dropN n x))])), (hK1, .inl (cI, 500, .inl K)), (hV1, .inl (cI, 500, .inl V))] s.heap := by rw [show jb_dropN n x = n from if_pos hbad]; exact hP.sub [0, 1, 2] rfl
      have hD9 : va_D A [(hT, .inr (4, [.ref hK1, .ref hV1, .int (nI (jb_dropN n x))])), (hK1, .inl (cI, 500, .inl K)), (hV1, .inl (cI, 500, .inl V))] := by rw [show jb_dropN n x = n from if_pos hbad]; exact hD.sub [0, 1, 2] (by decide) rfl
      exact W.iret (v := (-1)) hx hb hr (fun t ht hW => ⟨⟨_, (), rfl, (if_pos hbad).symm, by rw [ht]; exact hP9, hD9⟩, hS.F ht⟩) hS.2.2 dX4_drop_13
theorem iX4_init_X4 : ∀ w ∈ wsX40, w ∈ wsX4_init := by decide +kernel
set_option maxHeartbeats 1000000 in
set_option maxRecDepth 100000 in
/-- Table() -/
theorem c_Table_init (l : Launch) (dC : Nat → ClassId) (dI : Nat → Nat → Nat) (cI : ClassId) (sz : Nat) (hT : Nat) : Met l yX4_init wsX4_init ({ frames := 1, cells := 2, slots := 1000, locals := 40 } : Room) (va_Pc [.ref hT] (jb_M dC dI cI sz [(hT, .inr (4, [.null, .null, .int 0]))])) (va_Qv (fun (_ : Nat × Nat) => True) (jb_B dC dI (va_A [(hT, .inr (4, [.null, .null, .int 0]))] sz) (fun u => [(hT, .inr (4, [.ref u.1, .ref u.2, .int 0])), (u.1, .inl (cI, 500, .inl (fun _ => 0))), (u.2, .inl (cI, 500, .inl (fun _ => 0)))])) (va_A [(hT, .inr (4, [.null, .null, .int 0]))] sz)) 2 1000 (va_A [(hT, .inr (4, [.null, .null, .int 0]))] sz) := by
  refine Met.ofW (cc := cX4_init) (maxL := 1) (ret := none) (by decide) rfl ?_
  intro p e s m args below meth c s₁ B hml hv
  obtain ⟨rfl, hsz, hP, hK, hNw, hD0⟩ := hv
  have hx := B.exec
  have hb := B.bytes
  have hr := B.returns
  have hts := atoms_spec (ws := wsX4_init) B.pre
  have hown : s.vm.findClass RX4 = some m.cls := findClass_of_methodNamed B.named
  have hlocks := B.notSynchronized
  have hin : meth.name = "<init>" := (name_of_methodNamed B.named B.method).1
  subst hsz
  have hD := hD0.self (sz := s.heap.size)
  generalize hAe : va_A [(hT, .inr (4, [.null, .null, .int 0]))] s.heap.size = A at hD ⊢
  have hA : ∀ q : Nat, s.heap.size ≤ q → A q := fun q h => by rw [← hAe]; exact Or.inr h
  have hS : va_S A s.heap s.heap [] := va_S.rf
  have hP : va_P (dC, dI) vwCl [(hT, .inr (4, [.null, .null, .int 0]))] s.heap := hP
  have hl := lv_entry ([.ref hT]) (n := 1) (Nat.le_of_ble_eq_true rfl)
  rw [lg_entry_eq]
  generalize (lg_sl ([.ref hT]) ++ List.replicate (1 - (lg_sl ([.ref hT])).length) Slot.unset).toArray = ls at hl ⊢
  have hl : lv_has ls 1 [(0, .ref hT)] := hl
  refine lv_aload_n hx hb dX4_init_0 rfl (lv_at hl 0 rfl) ?_
  refine W.objInit hx hb hown (hts (.methodLink RX4 3 objectInit) (by decide +kernel)) (hts (.instanceMethod objectInit) (by decide +kernel)) (hts (.code objectInit ⟨#[0xb1]⟩ 1 none) (by decide +kernel)) rfl (by rw [hml]; exact hl.1) rfl dX4_init_1 (Nat.le_of_ble_eq_true rfl) (Nat.le_of_ble_eq_true rfl) ?_
  refine W.eq (g2 := F0 m 4 ls []) rfl ?_
  refine lv_aload_n hx hb dX4_init_4 rfl (lv_at hl 0 rfl) ?_
  refine lv_sipush (v := 500) hx hb dX4_init_5 (by decide) ?_
  refine va_newa (atype := .int) hx hb (hts (.arrayClass .int) (by decide +kernel)) (ty := .int) rfl hK hP hD hS hA (N' := 500) (a0 := (500, .inl (fun _ => 0))) (jb_arr0 500) (by decide +kernel) (by decide +kernel) (by decide +kernel) (by decide +kernel) (by decide +kernel) dX4_init_8 (fun q_1 cJ H hK2 hP hD hS => ?_)
  have hcj : cJ = cI := jb_cI hK2 hK
  clear hK2; subst cJ
  have hP : va_P (dC, dI) vwCl [(hT, .inr (4, [.null, .null, .int 0])), (q_1, .inl (cI, 500, .inl (fun _ => 0)))] H := hP
  have hD : va_D A [(hT, .inr (4, [.null, .null, .int 0])), (q_1, .inl (cI, 500, .inl (fun _ => 0)))] := hD
  refine W.widen (k := 1) (n := 500) (by decide +kernel) (by decide +kernel) ?_
  refine va_putF (D := (dC, dI)) (ci := 4) (v := .ref q_1) (ty := (.array .int)) (C := RX4) (T := TX4) (N := 3) hx hb hts iX4_init_X4 tyX4 tyX4_ok nmX4 hown hK hP hD hS 0 rfl rfl 0 (by decide) (hts (.fieldLink RX4 9 "JoinBench$Table" "keys" "[I") (by decide +kernel)) (fun _ h9 => h9) rfl hin rfl (by decide +kernel) rfl rfl (Nat.le_of_ble_eq_true rfl) dX4_init_10 (fun H locs hP hD hS => ?_)
  have hP : va_P (dC, dI) vwCl [(hT, .inr (4, [.ref q_1, .null, .int 0])), (q_1, .inl (cI, 500, .inl (fun _ => 0)))] H := hP
  have hD : va_D A [(hT, .inr (4, [.ref q_1, .null, .int 0])), (q_1, .inl (cI, 500, .inl (fun _ => 0)))] := hD
  refine lv_aload_n hx hb dX4_init_13 rfl (lv_at hl 0 rfl) ?_
  refine lv_sipush (v := 500) hx hb dX4_init_14 (by decide) ?_
  refine va_newa (atype := .int) hx hb (hts (.arrayClass .int) (by decide +kernel)) (ty := .int) rfl hK hP hD hS hA (N' := 500) (a0 := (500, .inl (fun _ => 0))) (jb_arr0 500) (by decide +kernel) (by decide +kernel) (by decide +kernel) (by decide +kernel) (by decide +kernel) dX4_init_17 (fun q_2 cJ H hK2 hP hD hS => ?_)
  have hcj : cJ = cI := jb_cI hK2 hK
  clear hK2; subst cJ
  have hP : va_P (dC, dI) vwCl [(hT, .inr (4, [.ref q_1, .null, .int 0])), (q_1, .inl (cI, 500, .inl (fun _ => 0))), (q_2, .inl (cI, 500, .inl (fun _ => 0)))] H := hP
  have hD : va_D A [(hT, .inr (4, [.ref q_1, .null, .int 0])), (q_1, .inl (cI, 500, .inl (fun _ => 0))), (q_2, .inl (cI, 500, .inl (fun _ => 0)))] := hD
  refine W.widen (k := 2) (n := 1000) (by decide +kernel) (by decide +kernel) ?_
  refine va_putF (D := (dC, dI)) (ci := 4) (v := .ref q_2) (ty := (.array .int)) (C := RX4) (T := TX4) (N := 3) hx hb hts iX4_init_X4 tyX4 tyX4_ok nmX4 hown hK hP hD hS 0 rfl rfl 1 (by decide) (hts (.fieldLink RX4 15 "JoinBench$Table" "values" "[I") (by decide +kernel)) (fun _ h9 => h9) rfl hin rfl (by decide +kernel) rfl rfl (Nat.le_of_ble_eq_true rfl) dX4_init_19 (fun H locs hP hD hS => ?_)
  have hP : va_P (dC, dI) vwCl [(hT, .inr (4, [.ref q_1, .ref q_2, .int 0])), (q_1, .inl (cI, 500, .inl (fun _ => 0))), (q_2, .inl (cI, 500, .inl (fun _ => 0)))] H := hP
  have hD : va_D A [(hT, .inr (4, [.ref q_1, .ref q_2, .int 0])), (q_1, .inl (cI, 500, .inl (fun _ => 0))), (q_2, .inl (cI, 500, .inl (fun _ => 0)))] := hD
  refine lv_aload_n hx hb dX4_init_22 rfl (lv_at hl 0 rfl) ?_
  refine lv_iconst (v := 0) hx hb dX4_init_23 (by decide) ?_
  refine va_put (D := (dC, dI)) (ci := 4) (v := .int 0) (ty := .int) (C := RX4) (T := TX4) (N := 3) hx hb hts iX4_init_X4 tyX4 tyX4_ok nmX4 hown hK hP hD hS 0 rfl rfl 2 (by decide) (hts (.fieldLink RX4 18 "JoinBench$Table" "count" "I") (by decide +kernel)) (fun _ h9 => h9) rfl (by decide +kernel) rfl rfl (Nat.le_of_ble_eq_true rfl) dX4_init_24 (fun H locs hP hD hS => ?_)
  have hP : va_P (dC, dI) vwCl [(hT, .inr (4, [.ref q_1, .ref q_2, .int 0])), (q_1, .inl (cI, 500, .inl (fun _ => 0))), (q_2, .inl (cI, 500, .inl (fun _ => 0)))] H := hP
  have hD : va_D A [(hT, .inr (4, [.ref q_1, .ref q_2, .int 0])), (q_1, .inl (cI, 500, .inl (fun _ => 0))), (q_2, .inl (cI, 500, .inl (fun _ => 0)))] := hD
  have hP9 : va_P (dC, dI) vwCl [(hT, .inr (4, [.ref q_1, .ref q_2, .int 0])), (q_1, .inl (cI, 500, .inl (fun _ => 0))), (q_2, .inl (cI, 500, .inl (fun _ => 0)))] H := hP.sub [0, 1, 2] rfl
  have hD9 : va_D A [(hT, .inr (4, [.ref q_1, .ref q_2, .int 0])), (q_1, .inl (cI, 500, .inl (fun _ => 0))), (q_2, .inl (cI, 500, .inl (fun _ => 0)))] := hD.sub [0, 1, 2] (by decide) rfl
  exact W.vret hx hb hr (fun t ht hW => ⟨⟨(q_1, q_2), rfl, trivial, by rw [ht]; exact hP9, hD9⟩, hS.F ht⟩) hS.2.2 dX4_init_27
end
section
/-! what the latest join came to: the class JoinBench$Report (X1), and Arrays.fill -/
def jb_fl (F : Nat → Int32) (v : Int32) (i : Nat) : Nat → Int32 := fun j => if j < i then v else F j
theorem jb_fl_0 (F : Nat → Int32) (v : Int32) : jb_fl F v 0 = F := by funext j; simp [jb_fl]
theorem jb_fl_s (F : Nat → Int32) (v : Int32) (i : Nat) : upd (jb_fl F v i) i v = jb_fl F v (i + 1) := by
  funext j
  simp only [jb_fl, upd]
  by_cases h : j = i
  · subst h; simp
  · rw [if_neg h]
    by_cases h2 : j < i
    · rw [if_pos h2, if_pos (by omega)]
    · rw [if_neg h2, if_neg (by omega)]
def jb_evF (F : Nat → Int32) (kd : Nat) (lv rd : Int32) : Nat → Int32 :=
  let F1 := upd F 5 (F 5 + 1)
  let F2 := upd F1 (6 + kd) (F1 (6 + kd) + 1)
  let F3 := upd F2 0 (F2 0 + rd)
  upd F3 4 (if F3 4 < lv then lv else F3 4)
def jb_evE (E : Nat → Int32) (ev : Nat) (kd lv x y rd : Int32) : Nat → Int32 := if ev < 300 then upd (upd (upd (upd (upd E (ev * 5) kd) (ev * 5 + 1) lv) (ev * 5 + 2) x) (ev * 5 + 3) y) (ev * 5 + 4) rd else E
def jb_adP (P : Nat → Int32) (np : Nat) (x y : Int32) : Nat → Int32 := if np < 4000 then upd P np (x <<< ((9 : Int32) &&& 31) ||| y) else P
def jb_pof (x : Int32) : Int32 := if 4000 < x then -2 else x
def jb_has (F : Nat → Int32) (i : Int32) : Int32 := if 0 ≤ i ∧ i < jb_pof (F 10) then 1 else 0
def jb_lrow (F P : Nat → Int32) (i : Int32) : Int32 := if 0 ≤ i ∧ i < jb_pof (F 10) then P i.toNatClampNeg >>> ((9 : Int32) &&& 31) else -1
def jb_rrow (F P : Nat → Int32) (i : Int32) : Int32 := if 0 ≤ i ∧ i < jb_pof (F 10) then P i.toNatClampNeg &&& 511 else -1
def jb_fig (F : Nat → Int32) (w : Int32) : Int32 := if w < 0 ∨ 11 ≤ w then -1 else F w.toNatClampNeg
def jb_evt (F E : Nat → Int32) (i w : Int32) : Int32 := if i < 0 ∨ (if 300 < F 5 then 300 else F 5) ≤ i ∨ w < 0 ∨ 5 ≤ w then -1 else E (i.toNatClampNeg * 5 + w.toNatClampNeg)
theorem jb_pof_in {x i : Int32} (h0 : 0 ≤ i) (h : i < jb_pof x) : vp_in i 4000 := by
  have h1 : jb_pof x ≤ 4000 := by
    unfold jb_pof
    split
    · decide
    · rename_i h2; exact Int32.not_lt.mp h2
  rw [vp_in_iff]
  have a1 : (0 : Int32).toInt ≤ i.toInt := Int32.le_iff_toInt_le.mp h0
  have a2 : i.toInt < (jb_pof x).toInt := Int32.lt_iff_toInt_lt.mp h
  have a3 : (jb_pof x).toInt ≤ (4000 : Int32).toInt := Int32.le_iff_toInt_le.mp h1
  have e1 : (0 : Int32).toInt = 0 := rfl
  have e2 : (4000 : Int32).toInt = 4000 := rfl
  rw [e1] at a1
  rw [e2] at a3
  constructor <;> omega
theorem jb_in_of {x : Int32} {n : Nat} {N : Int32} (hN : N.toInt = n) (h0 : ¬ x < 0) (h : x < N) : vp_in x n := by
  rw [vp_in_iff]
  have a1 := Int32.le_iff_toInt_le.mp (Int32.not_lt.mp h0)
  have a2 := Int32.lt_iff_toInt_lt.mp h
  have e1 : (0 : Int32).toInt = 0 := rfl
  rw [e1] at a1
  rw [hN] at a2
  exact ⟨a1, a2⟩
set_option maxHeartbeats 1000000 in
set_option maxRecDepth 100000 in
/-- Arrays.fill(int[], int) -/
theorem c_fill (l : Launch) (dC : Nat → ClassId) (dI : Nat → Nat → Nat) (cI : ClassId) (sz : Nat) (hF n : Nat) (F : Nat → Int32) (v : Int32) (hn : n < 1000000) : Met l yJ7_fill_53178 wsJ7_fill_53178 ({ frames := 1, cells := 0, slots := 0, locals := 40 } : Room) (va_Pc [.ref hF, .int v] (jb_M dC dI cI sz [(hF, .inl (cI, n, .inl F))])) (va_Qv (fun (_ : Unit) => True) (jb_B dC dI (va_A [(hF, .inl (cI, n, .inl F))] sz) (fun _ => [(hF, .inl (cI, n, .inl (jb_fl F v n)))])) (va_A [(hF, .inl (cI, n, .inl F))] sz)) 0 0 (va_A [(hF, .inl (cI, n, .inl F))] sz) := by
  refine Met.ofW (cc := cJ7_fill_53178) (maxL := 4) (ret := none) (by decide) rfl ?_
  intro p e s m args below meth c s₁ B hml hv
  obtain ⟨rfl, hsz, hP, hK, hNw, hD0⟩ := hv
  have hx := B.exec
  have hb := B.bytes
  have hr := B.returns
  have hts := atoms_spec (ws := wsJ7_fill_53178) B.pre
  have hown : s.vm.findClass RJ7 = some m.cls := findClass_of_methodNamed B.named
  have hlocks := B.notSynchronized
  subst hsz
  have hD := hD0.self (sz := s.heap.size)
  generalize hAe : va_A [(hF, .inl (cI, n, .inl F))] s.heap.size = A at hD ⊢
  have hA : ∀ q : Nat, s.heap.size ≤ q → A q := fun q h => by rw [← hAe]; exact Or.inr h
  have hS : va_S A s.heap s.heap [] := va_S.rf
  have hP : va_P (dC, dI) vwCl [(hF, .inl (cI, n, .inl F))] s.heap := hP
  have hl := lv_entry ([.ref hF, .int v]) (n := 4) (Nat.le_of_ble_eq_true rfl)
  rw [lg_entry_eq]
  generalize (lg_sl ([.ref hF, .int v]) ++ List.replicate (4 - (lg_sl ([.ref hF, .int v])).length) Slot.unset).toArray = ls at hl ⊢
  have hl : lv_has ls 4 [(0, .ref hF), (1, .int v)] := hl
  refine lv_iconst (v := 0) hx hb dJ7_fill_53178_0 (by decide) ?_
  refine lv_istore_n (lv' := [(2, .int 0), (0, .ref hF), (1, .int v)]) hx hb dJ7_fill_53178_1 rfl hl (by decide) rfl (fun ls hl => ?_)
  refine lv_aload_n hx hb dJ7_fill_53178_2 rfl (lv_at hl 1 rfl) ?_
  refine va_alen hx hb hK hP 0 0 rfl rfl (v := nI n) rfl dJ7_fill_53178_3 ?_
  refine lv_istore_n (lv' := [(3, .int (nI n)), (2, .int 0), (0, .ref hF), (1, .int v)]) hx hb dJ7_fill_53178_4 rfl hl (by decide) rfl (fun ls hl => ?_)
  have hloop : ∀ (k : Nat) (i : Nat), n - i < k → i ≤ n → ∀ (H : Heap) (locs : List Loc), va_P (dC, dI) vwCl [(hF, .inl (cI, n, .inl (jb_fl F v i)))] H → va_D A [(hF, .inl (cI, n, .inl (jb_fl F v i)))] → va_S A s.heap H locs → ∀ ls : Array Slot, lv_has ls 4 [(2, .int (nI i)), (0, .ref hF), (1, .int v), (3, .int (nI n))] → W p l e ({ frames := 1, cells := 0, slots := 0, locals := 40 } : Room) s m ([.ref hF, .int v] : List Value).toArray below meth c H locs 0 0 (MQ below (va_Qv (fun (_ : Unit) => True) (jb_B dC dI A (fun _ => [(hF, .inl (cI, n, .inl (jb_fl F v n)))])) A) ([.ref hF, .int v] : List Value).toArray s 0 0 (A)) (F0 m 5 ls []) := by
    intro k
    induction k with
    | zero => intro i hk; exact absurd hk (Nat.not_lt_zero _)
    | succ k ih =>
      intro i hk hi H locs hP hD hS ls hl
      refine lv_iload_n hx hb dJ7_fill_53178_5 rfl (lv_at hl 0 rfl) ?_
      refine lv_iload_n hx hb dJ7_fill_53178_6 rfl (lv_at hl 3 rfl) ?_
      refine lv_icmp_ge (tgt := 20) hx hb dJ7_fill_53178_7 (by decide) (fun c_7 => ?_) (fun c_7 => ?_)
      · have hin : i = n := by have := (nI_leI (a := n) (b := i) (by omega) (by omega)).mp c_7; omega
        rw [hin] at hP hD
        have hP9 : va_P (dC, dI) vwCl [(hF, .inl (cI, n, .inl (jb_fl F v n)))] H := hP.sub [0] rfl
        have hD9 : va_D A [(hF, .inl (cI, n, .inl (jb_fl F v n)))] := hD.sub [0] (by decide) rfl
        exact W.vret hx hb hr (fun t ht hW => ⟨⟨(), rfl, trivial, by rw [ht]; exact hP9, hD9⟩, hS.F ht⟩) hS.2.2 dJ7_fill_53178_20
      · have hlt : i < n := (jb_nle (by omega) (by omega)).mp c_7
        refine lv_aload_n hx hb dJ7_fill_53178_10 rfl (lv_at hl 1 rfl) ?_
        refine lv_iload_n hx hb dJ7_fill_53178_11 rfl (lv_at hl 0 rfl) ?_
        refine lv_iload_n hx hb dJ7_fill_53178_12 rfl (lv_at hl 2 rfl) ?_
        refine va_iast hx hb hK hP hD hS 0 0 rfl rfl (i := nI i) (x := v) (vp_in_nI hlt (by omega)) dJ7_fill_53178_13 (fun H locs hP hD hS => ?_)
        rw [show (nI i : Int32).toNatClampNeg = i from nI_clamp (by omega)] at hP hD
        have hP : va_P (dC, dI) vwCl [(hF, .inl (cI, n, .inl (upd (jb_fl F v i) i v)))] H := hP
        have hD : va_D A [(hF, .inl (cI, n, .inl (upd (jb_fl F v i) i v)))] := hD
        rw [jb_fl_s] at hP hD
        refine lv_iinc (v := nI (i + 1)) (lv' := [(2, .int (nI (i + 1))), (0, .ref hF), (1, .int v), (3, .int (nI n))]) hx hb dJ7_fill_53178_14 hl (k := 0) rfl (nI_1 i) (by decide) rfl (fun ls hl => ?_)
        refine lv_goto (tgt := 5) hx hb dJ7_fill_53178_17 (by decide) ?_
        exact ih (i + 1) (by omega) (by omega) H locs hP hD hS ls (lv_sub hl [0, 1, 2, 3] rfl)
  refine hloop (n + 1) 0 (by omega) (Nat.zero_le _) s.heap [] (by rw [jb_fl_0]; exact hP) (by rw [jb_fl_0]; exact hD) hS ls (lv_sub hl [1, 2, 3, 0] rfl)
theorem iX1_addEvent_X1 : ∀ w ∈ wsX10, w ∈ wsX1_addEvent := by decide +kernel
set_option maxHeartbeats 1000000 in
set_option maxRecDepth 100000 in
/-- Report.addEvent -/
theorem c_addEvent (l : Launch) (dC : Nat → ClassId) (dI : Nat → Nat → Nat) (cI : ClassId) (sz : Nat) (hR hF hE hQ : Nat) (F E P : Nat → Int32) (dk : Int32) (kd ev : Nat) (lv x y rd : Int32) (hev : F 5 = nI ev) (hb1 : ev < 1000000) (hkd : kd < 4) : Met l yX1_addEvent wsX1_addEvent ({ frames := 2, cells := 0, slots := 0, locals := 80 } : Room) (va_Pc [.ref hR, .int (nI kd), .int lv, .int x, .int y, .int rd] (jb_M dC dI cI sz [(hR, .inr (1, [.ref hF, .ref hE, .ref hQ, .int dk])), (hF, .inl (cI, 11, .inl F)), (hE, .inl (cI, 1500, .inl E)), (hQ, .inl (cI, 4000, .inl P))])) (va_Qv (fun (_ : Unit) => True) (jb_B dC dI (va_A [(hR, .inr (1, [.ref hF, .ref hE, .ref hQ, .int dk])), (hF, .inl (cI, 11, .inl F)), (hE, .inl (cI, 1500, .inl E)), (hQ, .inl (cI, 4000, .inl P))] sz) (fun _ => [(hR, .inr (1, [.ref hF, .ref hE, .ref hQ, .int dk])), (hF, .inl (cI, 11, .inl (jb_evF F kd lv rd))), (hE, .inl (cI, 1500, .inl (jb_evE E ev (nI kd) lv x y rd))), (hQ, .inl (cI, 4000, .inl P))])) (va_A [(hR, .inr (1, [.ref hF, .ref hE, .ref hQ, .int dk])), (hF, .inl (cI, 11, .inl F)), (hE, .inl (cI, 1500, .inl E)), (hQ, .inl (cI, 4000, .inl P))] sz)) 0 0 (va_A [(hR, .inr (1, [.ref hF, .ref hE, .ref hQ, .int dk])), (hF, .inl (cI, 11, .inl F)), (hE, .inl (cI, 1500, .inl E)), (hQ, .inl (cI, 4000, .inl P))] sz) := by
  refine Met.ofW (cc := cX1_addEvent) (maxL := 8) (ret := none) (by decide) rfl ?_
  intro p e s m args below meth c s₁ B hml hv
  obtain ⟨rfl, hsz, hP, hK, hNw, hD0⟩ := hv
  have hx := B.exec
  have hb := B.bytes
  have hr := B.returns
  have hts := atoms_spec (ws := wsX1_addEvent) B.pre
  have hown : s.vm.findClass RX1 = some m.cls := findClass_of_methodNamed B.named
  have hlocks := B.notSynchronized
  subst hsz
  have hD := hD0.self (sz := s.heap.size)
  generalize hAe : va_A [(hR, .inr (1, [.ref hF, .ref hE, .ref hQ, .int dk])), (hF, .inl (cI, 11, .inl F)), (hE, .inl (cI, 1500, .inl E)), (hQ, .inl (cI, 4000, .inl P))] s.heap.size = A at hD ⊢
  have hA : ∀ q : Nat, s.heap.size ≤ q → A q := fun q h => by rw [← hAe]; exact Or.inr h
  have hS : va_S A s.heap s.heap [] := va_S.rf
  have hP : va_P (dC, dI) vwCl [(hR, .inr (1, [.ref hF, .ref hE, .ref hQ, .int dk])), (hF, .inl (cI, 11, .inl F)), (hE, .inl (cI, 1500, .inl E)), (hQ, .inl (cI, 4000, .inl P))] s.heap := hP
  have hl := lv_entry ([.ref hR, .int (nI kd), .int lv, .int x, .int y, .int rd]) (n := 8) (Nat.le_of_ble_eq_true rfl)
  rw [lg_entry_eq]
  generalize (lg_sl ([.ref hR, .int (nI kd), .int lv, .int x, .int y, .int rd]) ++ List.replicate (8 - (lg_sl ([.ref hR, .int (nI kd), .int lv, .int x, .int y, .int rd])).length) Slot.unset).toArray = ls at hl ⊢
  have hl : lv_has ls 8 [(0, .ref hR), (1, .int (nI kd)), (2, .int lv), (3, .int x), (4, .int y), (5, .int rd)] := hl
  refine lv_aload_n hx hb dX1_addEvent_0 rfl (lv_at hl 0 rfl) ?_
  refine va_get (D := (dC, dI)) (ci := 1) (v := .ref hF) (C := RX1) (T := TX1) (N := 4) hx hb hts iX1_addEvent_X1 hown hK hP 0 rfl rfl 0 (by decide) (hts (.fieldLink RX1 11 "JoinBench$Report" "figures" "[I") (by decide +kernel)) (fun _ h9 => h9) rfl dX1_addEvent_1 ?_
  refine lv_iconst (v := 5) hx hb dX1_addEvent_4 (by decide) ?_
  refine va_iald hx hb hK hP 1 0 rfl rfl (i := 5) (by unfold vp_in; decide) dX1_addEvent_5 ?_
  refine lv_topi (fun v_1 ev_1 => ?_)
  have hv_1 : v_1 = nI ev := ev_1.trans (hev)
  clear ev_1; subst hv_1
  refine lv_istore (lv' := [(6, .int (nI ev)), (0, .ref hR), (1, .int (nI kd)), (2, .int lv), (3, .int x), (4, .int y), (5, .int rd)]) hx hb dX1_addEvent_6 hl (by decide) rfl (fun ls hl => ?_)
  refine lv_iload hx hb dX1_addEvent_8 (lv_at hl 0 rfl) ?_
  refine lv_sipush (v := 300) hx hb dX1_addEvent_10 (by decide) ?_
  refine lv_icmp_ge (tgt := 72) hx hb dX1_addEvent_13 (by decide) (fun c_13 => ?_) (fun c_13 => ?_)
  · have hge : ¬ ev < 300 := fun h => absurd c_13 ((jb_nle (a := 300) (b := ev) (by omega) (by omega)).mpr h)
    refine lv_aload_n hx hb dX1_addEvent_72 rfl (lv_at hl 1 rfl) ?_
    refine va_get (D := (dC, dI)) (ci := 1) (v := .ref hF) (C := RX1) (T := TX1) (N := 4) hx hb hts iX1_addEvent_X1 hown hK hP 0 rfl rfl 0 (by decide) (hts (.fieldLink RX1 11 "JoinBench$Report" "figures" "[I") (by decide +kernel)) (fun _ h9 => h9) rfl dX1_addEvent_73 ?_
    refine lv_iconst (v := 5) hx hb dX1_addEvent_76 (by decide) ?_
    refine lv_dup2_11 hx hb dX1_addEvent_77 rfl rfl ?_
    refine va_iald hx hb hK hP 1 0 rfl rfl (i := 5) (by unfold vp_in; decide) dX1_addEvent_78 ?_
    refine lv_topi (fun v_2 ev_2 => ?_)
    have hv_2 : v_2 = (F 5) := ev_2.trans (rfl)
    clear ev_2; subst hv_2
    refine lv_iconst (v := 1) hx hb dX1_addEvent_79 (by decide) ?_
    refine lv_iadd hx hb dX1_addEvent_80 ?_
    refine va_iast hx hb hK hP hD hS 1 0 rfl rfl (i := 5) (x := ((F 5) + 1)) (by unfold vp_in; decide) dX1_addEvent_81 (fun H locs hP hD hS => ?_)
    rw [show (5 : Int32).toNatClampNeg = 5 from rfl] at hP hD
    have hP : va_P (dC, dI) vwCl [(hR, .inr (1, [.ref hF, .ref hE, .ref hQ, .int dk])), (hF, .inl (cI, 11, .inl (upd F 5 ((F 5) + 1)))), (hE, .inl (cI, 1500, .inl E)), (hQ, .inl (cI, 4000, .inl P))] H := hP
    have hD : va_D A [(hR, .inr (1, [.ref hF, .ref hE, .ref hQ, .int dk])), (hF, .inl (cI, 11, .inl (upd F 5 ((F 5) + 1)))), (hE, .inl (cI, 1500, .inl E)), (hQ, .inl (cI, 4000, .inl P))] := hD
    refine lv_aload_n hx hb dX1_addEvent_82 rfl (lv_at hl 1 rfl) ?_
    refine va_get (D := (dC, dI)) (ci := 1) (v := .ref hF) (C := RX1) (T := TX1) (N := 4) hx hb hts iX1_addEvent_X1 hown hK hP 0 rfl rfl 0 (by decide) (hts (.fieldLink RX1 11 "JoinBench$Report" "figures" "[I") (by decide +kernel)) (fun _ h9 => h9) rfl dX1_addEvent_83 ?_
    refine lv_bipush (v := 6) hx hb dX1_addEvent_86 (by decide) ?_
    refine lv_iload_n hx hb dX1_addEvent_88 rfl (lv_at hl 2 rfl) ?_
    refine lv_iadd hx hb dX1_addEvent_89 ?_
    refine lv_topi (fun v_3 ev_3 => ?_)
    have hv_3 : v_3 = nI (6 + kd) := ev_3.trans (nI_add 6 kd)
    clear ev_3; subst hv_3
    refine lv_dup2_11 hx hb dX1_addEvent_90 rfl rfl ?_
    refine va_iald hx hb hK hP 1 0 rfl rfl (i := nI (6 + kd)) (vp_in_nI (n := 6 + kd) (by omega) (by decide)) dX1_addEvent_91 ?_
    refine lv_topi (fun v_4 ev_4 => ?_)
    have hv_4 : v_4 = ((upd F 5 ((F 5) + 1)) (6 + kd)) := ev_4.trans (congrArg _ (nI_clamp (by omega)))
    clear ev_4; subst hv_4
    refine lv_iconst (v := 1) hx hb dX1_addEvent_92 (by decide) ?_
    refine lv_iadd hx hb dX1_addEvent_93 ?_
    refine va_iast hx hb hK hP hD hS 1 0 rfl rfl (i := nI (6 + kd)) (x := (((upd F 5 ((F 5) + 1)) (6 + kd)) + 1)) (vp_in_nI (n := 6 + kd) (by omega) (by decide)) dX1_addEvent_94 (fun H locs hP hD hS => ?_)
    rw [show (nI (6 + kd) : Int32).toNatClampNeg = 6 + kd from nI_clamp (by omega)] at hP hD
    have hP : va_P (dC, dI) vwCl [(hR, .inr (1, [.ref hF, .ref hE, .ref hQ, .int dk])), (hF, .inl (cI, 11, .inl (upd (upd F 5 ((F 5) + 1)) (6 + kd) (((upd F 5 ((F 5) + 1)) (6 + kd)) + 1)))), (hE, .inl (cI, 1500, .inl E)), (hQ, .inl (cI, 4000, .inl P))] H := hP
    have hD : va_D A [(hR, .inr (1, [.ref hF, .ref hE, .ref hQ, .int dk])), (hF, .inl (cI, 11, .inl (upd (upd F 5 ((F 5) + 1)) (6 + kd) (((upd F 5 ((F 5) + 1)) (6 + kd)) + 1)))), (hE, .inl (cI, 1500, .inl E)), (hQ, .inl (cI, 4000, .inl P))] := hD
    refine lv_aload_n hx hb dX1_addEvent_95 rfl (lv_at hl 1 rfl) ?_
    refine va_get (D := (dC, dI)) (ci := 1) (v := .ref hF) (C := RX1) (T := TX1) (N := 4) hx hb hts iX1_addEvent_X1 hown hK hP 0 rfl rfl 0 (by decide) (hts (.fieldLink RX1 11 "JoinBench$Report" "figures" "[I") (by decide +kernel)) (fun _ h9 => h9) rfl dX1_addEvent_96 ?_
    refine lv_iconst (v := 0) hx hb dX1_addEvent_99 (by decide) ?_
    refine lv_dup2_11 hx hb dX1_addEvent_100 rfl rfl ?_
    refine va_iald hx hb hK hP 1 0 rfl rfl (i := 0) (by unfold vp_in; decide) dX1_addEvent_101 ?_
    refine lv_topi (fun v_5 ev_5 => ?_)
    have hv_5 : v_5 = ((upd (upd F 5 ((F 5) + 1)) (6 + kd) (((upd F 5 ((F 5) + 1)) (6 + kd)) + 1)) 0) := ev_5.trans (rfl)
    clear ev_5; subst hv_5
    refine lv_iload hx hb dX1_addEvent_102 (lv_at hl 6 rfl) ?_
    refine lv_iadd hx hb dX1_addEvent_104 ?_
    refine va_iast hx hb hK hP hD hS 1 0 rfl rfl (i := 0) (x := (((upd (upd F 5 ((F 5) + 1)) (6 + kd) (((upd F 5 ((F 5) + 1)) (6 + kd)) + 1)) 0) + rd)) (by unfold vp_in; decide) dX1_addEvent_105 (fun H locs hP hD hS => ?_)
    rw [show (0 : Int32).toNatClampNeg = 0 from rfl] at hP hD
    have hP : va_P (dC, dI) vwCl [(hR, .inr (1, [.ref hF, .ref hE, .ref hQ, .int dk])), (hF, .inl (cI, 11, .inl (upd (upd (upd F 5 ((F 5) + 1)) (6 + kd) (((upd F 5 ((F 5) + 1)) (6 + kd)) + 1)) 0 (((upd (upd F 5 ((F 5) + 1)) (6 + kd) (((upd F 5 ((F 5) + 1)) (6 + kd)) + 1)) 0) + rd)))), (hE, .inl (cI, 1500, .inl E)), (hQ, .inl (cI, 4000, .inl P))] H := hP
    have hD : va_D A [(hR, .inr (1, [.ref hF, .ref hE, .ref hQ, .int dk])), (hF, .inl (cI, 11, .inl (upd (upd (upd F 5 ((F 5) + 1)) (6 + kd) (((upd F 5 ((F 5) + 1)) (6 + kd)) + 1)) 0 (((upd (upd F 5 ((F 5) + 1)) (6 + kd) (((upd F 5 ((F 5) + 1)) (6 + kd)) + 1)) 0) + rd)))), (hE, .inl (cI, 1500, .inl E)), (hQ, .inl (cI, 4000, .inl P))] := hD
    refine lv_aload_n hx hb dX1_addEvent_106 rfl (lv_at hl 1 rfl) ?_
    refine va_get (D := (dC, dI)) (ci := 1) (v := .ref hF) (C := RX1) (T := TX1) (N := 4) hx hb hts iX1_addEvent_X1 hown hK hP 0 rfl rfl 0 (by decide) (hts (.fieldLink RX1 11 "JoinBench$Report" "figures" "[I") (by decide +kernel)) (fun _ h9 => h9) rfl dX1_addEvent_107 ?_
    refine lv_iconst (v := 4) hx hb dX1_addEvent_110 (by decide) ?_
    refine lv_aload_n hx hb dX1_addEvent_111 rfl (lv_at hl 1 rfl) ?_
    refine va_get (D := (dC, dI)) (ci := 1) (v := .ref hF) (C := RX1) (T := TX1) (N := 4) hx hb hts iX1_addEvent_X1 hown hK hP 0 rfl rfl 0 (by decide) (hts (.fieldLink RX1 11 "JoinBench$Report" "figures" "[I") (by decide +kernel)) (fun _ h9 => h9) rfl dX1_addEvent_112 ?_
    refine lv_iconst (v := 4) hx hb dX1_addEvent_115 (by decide) ?_
    refine va_iald hx hb hK hP 1 0 rfl rfl (i := 4) (by unfold vp_in; decide) dX1_addEvent_116 ?_
    refine lv_topi (fun v_6 ev_6 => ?_)
    have hv_6 : v_6 = ((upd (upd (upd F 5 ((F 5) + 1)) (6 + kd) (((upd F 5 ((F 5) + 1)) (6 + kd)) + 1)) 0 (((upd (upd F 5 ((F 5) + 1)) (6 + kd) (((upd F 5 ((F 5) + 1)) (6 + kd)) + 1)) 0) + rd)) 4) := ev_6.trans (rfl)
    clear ev_6; subst hv_6
    refine lv_iload_n hx hb dX1_addEvent_117 rfl (lv_at hl 3 rfl) ?_
    refine va_mmax hx hb (by rw [hml]; exact hl.1.symm) hown (hts (.methodLink RX1 31 Lib.Math.max.name) (by decide +kernel)) (hts (.static Lib.Math.max.name) (by decide +kernel)) (hts (.initialized "java/lang/Math") (by decide +kernel)) (hts (.code Lib.Math.max.name Lib.Math.max.code 2 (some .int)) (by decide +kernel)) (by decide +kernel) (Nat.le_of_ble_eq_true rfl) (Nat.zero_le _) (Nat.zero_le _) dX1_addEvent_118 ?_
    refine va_iast hx hb hK hP hD hS 1 0 rfl rfl (i := 4) (x := (if ((upd (upd (upd F 5 ((F 5) + 1)) (6 + kd) (((upd F 5 ((F 5) + 1)) (6 + kd)) + 1)) 0 (((upd (upd F 5 ((F 5) + 1)) (6 + kd) (((upd F 5 ((F 5) + 1)) (6 + kd)) + 1)) 0) + rd)) 4) < lv then lv else ((upd (upd (upd F 5 ((F 5) + 1)) (6 + kd) (((upd F 5 ((F 5) + 1)) (6 + kd)) + 1)) 0 (((upd (upd F 5 ((F 5) + 1)) (6 + kd) (((upd F 5 ((F 5) + 1)) (6 + kd)) + 1)) 0) + rd)) 4))) (by unfold vp_in; decide) dX1_addEvent_121 (fun H locs hP hD hS => ?_)
    rw [show (4 : Int32).toNatClampNeg = 4 from rfl] at hP hD
    have hP : va_P (dC, dI) vwCl [(hR, .inr (1, [.ref hF, .ref hE, .ref hQ, .int dk])), (hF, .inl (cI, 11, .inl (upd (upd (upd (upd F 5 ((F 5) + 1)) (6 + kd) (((upd F 5 ((F 5) + 1)) (6 + kd)) + 1)) 0 (((upd (upd F 5 ((F 5) + 1)) (6 + kd) (((upd F 5 ((F 5) + 1)) (6 + kd)) + 1)) 0) + rd)) 4 (if ((upd (upd (upd F 5 ((F 5) + 1)) (6 + kd) (((upd F 5 ((F 5) + 1)) (6 + kd)) + 1)) 0 (((upd (upd F 5 ((F 5) + 1)) (6 + kd) (((upd F 5 ((F 5) + 1)) (6 + kd)) + 1)) 0) + rd)) 4) < lv then lv else ((upd (upd (upd F 5 ((F 5) + 1)) (6 + kd) (((upd F 5 ((F 5) + 1)) (6 + kd)) + 1)) 0 (((upd (upd F 5 ((F 5) + 1)) (6 + kd) (((upd F 5 ((F 5) + 1)) (6 + kd)) + 1)) 0) + rd)) 4))))), (hE, .inl (cI, 1500, .inl E)), (hQ, .inl (cI, 4000, .inl P))] H := hP
    have hD : va_D A [(hR, .inr (1, [.ref hF, .ref hE, .ref hQ, .int dk])), (hF, .inl (cI, 11, .inl (upd (upd (upd (upd F 5 ((F 5) + 1)) (6 + kd) (((upd F 5 ((F 5) + 1)) (6 + kd)) + 1)) 0 (((upd (upd F 5 ((F 5) + 1)) (6 + kd) (((upd F 5 ((F 5) + 1)) (6 + kd)) + 1)) 0) + rd)) 4 (if ((upd (upd (upd F 5 ((F 5) + 1)) (6 + kd) (((upd F 5 ((F 5) + 1)) (6 + kd)) + 1)) 0 (((upd (upd F 5 ((F 5) + 1)) (6 + kd) (((upd F 5 ((F 5) + 1)) (6 + kd)) + 1)) 0) + rd)) 4) < lv then lv else ((upd (upd (upd F 5 ((F 5) + 1)) (6 + kd) (((upd F 5 ((F 5) + 1)) (6 + kd)) + 1)) 0 (((upd (upd F 5 ((F 5) + 1)) (6 + kd) (((upd F 5 ((F 5) + 1)) (6 + kd)) + 1)) 0) + rd)) 4))))), (hE, .inl (cI, 1500, .inl E)), (hQ, .inl (cI, 4000, .inl P))] := hD
    have hP9 : va_P (dC, dI) vwCl [(hR, .inr (1, [.ref hF, .ref hE, .ref hQ, .int dk])), (hF, .inl (cI, 11, .inl (jb_evF F kd lv rd))), (hE, .inl (cI, 1500, .inl (jb_evE E ev (nI kd) lv x y rd))), (hQ, .inl (cI, 4000, .inl P))] H := by rw [show jb_evE E ev (nI kd) lv x y rd = E from if_neg hge]; exact hP.sub [0, 1, 2, 3] rfl
    have hD9 : va_D A [(hR, .inr (1, [.ref hF, .ref hE, .ref hQ, .int dk])), (hF, .inl (cI, 11, .inl (jb_evF F kd lv rd))), (hE, .inl (cI, 1500, .inl (jb_evE E ev (nI kd) lv x y rd))), (hQ, .inl (cI, 4000, .inl P))] := by rw [show jb_evE E ev (nI kd) lv x y rd = E from if_neg hge]; exact hD.sub [0, 1, 2, 3] (by decide) rfl
    exact W.vret hx hb hr (fun t ht hW => ⟨⟨(), rfl, trivial, by rw [ht]; exact hP9, hD9⟩, hS.F ht⟩) hS.2.2 dX1_addEvent_122
  · have hlt : ev < 300 := (jb_nle (a := 300) (b := ev) (by omega) (by omega)).mp c_13
    refine lv_iload hx hb dX1_addEvent_16 (lv_at hl 0 rfl) ?_
    refine lv_iconst (v := 5) hx hb dX1_addEvent_18 (by decide) ?_
    refine lv_imul hx hb dX1_addEvent_19 ?_
    refine lv_topi (fun v_7 ev_7 => ?_)
    have hv_7 : v_7 = nI (ev * 5) := ev_7.trans (jb_nmul ev 5)
    clear ev_7; subst hv_7
    refine lv_istore (lv' := [(7, .int (nI (ev * 5))), (6, .int (nI ev)), (0, .ref hR), (1, .int (nI kd)), (2, .int lv), (3, .int x), (4, .int y), (5, .int rd)]) hx hb dX1_addEvent_20 hl (by decide) rfl (fun ls hl => ?_)
    refine lv_aload_n hx hb dX1_addEvent_22 rfl (lv_at hl 2 rfl) ?_
    refine va_get (D := (dC, dI)) (ci := 1) (v := .ref hE) (C := RX1) (T := TX1) (N := 4) hx hb hts iX1_addEvent_X1 hown hK hP 0 rfl rfl 1 (by decide) (hts (.fieldLink RX1 15 "JoinBench$Report" "events" "[I") (by decide +kernel)) (fun _ h9 => h9) rfl dX1_addEvent_23 ?_
    refine lv_iload hx hb dX1_addEvent_26 (lv_at hl 0 rfl) ?_
    refine lv_iload_n hx hb dX1_addEvent_28 rfl (lv_at hl 3 rfl) ?_
    refine va_iast hx hb hK hP hD hS 2 0 rfl rfl (i := nI (ev * 5)) (x := nI kd) (vp_in_nI (n := ev * 5) (by omega) (by decide)) dX1_addEvent_29 (fun H locs hP hD hS => ?_)
    rw [show (nI (ev * 5) : Int32).toNatClampNeg = ev * 5 from nI_clamp (by omega)] at hP hD
    have hP : va_P (dC, dI) vwCl [(hR, .inr (1, [.ref hF, .ref hE, .ref hQ, .int dk])), (hF, .inl (cI, 11, .inl F)), (hE, .inl (cI, 1500, .inl (upd E (ev * 5) (nI kd)))), (hQ, .inl (cI, 4000, .inl P))] H := hP
    have hD : va_D A [(hR, .inr (1, [.ref hF, .ref hE, .ref hQ, .int dk])), (hF, .inl (cI, 11, .inl F)), (hE, .inl (cI, 1500, .inl (upd E (ev * 5) (nI kd)))), (hQ, .inl (cI, 4000, .inl P))] := hD
    refine lv_aload_n hx hb dX1_addEvent_30 rfl (lv_at hl 2 rfl) ?_
    refine va_get (D := (dC, dI)) (ci := 1) (v := .ref hE) (C := RX1) (T := TX1) (N := 4) hx hb hts iX1_addEvent_X1 hown hK hP 0 rfl rfl 1 (by decide) (hts (.fieldLink RX1 15 "JoinBench$Report" "events" "[I") (by decide +kernel)) (fun _ h9 => h9) rfl dX1_addEvent_31 ?_
    refine lv_iload hx hb dX1_addEvent_34 (lv_at hl 0 rfl) ?_
    refine lv_iconst (v := 1) hx hb dX1_addEvent_36 (by decide) ?_
    refine lv_iadd hx hb dX1_addEvent_37 ?_
    refine lv_topi (fun v_8 ev_8 => ?_)
    have hv_8 : v_8 = nI (ev * 5 + 1) := ev_8.trans (nI_add (ev * 5) 1)
    clear ev_8; subst hv_8
    refine lv_iload_n hx hb dX1_addEvent_38 rfl (lv_at hl 4 rfl) ?_
    refine va_iast hx hb hK hP hD hS 2 0 rfl rfl (i := nI (ev * 5 + 1)) (x := lv) (vp_in_nI (n := ev * 5 + 1) (by omega) (by decide)) dX1_addEvent_39 (fun H locs hP hD hS => ?_)
    rw [show (nI (ev * 5 + 1) : Int32).toNatClampNeg = ev * 5 + 1 from nI_clamp (by omega)] at hP hD
    have hP : va_P (dC, dI) vwCl [(hR, .inr (1, [.ref hF, .ref hE, .ref hQ, .int dk])), (hF, .inl (cI, 11, .inl F)), (hE, .inl (cI, 1500, .inl (upd (upd E (ev * 5) (nI kd)) (ev * 5 + 1) lv))), (hQ, .inl (cI, 4000, .inl P))] H := hP
    have hD : va_D A [(hR, .inr (1, [.ref hF, .ref hE, .ref hQ, .int dk])), (hF, .inl (cI, 11, .inl F)), (hE, .inl (cI, 1500, .inl (upd (upd E (ev * 5) (nI kd)) (ev * 5 + 1) lv))), (hQ, .inl (cI, 4000, .inl P))] := hD
    refine lv_aload_n hx hb dX1_addEvent_40 rfl (lv_at hl 2 rfl) ?_
    refine va_get (D := (dC, dI)) (ci := 1) (v := .ref hE) (C := RX1) (T := TX1) (N := 4) hx hb hts iX1_addEvent_X1 hown hK hP 0 rfl rfl 1 (by decide) (hts (.fieldLink RX1 15 "JoinBench$Report" "events" "[I") (by decide +kernel)) (fun _ h9 => h9) rfl dX1_addEvent_41 ?_
    refine lv_iload hx hb dX1_addEvent_44 (lv_at hl 0 rfl) ?_
    refine lv_iconst (v := 2) hx hb dX1_addEvent_46 (by decide) ?_
    refine lv_iadd hx hb dX1_addEvent_47 ?_
    refine lv_topi (fun v_9 ev_9 => ?_)
    have hv_9 : v_9 = nI (ev * 5 + 2) := ev_9.trans (nI_add (ev * 5) 2)
    clear ev_9; subst hv_9
    refine lv_iload_n hx hb dX1_addEvent_48 rfl (lv_at hl 5 rfl) ?_
    refine va_iast hx hb hK hP hD hS 2 0 rfl rfl (i := nI (ev * 5 + 2)) (x := x) (vp_in_nI (n := ev * 5 + 2) (by omega) (by decide)) dX1_addEvent_49 (fun H locs hP hD hS => ?_)
    rw [show (nI (ev * 5 + 2) : Int32).toNatClampNeg = ev * 5 + 2 from nI_clamp (by omega)] at hP hD
    have hP : va_P (dC, dI) vwCl [(hR, .inr (1, [.ref hF, .ref hE, .ref hQ, .int dk])), (hF, .inl (cI, 11, .inl F)), (hE, .inl (cI, 1500, .inl (upd (upd (upd E (ev * 5) (nI kd)) (ev * 5 + 1) lv) (ev * 5 + 2) x))), (hQ, .inl (cI, 4000, .inl P))] H := hP
    have hD : va_D A [(hR, .inr (1, [.ref hF, .ref hE, .ref hQ, .int dk])), (hF, .inl (cI, 11, .inl F)), (hE, .inl (cI, 1500, .inl (upd (upd (upd E (ev * 5) (nI kd)) (ev * 5 + 1) lv) (ev * 5 + 2) x))), (hQ, .inl (cI, 4000, .inl P))] := hD
    refine lv_aload_n hx hb dX1_addEvent_50 rfl (lv_at hl 2 rfl) ?_
    refine va_get (D := (dC, dI)) (ci := 1) (v := .ref hE) (C := RX1) (T := TX1) (N := 4) hx hb hts iX1_addEvent_X1 hown hK hP 0 rfl rfl 1 (by decide) (hts (.fieldLink RX1 15 "JoinBench$Report" "events" "[I") (by decide +kernel)) (fun _ h9 => h9) rfl dX1_addEvent_51 ?_
    refine lv_iload hx hb dX1_addEvent_54 (lv_at hl 0 rfl) ?_
    refine lv_iconst (v := 3) hx hb dX1_addEvent_56 (by decide) ?_
    refine lv_iadd hx hb dX1_addEvent_57 ?_
    refine lv_topi (fun v_10 ev_10 => ?_)
    have hv_10 : v_10 = nI (ev * 5 + 3) := ev_10.trans (nI_add (ev * 5) 3)
    clear ev_10; subst hv_10
    refine lv_iload hx hb dX1_addEvent_58 (lv_at hl 6 rfl) ?_
    refine va_iast hx hb hK hP hD hS 2 0 rfl rfl (i := nI (ev * 5 + 3)) (x := y) (vp_in_nI (n := ev * 5 + 3) (by omega) (by decide)) dX1_addEvent_60 (fun H locs hP hD hS => ?_)
    rw [show (nI (ev * 5 + 3) : Int32).toNatClampNeg = ev * 5 + 3 from nI_clamp (by omega)] at hP hD
    have hP : va_P (dC, dI) vwCl [(hR, .inr (1, [.ref hF, .ref hE, .ref hQ, .int dk])), (hF, .inl (cI, 11, .inl F)), (hE, .inl (cI, 1500, .inl (upd (upd (upd (upd E (ev * 5) (nI kd)) (ev * 5 + 1) lv) (ev * 5 + 2) x) (ev * 5 + 3) y))), (hQ, .inl (cI, 4000, .inl P))] H := hP
    have hD : va_D A [(hR, .inr (1, [.ref hF, .ref hE, .ref hQ, .int dk])), (hF, .inl (cI, 11, .inl F)), (hE, .inl (cI, 1500, .inl (upd (upd (upd (upd E (ev * 5) (nI kd)) (ev * 5 + 1) lv) (ev * 5 + 2) x) (ev * 5 + 3) y))), (hQ, .inl (cI, 4000, .inl P))] := hD
    refine lv_aload_n hx hb dX1_addEvent_61 rfl (lv_at hl 2 rfl) ?_
    refine va_get (D := (dC, dI)) (ci := 1) (v := .ref hE) (C := RX1) (T := TX1) (N := 4) hx hb hts iX1_addEvent_X1 hown hK hP 0 rfl rfl 1 (by decide) (hts (.fieldLink RX1 15 "JoinBench$Report" "events" "[I") (by decide +kernel)) (fun _ h9 => h9) rfl dX1_addEvent_62 ?_
    refine lv_iload hx hb dX1_addEvent_65 (lv_at hl 0 rfl) ?_
    refine lv_iconst (v := 4) hx hb dX1_addEvent_67 (by decide) ?_
    refine lv_iadd hx hb dX1_addEvent_68 ?_
    refine lv_topi (fun v_11 ev_11 => ?_)
    have hv_11 : v_11 = nI (ev * 5 + 4) := ev_11.trans (nI_add (ev * 5) 4)
    clear ev_11; subst hv_11
    refine lv_iload hx hb dX1_addEvent_69 (lv_at hl 7 rfl) ?_
    refine va_iast hx hb hK hP hD hS 2 0 rfl rfl (i := nI (ev * 5 + 4)) (x := rd) (vp_in_nI (n := ev * 5 + 4) (by omega) (by decide)) dX1_addEvent_71 (fun H locs hP hD hS => ?_)
    rw [show (nI (ev * 5 + 4) : Int32).toNatClampNeg = ev * 5 + 4 from nI_clamp (by omega)] at hP hD
    have hP : va_P (dC, dI) vwCl [(hR, .inr (1, [.ref hF, .ref hE, .ref hQ, .int dk])), (hF, .inl (cI, 11, .inl F)), (hE, .inl (cI, 1500, .inl (upd (upd (upd (upd (upd E (ev * 5) (nI kd)) (ev * 5 + 1) lv) (ev * 5 + 2) x) (ev * 5 + 3) y) (ev * 5 + 4) rd))), (hQ, .inl (cI, 4000, .inl P))] H := hP
    have hD : va_D A [(hR, .inr (1, [.ref hF, .ref hE, .ref hQ, .int dk])), (hF, .inl (cI, 11, .inl F)), (hE, .inl (cI, 1500, .inl (upd (upd (upd (upd (upd E (ev * 5) (nI kd)) (ev * 5 + 1) lv) (ev * 5 + 2) x) (ev * 5 + 3) y) (ev * 5 + 4) rd))), (hQ, .inl (cI, 4000, .inl P))] := hD
    refine lv_aload_n hx hb dX1_addEvent_72 rfl (lv_at hl 2 rfl) ?_
    refine va_get (D := (dC, dI)) (ci := 1) (v := .ref hF) (C := RX1) (T := TX1) (N := 4) hx hb hts iX1_addEvent_X1 hown hK hP 0 rfl rfl 0 (by decide) (hts (.fieldLink RX1 11 "JoinBench$Report" "figures" "[I") (by decide +kernel)) (fun _ h9 => h9) rfl dX1_addEvent_73 ?_
    refine lv_iconst (v := 5) hx hb dX1_addEvent_76 (by decide) ?_
    refine lv_dup2_11 hx hb dX1_addEvent_77 rfl rfl ?_
    refine va_iald hx hb hK hP 1 0 rfl rfl (i := 5) (by unfold vp_in; decide) dX1_addEvent_78 ?_
    refine lv_topi (fun v_12 ev_12 => ?_)
    have hv_12 : v_12 = (F 5) := ev_12.trans (rfl)
    clear ev_12; subst hv_12
    refine lv_iconst (v := 1) hx hb dX1_addEvent_79 (by decide) ?_
    refine lv_iadd hx hb dX1_addEvent_80 ?_
    refine va_iast hx hb hK hP hD hS 1 0 rfl rfl (i := 5) (x := ((F 5) + 1)) (by unfold vp_in; decide) dX1_addEvent_81 (fun H locs hP hD hS => ?_)
    rw [show (5 : Int32).toNatClampNeg = 5 from rfl] at hP hD
    have hP : va_P (dC, dI) vwCl [(hR, .inr (1, [.ref hF, .ref hE, .ref hQ, .int dk])), (hF, .inl (cI, 11, .inl (upd F 5 ((F 5) + 1)))), (hE, .inl (cI, 1500, .inl (upd (upd (upd (upd (upd E (ev * 5) (nI kd)) (ev * 5 + 1) lv) (ev * 5 + 2) x) (ev * 5 + 3) y) (ev * 5 + 4) rd))), (hQ, .inl (cI, 4000, .inl P))] H := hP
    have hD : va_D A [(hR, .inr (1, [.ref hF, .ref hE, .ref hQ, .int dk])), (hF, .inl (cI, 11, .inl (upd F 5 ((F 5) + 1)))), (hE, .inl (cI, 1500, .inl (upd (upd (upd (upd (upd E (ev * 5) (nI kd)) (ev * 5 + 1) lv) (ev * 5 + 2) x) (ev * 5 + 3) y) (ev * 5 + 4) rd))), (hQ, .inl (cI, 4000, .inl P))] := hD
    refine lv_aload_n hx hb dX1_addEvent_82 rfl (lv_at hl 2 rfl) ?_
    refine va_get (D := (dC, dI)) (ci := 1) (v := .ref hF) (C := RX1) (T := TX1) (N := 4) hx hb hts iX1_addEvent_X1 hown hK hP 0 rfl rfl 0 (by decide) (hts (.fieldLink RX1 11 "JoinBench$Report" "figures" "[I") (by decide +kernel)) (fun _ h9 => h9) rfl dX1_addEvent_83 ?_
    refine lv_bipush (v := 6) hx hb dX1_addEvent_86 (by decide) ?_
    refine lv_iload_n hx hb dX1_addEvent_88 rfl (lv_at hl 3 rfl) ?_
    refine lv_iadd hx hb dX1_addEvent_89 ?_
    refine lv_topi (fun v_13 ev_13 => ?_)
    have hv_13 : v_13 = nI (6 + kd) := ev_13.trans (nI_add 6 kd)
    clear ev_13; subst hv_13
    refine lv_dup2_11 hx hb dX1_addEvent_90 rfl rfl ?_
    refine va_iald hx hb hK hP 1 0 rfl rfl (i := nI (6 + kd)) (vp_in_nI (n := 6 + kd) (by omega) (by decide)) dX1_addEvent_91 ?_
    refine lv_topi (fun v_14 ev_14 => ?_)
    have hv_14 : v_14 = ((upd F 5 ((F 5) + 1)) (6 + kd)) := ev_14.trans (congrArg _ (nI_clamp (by omega)))
    clear ev_14; subst hv_14
    refine lv_iconst (v := 1) hx hb dX1_addEvent_92 (by decide) ?_
    refine lv_iadd hx hb dX1_addEvent_93 ?_
    refine va_iast hx hb hK hP hD hS 1 0 rfl rfl (i := nI (6 + kd)) (x := (((upd F 5 ((F 5) + 1)) (6 + kd)) + 1)) (vp_in_nI (n := 6 + kd) (by omega) (by decide)) dX1_addEvent_94 (fun H locs hP hD hS => ?_)
    rw [show (nI (6 + kd) : Int32).toNatClampNeg = 6 + kd from nI_clamp (by omega)] at hP hD
    have hP : va_P (dC, dI) vwCl [(hR, .inr (1, [.ref hF, .ref hE, .ref hQ, .int dk])), (hF, .inl (cI, 11, .inl (upd (upd F 5 ((F 5) + 1)) (6 + kd) (((upd F 5 ((F 5) + 1)) (6 + kd)) + 1)))), (hE, .inl (cI, 1500, .inl (upd (upd (upd (upd (upd E (ev * 5) (nI kd)) (ev * 5 + 1) lv) (ev * 5 + 2) x) (ev * 5 + 3) y) (ev * 5 + 4) rd))), (hQ, .inl (cI, 4000, .inl P))] H := hP
    have hD : va_D A [(hR, .inr (1, [.ref hF, .ref hE, .ref hQ, .int dk])), (hF, .inl (cI, 11, .inl (upd (upd F 5 ((F 5) + 1)) (6 + kd) (((upd F 5 ((F 5) + 1)) (6 + kd)) + 1)))), (hE, .inl (cI, 1500, .inl (upd (upd (upd (upd (upd E (ev * 5) (nI kd)) (ev * 5 + 1) lv) (ev * 5 + 2) x) (ev * 5 + 3) y) (ev * 5 + 4) rd))), (hQ, .inl (cI, 4000, .inl P))] := hD
    refine lv_aload_n hx hb dX1_addEvent_95 rfl (lv_at hl 2 rfl) ?_
    refine va_get (D := (dC, dI)) (ci := 1) (v := .ref hF) (C := RX1) (T := TX1) (N := 4) hx hb hts iX1_addEvent_X1 hown hK hP 0 rfl rfl 0 (by decide) (hts (.fieldLink RX1 11 "JoinBench$Report" "figures" "[I") (by decide +kernel)) (fun _ h9 => h9) rfl dX1_addEvent_96 ?_
    refine lv_iconst (v := 0) hx hb dX1_addEvent_99 (by decide) ?_
    refine lv_dup2_11 hx hb dX1_addEvent_100 rfl rfl ?_
    refine va_iald hx hb hK hP 1 0 rfl rfl (i := 0) (by unfold vp_in; decide) dX1_addEvent_101 ?_
    refine lv_topi (fun v_15 ev_15 => ?_)
    have hv_15 : v_15 = ((upd (upd F 5 ((F 5) + 1)) (6 + kd) (((upd F 5 ((F 5) + 1)) (6 + kd)) + 1)) 0) := ev_15.trans (rfl)
    clear ev_15; subst hv_15
    refine lv_iload hx hb dX1_addEvent_102 (lv_at hl 7 rfl) ?_
    refine lv_iadd hx hb dX1_addEvent_104 ?_
    refine va_iast hx hb hK hP hD hS 1 0 rfl rfl (i := 0) (x := (((upd (upd F 5 ((F 5) + 1)) (6 + kd) (((upd F 5 ((F 5) + 1)) (6 + kd)) + 1)) 0) + rd)) (by unfold vp_in; decide) dX1_addEvent_105 (fun H locs hP hD hS => ?_)
    rw [show (0 : Int32).toNatClampNeg = 0 from rfl] at hP hD
    have hP : va_P (dC, dI) vwCl [(hR, .inr (1, [.ref hF, .ref hE, .ref hQ, .int dk])), (hF, .inl (cI, 11, .inl (upd (upd (upd F 5 ((F 5) + 1)) (6 + kd) (((upd F 5 ((F 5) + 1)) (6 + kd)) + 1)) 0 (((upd (upd F 5 ((F 5) + 1)) (6 + kd) (((upd F 5 ((F 5) + 1)) (6 + kd)) + 1)) 0) + rd)))), (hE, .inl (cI, 1500, .inl (upd (upd (upd (upd (upd E (ev * 5) (nI kd)) (ev * 5 + 1) lv) (ev * 5 + 2) x) (ev * 5 + 3) y) (ev * 5 + 4) rd))), (hQ, .inl (cI, 4000, .inl P))] H := hP
    have hD : va_D A [(hR, .inr (1, [.ref hF, .ref hE, .ref hQ, .int dk])), (hF, .inl (cI, 11, .inl (upd (upd (upd F 5 ((F 5) + 1)) (6 + kd) (((upd F 5 ((F 5) + 1)) (6 + kd)) + 1)) 0 (((upd (upd F 5 ((F 5) + 1)) (6 + kd) (((upd F 5 ((F 5) + 1)) (6 + kd)) + 1)) 0) + rd)))), (hE, .inl (cI, 1500, .inl (upd (upd (upd (upd (upd E (ev * 5) (nI kd)) (ev * 5 + 1) lv) (ev * 5 + 2) x) (ev * 5 + 3) y) (ev * 5 + 4) rd))), (hQ, .inl (cI, 4000, .inl P))] := hD
    refine lv_aload_n hx hb dX1_addEvent_106 rfl (lv_at hl 2 rfl) ?_
    refine va_get (D := (dC, dI)) (ci := 1) (v := .ref hF) (C := RX1) (T := TX1) (N := 4) hx hb hts iX1_addEvent_X1 hown hK hP 0 rfl rfl 0 (by decide) (hts (.fieldLink RX1 11 "JoinBench$Report" "figures" "[I") (by decide +kernel)) (fun _ h9 => h9) rfl dX1_addEvent_107 ?_
    refine lv_iconst (v := 4) hx hb dX1_addEvent_110 (by decide) ?_
    refine lv_aload_n hx hb dX1_addEvent_111 rfl (lv_at hl 2 rfl) ?_
    refine va_get (D := (dC, dI)) (ci := 1) (v := .ref hF) (C := RX1) (T := TX1) (N := 4) hx hb hts iX1_addEvent_X1 hown hK hP 0 rfl rfl 0 (by decide) (hts (.fieldLink RX1 11 "JoinBench$Report" "figures" "[I") (by decide +kernel)) (fun _ h9 => h9) rfl dX1_addEvent_112 ?_
    refine lv_iconst (v := 4) hx hb dX1_addEvent_115 (by decide) ?_
    refine va_iald hx hb hK hP 1 0 rfl rfl (i := 4) (by unfold vp_in; decide) dX1_addEvent_116 ?_
    refine lv_topi (fun v_16 ev_16 => ?_)
    have hv_16 : v_16 = ((upd (upd (upd F 5 ((F 5) + 1)) (6 + kd) (((upd F 5 ((F 5) + 1)) (6 + kd)) + 1)) 0 (((upd (upd F 5 ((F 5) + 1)) (6 + kd) (((upd F 5 ((F 5) + 1)) (6 + kd)) + 1)) 0) + rd)) 4) := ev_16.trans (rfl)
    clear ev_16; subst hv_16
    refine lv_iload_n hx hb dX1_addEvent_117 rfl (lv_at hl 4 rfl) ?_
    refine va_mmax hx hb (by rw [hml]; exact hl.1.symm) hown (hts (.methodLink RX1 31 Lib.Math.max.name) (by decide +kernel)) (hts (.static Lib.Math.max.name) (by decide +kernel)) (hts (.initialized "java/lang/Math") (by decide +kernel)) (hts (.code Lib.Math.max.name Lib.Math.max.code 2 (some .int)) (by decide +kernel)) (by decide +kernel) (Nat.le_of_ble_eq_true rfl) (Nat.zero_le _) (Nat.zero_le _) dX1_addEvent_118 ?_
    refine va_iast hx hb hK hP hD hS 1 0 rfl rfl (i := 4) (x := (if ((upd (upd (upd F 5 ((F 5) + 1)) (6 + kd) (((upd F 5 ((F 5) + 1)) (6 + kd)) + 1)) 0 (((upd (upd F 5 ((F 5) + 1)) (6 + kd) (((upd F 5 ((F 5) + 1)) (6 + kd)) + 1)) 0) + rd)) 4) < lv then lv else ((upd (upd (upd F 5 ((F 5) + 1)) (6 + kd) (((upd F 5 ((F 5) + 1)) (6 + kd)) + 1)) 0 (((upd (upd F 5 ((F 5) + 1)) (6 + kd) (((upd F 5 ((F 5) + 1)) (6 + kd)) + 1)) 0) + rd)) 4))) (by unfold vp_in; decide) dX1_addEvent_121 (fun H locs hP hD hS => ?_)
    rw [show (4 : Int32).toNatClampNeg = 4 from rfl] at hP hD
    have hP : va_P (dC, dI) vwCl [(hR, .inr (1, [.ref hF, .ref hE, .ref hQ, .int dk])), (hF, .inl (cI, 11, .inl (upd (upd (upd (upd F 5 ((F 5) + 1)) (6 + kd) (((upd F 5 ((F 5) + 1)) (6 + kd)) + 1)) 0 (((upd (upd F 5 ((F 5) + 1)) (6 + kd) (((upd F 5 ((F 5) + 1)) (6 + kd)) + 1)) 0) + rd)) 4 (if ((upd (upd (upd F 5 ((F 5) + 1)) (6 + kd) (((upd F 5 ((F 5) + 1)) (6 + kd)) + 1)) 0 (((upd (upd F 5 ((F 5) + 1)) (6 + kd) (((upd F 5 ((F 5) + 1)) (6 + kd)) + 1)) 0) + rd)) 4) < lv then lv else ((upd (upd (upd F 5 ((F 5) + 1)) (6 + kd) (((upd F 5 ((F 5) + 1)) (6 + kd)) + 1)) 0 (((upd (upd F 5 ((F 5) + 1)) (6 + kd) (((upd F 5 ((F 5) + 1)) (6 + kd)) + 1)) 0) + rd)) 4))))), (hE, .inl (cI, 1500, .inl (upd (upd (upd (upd (upd E (ev * 5) (nI kd)) (ev * 5 + 1) lv) (ev * 5 + 2) x) (ev * 5 + 3) y) (ev * 5 + 4) rd))), (hQ, .inl (cI, 4000, .inl P))] H := hP
    have hD : va_D A [(hR, .inr (1, [.ref hF, .ref hE, .ref hQ, .int dk])), (hF, .inl (cI, 11, .inl (upd (upd (upd (upd F 5 ((F 5) + 1)) (6 + kd) (((upd F 5 ((F 5) + 1)) (6 + kd)) + 1)) 0 (((upd (upd F 5 ((F 5) + 1)) (6 + kd) (((upd F 5 ((F 5) + 1)) (6 + kd)) + 1)) 0) + rd)) 4 (if ((upd (upd (upd F 5 ((F 5) + 1)) (6 + kd) (((upd F 5 ((F 5) + 1)) (6 + kd)) + 1)) 0 (((upd (upd F 5 ((F 5) + 1)) (6 + kd) (((upd F 5 ((F 5) + 1)) (6 + kd)) + 1)) 0) + rd)) 4) < lv then lv else ((upd (upd (upd F 5 ((F 5) + 1)) (6 + kd) (((upd F 5 ((F 5) + 1)) (6 + kd)) + 1)) 0 (((upd (upd F 5 ((F 5) + 1)) (6 + kd) (((upd F 5 ((F 5) + 1)) (6 + kd)) + 1)) 0) + rd)) 4))))), (hE, .inl (cI, 1500, .inl (upd (upd (upd (upd (upd E (ev * 5) (nI kd)) (ev * 5 + 1) lv) (ev * 5 + 2) x) (ev * 5 + 3) y) (ev * 5 + 4) rd))), (hQ, .inl (cI, 4000, .inl P))] := hD
    have hP9 : va_P (dC, dI) vwCl [(hR, .inr (1, [.ref hF, .ref hE, .ref hQ, .int dk])), (hF, .inl (cI, 11, .inl (jb_evF F kd lv rd))), (hE, .inl (cI, 1500, .inl (jb_evE E ev (nI kd) lv x y rd))), (hQ, .inl (cI, 4000, .inl P))] H := by rw [show jb_evE E ev (nI kd) lv x y rd = (upd (upd (upd (upd (upd E (ev * 5) (nI kd)) (ev * 5 + 1) lv) (ev * 5 + 2) x) (ev * 5 + 3) y) (ev * 5 + 4) rd) from if_pos hlt]; exact hP.sub [0, 1, 2, 3] rfl
    have hD9 : va_D A [(hR, .inr (1, [.ref hF, .ref hE, .ref hQ, .int dk])), (hF, .inl (cI, 11, .inl (jb_evF F kd lv rd))), (hE, .inl (cI, 1500, .inl (jb_evE E ev (nI kd) lv x y rd))), (hQ, .inl (cI, 4000, .inl P))] := by rw [show jb_evE E ev (nI kd) lv x y rd = (upd (upd (upd (upd (upd E (ev * 5) (nI kd)) (ev * 5 + 1) lv) (ev * 5 + 2) x) (ev * 5 + 3) y) (ev * 5 + 4) rd) from if_pos hlt]; exact hD.sub [0, 1, 2, 3] (by decide) rfl
    exact W.vret hx hb hr (fun t ht hW => ⟨⟨(), rfl, trivial, by rw [ht]; exact hP9, hD9⟩, hS.F ht⟩) hS.2.2 dX1_addEvent_122
theorem iX1_takeMemory_X1 : ∀ w ∈ wsX10, w ∈ wsX1_takeMemory := by decide +kernel
set_option maxHeartbeats 1000000 in
set_option maxRecDepth 100000 in
/-- Report.takeMemory -/
theorem c_takeMemory (l : Launch) (dC : Nat → ClassId) (dI : Nat → Nat → Nat) (cI : ClassId) (sz : Nat) (hR hF hE hQ : Nat) (F E P : Nat → Int32) (dk : Int32) (x : Int32) : Met l yX1_takeMemory wsX1_takeMemory ({ frames := 2, cells := 0, slots := 0, locals := 80 } : Room) (va_Pc [.ref hR, .int x] (jb_M dC dI cI sz [(hR, .inr (1, [.ref hF, .ref hE, .ref hQ, .int dk])), (hF, .inl (cI, 11, .inl F)), (hE, .inl (cI, 1500, .inl E)), (hQ, .inl (cI, 4000, .inl P))])) (va_Qv (fun (_ : Unit) => True) (jb_B dC dI (va_A [(hR, .inr (1, [.ref hF, .ref hE, .ref hQ, .int dk])), (hF, .inl (cI, 11, .inl F)), (hE, .inl (cI, 1500, .inl E)), (hQ, .inl (cI, 4000, .inl P))] sz) (fun _ => [(hR, .inr (1, [.ref hF, .ref hE, .ref hQ, .int dk])), (hF, .inl (cI, 11, .inl (upd F 2 (if F 2 < x then x else F 2)))), (hE, .inl (cI, 1500, .inl E)), (hQ, .inl (cI, 4000, .inl P))])) (va_A [(hR, .inr (1, [.ref hF, .ref hE, .ref hQ, .int dk])), (hF, .inl (cI, 11, .inl F)), (hE, .inl (cI, 1500, .inl E)), (hQ, .inl (cI, 4000, .inl P))] sz)) 0 0 (va_A [(hR, .inr (1, [.ref hF, .ref hE, .ref hQ, .int dk])), (hF, .inl (cI, 11, .inl F)), (hE, .inl (cI, 1500, .inl E)), (hQ, .inl (cI, 4000, .inl P))] sz) := by
  refine Met.ofW (cc := cX1_takeMemory) (maxL := 2) (ret := none) (by decide) rfl ?_
  intro p e s m args below meth c s₁ B hml hv
  obtain ⟨rfl, hsz, hP, hK, hNw, hD0⟩ := hv
  have hx := B.exec
  have hb := B.bytes
  have hr := B.returns
  have hts := atoms_spec (ws := wsX1_takeMemory) B.pre
  have hown : s.vm.findClass RX1 = some m.cls := findClass_of_methodNamed B.named
  have hlocks := B.notSynchronized
  subst hsz
  have hD := hD0.self (sz := s.heap.size)
  generalize hAe : va_A [(hR, .inr (1, [.ref hF, .ref hE, .ref hQ, .int dk])), (hF, .inl (cI, 11, .inl F)), (hE, .inl (cI, 1500, .inl E)), (hQ, .inl (cI, 4000, .inl P))] s.heap.size = A at hD ⊢
  have hA : ∀ q : Nat, s.heap.size ≤ q → A q := fun q h => by rw [← hAe]; exact Or.inr h
  have hS : va_S A s.heap s.heap [] := va_S.rf
  have hP : va_P (dC, dI) vwCl [(hR, .inr (1, [.ref hF, .ref hE, .ref hQ, .int dk])), (hF, .inl (cI, 11, .inl F)), (hE, .inl (cI, 1500, .inl E)), (hQ, .inl (cI, 4000, .inl P))] s.heap := hP
  have hl := lv_entry ([.ref hR, .int x]) (n := 2) (Nat.le_of_ble_eq_true rfl)
  rw [lg_entry_eq]
  generalize (lg_sl ([.ref hR, .int x]) ++ List.replicate (2 - (lg_sl ([.ref hR, .int x])).length) Slot.unset).toArray = ls at hl ⊢
  have hl : lv_has ls 2 [(0, .ref hR), (1, .int x)] := hl
  refine lv_aload_n hx hb dX1_takeMemory_0 rfl (lv_at hl 0 rfl) ?_
  refine va_get (D := (dC, dI)) (ci := 1) (v := .ref hF) (C := RX1) (T := TX1) (N := 4) hx hb hts iX1_takeMemory_X1 hown hK hP 0 rfl rfl 0 (by decide) (hts (.fieldLink RX1 11 "JoinBench$Report" "figures" "[I") (by decide +kernel)) (fun _ h9 => h9) rfl dX1_takeMemory_1 ?_
  refine lv_iconst (v := 2) hx hb dX1_takeMemory_4 (by decide) ?_
  refine lv_aload_n hx hb dX1_takeMemory_5 rfl (lv_at hl 0 rfl) ?_
  refine va_get (D := (dC, dI)) (ci := 1) (v := .ref hF) (C := RX1) (T := TX1) (N := 4) hx hb hts iX1_takeMemory_X1 hown hK hP 0 rfl rfl 0 (by decide) (hts (.fieldLink RX1 11 "JoinBench$Report" "figures" "[I") (by decide +kernel)) (fun _ h9 => h9) rfl dX1_takeMemory_6 ?_
  refine lv_iconst (v := 2) hx hb dX1_takeMemory_9 (by decide) ?_
  refine va_iald hx hb hK hP 1 0 rfl rfl (i := 2) (by unfold vp_in; decide) dX1_takeMemory_10 ?_
  refine lv_topi (fun v_1 ev_1 => ?_)
  have hv_1 : v_1 = (F 2) := ev_1.trans (rfl)
  clear ev_1; subst hv_1
  refine lv_iload_n hx hb dX1_takeMemory_11 rfl (lv_at hl 1 rfl) ?_
  refine va_mmax hx hb (by rw [hml]; exact hl.1.symm) hown (hts (.methodLink RX1 31 Lib.Math.max.name) (by decide +kernel)) (hts (.static Lib.Math.max.name) (by decide +kernel)) (hts (.initialized "java/lang/Math") (by decide +kernel)) (hts (.code Lib.Math.max.name Lib.Math.max.code 2 (some .int)) (by decide +kernel)) (by decide +kernel) (Nat.le_of_ble_eq_true rfl) (Nat.zero_le _) (Nat.zero_le _) dX1_takeMemory_12 ?_
  refine va_iast hx hb hK hP hD hS 1 0 rfl rfl (i := 2) (x := (if (F 2) < x then x else (F 2))) (by unfold vp_in; decide) dX1_takeMemory_15 (fun H locs hP hD hS => ?_)
  rw [show (2 : Int32).toNatClampNeg = 2 from rfl] at hP hD
  have hP : va_P (dC, dI) vwCl [(hR, .inr (1, [.ref hF, .ref hE, .ref hQ, .int dk])), (hF, .inl (cI, 11, .inl (upd F 2 (if (F 2) < x then x else (F 2))))), (hE, .inl (cI, 1500, .inl E)), (hQ, .inl (cI, 4000, .inl P))] H := hP
  have hD : va_D A [(hR, .inr (1, [.ref hF, .ref hE, .ref hQ, .int dk])), (hF, .inl (cI, 11, .inl (upd F 2 (if (F 2) < x then x else (F 2))))), (hE, .inl (cI, 1500, .inl E)), (hQ, .inl (cI, 4000, .inl P))] := hD
  have hP9 : va_P (dC, dI) vwCl [(hR, .inr (1, [.ref hF, .ref hE, .ref hQ, .int dk])), (hF, .inl (cI, 11, .inl (upd F 2 (if F 2 < x then x else F 2)))), (hE, .inl (cI, 1500, .inl E)), (hQ, .inl (cI, 4000, .inl P))] H := hP.sub [0, 1, 2, 3] rfl
  have hD9 : va_D A [(hR, .inr (1, [.ref hF, .ref hE, .ref hQ, .int dk])), (hF, .inl (cI, 11, .inl (upd F 2 (if F 2 < x then x else F 2)))), (hE, .inl (cI, 1500, .inl E)), (hQ, .inl (cI, 4000, .inl P))] := hD.sub [0, 1, 2, 3] (by decide) rfl
  exact W.vret hx hb hr (fun t ht hW => ⟨⟨(), rfl, trivial, by rw [ht]; exact hP9, hD9⟩, hS.F ht⟩) hS.2.2 dX1_takeMemory_16
def jb_wdF (F : Nat → Int32) (dk x : Int32) : Nat → Int32 :=
  let F1 := upd F 1 (F 1 + x)
  upd F1 3 (if F1 3 < dk + x then dk + x else F1 3)
theorem iX1_writeToDisk_X1 : ∀ w ∈ wsX10, w ∈ wsX1_writeToDisk := by decide +kernel
set_option maxHeartbeats 1000000 in
set_option maxRecDepth 100000 in
/-- Report.writeToDisk -/
theorem c_writeToDisk (l : Launch) (dC : Nat → ClassId) (dI : Nat → Nat → Nat) (cI : ClassId) (sz : Nat) (hR hF hE hQ : Nat) (F E P : Nat → Int32) (dk : Int32) (x : Int32) : Met l yX1_writeToDisk wsX1_writeToDisk ({ frames := 2, cells := 0, slots := 0, locals := 80 } : Room) (va_Pc [.ref hR, .int x] (jb_M dC dI cI sz [(hR, .inr (1, [.ref hF, .ref hE, .ref hQ, .int dk])), (hF, .inl (cI, 11, .inl F)), (hE, .inl (cI, 1500, .inl E)), (hQ, .inl (cI, 4000, .inl P))])) (va_Qv (fun (_ : Unit) => True) (jb_B dC dI (va_A [(hR, .inr (1, [.ref hF, .ref hE, .ref hQ, .int dk])), (hF, .inl (cI, 11, .inl F)), (hE, .inl (cI, 1500, .inl E)), (hQ, .inl (cI, 4000, .inl P))] sz) (fun _ => [(hR, .inr (1, [.ref hF, .ref hE, .ref hQ, .int (dk + x)])), (hF, .inl (cI, 11, .inl (jb_wdF F dk x))), (hE, .inl (cI, 1500, .inl E)), (hQ, .inl (cI, 4000, .inl P))])) (va_A [(hR, .inr (1, [.ref hF, .ref hE, .ref hQ, .int dk])), (hF, .inl (cI, 11, .inl F)), (hE, .inl (cI, 1500, .inl E)), (hQ, .inl (cI, 4000, .inl P))] sz)) 0 0 (va_A [(hR, .inr (1, [.ref hF, .ref hE, .ref hQ, .int dk])), (hF, .inl (cI, 11, .inl F)), (hE, .inl (cI, 1500, .inl E)), (hQ, .inl (cI, 4000, .inl P))] sz) := by
  refine Met.ofW (cc := cX1_writeToDisk) (maxL := 2) (ret := none) (by decide) rfl ?_
  intro p e s m args below meth c s₁ B hml hv
  obtain ⟨rfl, hsz, hP, hK, hNw, hD0⟩ := hv
  have hx := B.exec
  have hb := B.bytes
  have hr := B.returns
  have hts := atoms_spec (ws := wsX1_writeToDisk) B.pre
  have hown : s.vm.findClass RX1 = some m.cls := findClass_of_methodNamed B.named
  have hlocks := B.notSynchronized
  subst hsz
  have hD := hD0.self (sz := s.heap.size)
  generalize hAe : va_A [(hR, .inr (1, [.ref hF, .ref hE, .ref hQ, .int dk])), (hF, .inl (cI, 11, .inl F)), (hE, .inl (cI, 1500, .inl E)), (hQ, .inl (cI, 4000, .inl P))] s.heap.size = A at hD ⊢
  have hA : ∀ q : Nat, s.heap.size ≤ q → A q := fun q h => by rw [← hAe]; exact Or.inr h
  have hS : va_S A s.heap s.heap [] := va_S.rf
  have hP : va_P (dC, dI) vwCl [(hR, .inr (1, [.ref hF, .ref hE, .ref hQ, .int dk])), (hF, .inl (cI, 11, .inl F)), (hE, .inl (cI, 1500, .inl E)), (hQ, .inl (cI, 4000, .inl P))] s.heap := hP
  have hl := lv_entry ([.ref hR, .int x]) (n := 2) (Nat.le_of_ble_eq_true rfl)
  rw [lg_entry_eq]
  generalize (lg_sl ([.ref hR, .int x]) ++ List.replicate (2 - (lg_sl ([.ref hR, .int x])).length) Slot.unset).toArray = ls at hl ⊢
  have hl : lv_has ls 2 [(0, .ref hR), (1, .int x)] := hl
  refine lv_aload_n hx hb dX1_writeToDisk_0 rfl (lv_at hl 0 rfl) ?_
  refine va_get (D := (dC, dI)) (ci := 1) (v := .ref hF) (C := RX1) (T := TX1) (N := 4) hx hb hts iX1_writeToDisk_X1 hown hK hP 0 rfl rfl 0 (by decide) (hts (.fieldLink RX1 11 "JoinBench$Report" "figures" "[I") (by decide +kernel)) (fun _ h9 => h9) rfl dX1_writeToDisk_1 ?_
  refine lv_iconst (v := 1) hx hb dX1_writeToDisk_4 (by decide) ?_
  refine lv_dup2_11 hx hb dX1_writeToDisk_5 rfl rfl ?_
  refine va_iald hx hb hK hP 1 0 rfl rfl (i := 1) (by unfold vp_in; decide) dX1_writeToDisk_6 ?_
  refine lv_topi (fun v_1 ev_1 => ?_)
  have hv_1 : v_1 = (F 1) := ev_1.trans (rfl)
  clear ev_1; subst hv_1
  refine lv_iload_n hx hb dX1_writeToDisk_7 rfl (lv_at hl 1 rfl) ?_
  refine lv_iadd hx hb dX1_writeToDisk_8 ?_
  refine va_iast hx hb hK hP hD hS 1 0 rfl rfl (i := 1) (x := ((F 1) + x)) (by unfold vp_in; decide) dX1_writeToDisk_9 (fun H locs hP hD hS => ?_)
  rw [show (1 : Int32).toNatClampNeg = 1 from rfl] at hP hD
  have hP : va_P (dC, dI) vwCl [(hR, .inr (1, [.ref hF, .ref hE, .ref hQ, .int dk])), (hF, .inl (cI, 11, .inl (upd F 1 ((F 1) + x)))), (hE, .inl (cI, 1500, .inl E)), (hQ, .inl (cI, 4000, .inl P))] H := hP
  have hD : va_D A [(hR, .inr (1, [.ref hF, .ref hE, .ref hQ, .int dk])), (hF, .inl (cI, 11, .inl (upd F 1 ((F 1) + x)))), (hE, .inl (cI, 1500, .inl E)), (hQ, .inl (cI, 4000, .inl P))] := hD
  refine lv_aload_n hx hb dX1_writeToDisk_10 rfl (lv_at hl 0 rfl) ?_
  refine lv_dup hx hb dX1_writeToDisk_11 rfl ?_
  refine va_get (D := (dC, dI)) (ci := 1) (v := .int dk) (C := RX1) (T := TX1) (N := 4) hx hb hts iX1_writeToDisk_X1 hown hK hP 0 rfl rfl 3 (by decide) (hts (.fieldLink RX1 21 "JoinBench$Report" "onDisk" "I") (by decide +kernel)) (fun _ h9 => h9) rfl dX1_writeToDisk_12 ?_
  refine lv_iload_n hx hb dX1_writeToDisk_15 rfl (lv_at hl 1 rfl) ?_
  refine lv_iadd hx hb dX1_writeToDisk_16 ?_
  refine va_put (D := (dC, dI)) (ci := 1) (v := .int (dk + x)) (ty := .int) (C := RX1) (T := TX1) (N := 4) hx hb hts iX1_writeToDisk_X1 tyX1 tyX1_ok nmX1 hown hK hP hD hS 0 rfl rfl 3 (by decide) (hts (.fieldLink RX1 21 "JoinBench$Report" "onDisk" "I") (by decide +kernel)) (fun _ h9 => h9) rfl (by decide +kernel) rfl rfl (Nat.le_of_ble_eq_true rfl) dX1_writeToDisk_17 (fun H locs hP hD hS => ?_)
  have hP : va_P (dC, dI) vwCl [(hR, .inr (1, [.ref hF, .ref hE, .ref hQ, .int (dk + x)])), (hF, .inl (cI, 11, .inl (upd F 1 ((F 1) + x)))), (hE, .inl (cI, 1500, .inl E)), (hQ, .inl (cI, 4000, .inl P))] H := hP
  have hD : va_D A [(hR, .inr (1, [.ref hF, .ref hE, .ref hQ, .int (dk + x)])), (hF, .inl (cI, 11, .inl (upd F 1 ((F 1) + x)))), (hE, .inl (cI, 1500, .inl E)), (hQ, .inl (cI, 4000, .inl P))] := hD
  refine lv_aload_n hx hb dX1_writeToDisk_20 rfl (lv_at hl 0 rfl) ?_
  refine va_get (D := (dC, dI)) (ci := 1) (v := .ref hF) (C := RX1) (T := TX1) (N := 4) hx hb hts iX1_writeToDisk_X1 hown hK hP 0 rfl rfl 0 (by decide) (hts (.fieldLink RX1 11 "JoinBench$Report" "figures" "[I") (by decide +kernel)) (fun _ h9 => h9) rfl dX1_writeToDisk_21 ?_
  refine lv_iconst (v := 3) hx hb dX1_writeToDisk_24 (by decide) ?_
  refine lv_aload_n hx hb dX1_writeToDisk_25 rfl (lv_at hl 0 rfl) ?_
  refine va_get (D := (dC, dI)) (ci := 1) (v := .ref hF) (C := RX1) (T := TX1) (N := 4) hx hb hts iX1_writeToDisk_X1 hown hK hP 0 rfl rfl 0 (by decide) (hts (.fieldLink RX1 11 "JoinBench$Report" "figures" "[I") (by decide +kernel)) (fun _ h9 => h9) rfl dX1_writeToDisk_26 ?_
  refine lv_iconst (v := 3) hx hb dX1_writeToDisk_29 (by decide) ?_
  refine va_iald hx hb hK hP 1 0 rfl rfl (i := 3) (by unfold vp_in; decide) dX1_writeToDisk_30 ?_
  refine lv_topi (fun v_2 ev_2 => ?_)
  have hv_2 : v_2 = ((upd F 1 ((F 1) + x)) 3) := ev_2.trans (rfl)
  clear ev_2; subst hv_2
  refine lv_aload_n hx hb dX1_writeToDisk_31 rfl (lv_at hl 0 rfl) ?_
  refine va_get (D := (dC, dI)) (ci := 1) (v := .int (dk + x)) (C := RX1) (T := TX1) (N := 4) hx hb hts iX1_writeToDisk_X1 hown hK hP 0 rfl rfl 3 (by decide) (hts (.fieldLink RX1 21 "JoinBench$Report" "onDisk" "I") (by decide +kernel)) (fun _ h9 => h9) rfl dX1_writeToDisk_32 ?_
  refine va_mmax hx hb (by rw [hml]; exact hl.1.symm) hown (hts (.methodLink RX1 31 Lib.Math.max.name) (by decide +kernel)) (hts (.static Lib.Math.max.name) (by decide +kernel)) (hts (.initialized "java/lang/Math") (by decide +kernel)) (hts (.code Lib.Math.max.name Lib.Math.max.code 2 (some .int)) (by decide +kernel)) (by decide +kernel) (Nat.le_of_ble_eq_true rfl) (Nat.zero_le _) (Nat.zero_le _) dX1_writeToDisk_35 ?_
  refine va_iast hx hb hK hP hD hS 1 0 rfl rfl (i := 3) (x := (if ((upd F 1 ((F 1) + x)) 3) < (dk + x) then (dk + x) else ((upd F 1 ((F 1) + x)) 3))) (by unfold vp_in; decide) dX1_writeToDisk_38 (fun H locs hP hD hS => ?_)
  rw [show (3 : Int32).toNatClampNeg = 3 from rfl] at hP hD
  have hP : va_P (dC, dI) vwCl [(hR, .inr (1, [.ref hF, .ref hE, .ref hQ, .int (dk + x)])), (hF, .inl (cI, 11, .inl (upd (upd F 1 ((F 1) + x)) 3 (if ((upd F 1 ((F 1) + x)) 3) < (dk + x) then (dk + x) else ((upd F 1 ((F 1) + x)) 3))))), (hE, .inl (cI, 1500, .inl E)), (hQ, .inl (cI, 4000, .inl P))] H := hP
  have hD : va_D A [(hR, .inr (1, [.ref hF, .ref hE, .ref hQ, .int (dk + x)])), (hF, .inl (cI, 11, .inl (upd (upd F 1 ((F 1) + x)) 3 (if ((upd F 1 ((F 1) + x)) 3) < (dk + x) then (dk + x) else ((upd F 1 ((F 1) + x)) 3))))), (hE, .inl (cI, 1500, .inl E)), (hQ, .inl (cI, 4000, .inl P))] := hD
  have hP9 : va_P (dC, dI) vwCl [(hR, .inr (1, [.ref hF, .ref hE, .ref hQ, .int (dk + x)])), (hF, .inl (cI, 11, .inl (jb_wdF F dk x))), (hE, .inl (cI, 1500, .inl E)), (hQ, .inl (cI, 4000, .inl P))] H := hP.sub [0, 1, 2, 3] rfl
  have hD9 : va_D A [(hR, .inr (1, [.ref hF, .ref hE, .ref hQ, .int (dk + x)])), (hF, .inl (cI, 11, .inl (jb_wdF F dk x))), (hE, .inl (cI, 1500, .inl E)), (hQ, .inl (cI, 4000, .inl P))] := hD.sub [0, 1, 2, 3] (by decide) rfl
  exact W.vret hx hb hr (fun t ht hW => ⟨⟨(), rfl, trivial, by rw [ht]; exact hP9, hD9⟩, hS.F ht⟩) hS.2.2 dX1_writeToDisk_39
theorem iX1_freeDisk_X1 : ∀ w ∈ wsX10, w ∈ wsX1_freeDisk := by decide +kernel
set_option maxHeartbeats 1000000 in
set_option maxRecDepth 100000 in
/-- Report.freeDisk -/
theorem c_freeDisk (l : Launch) (dC : Nat → ClassId) (dI : Nat → Nat → Nat) (cI : ClassId) (sz : Nat) (hR hF hE hQ : Nat) (F E P : Nat → Int32) (dk : Int32) (x : Int32) : Met l yX1_freeDisk wsX1_freeDisk ({ frames := 1, cells := 0, slots := 0, locals := 40 } : Room) (va_Pc [.ref hR, .int x] (jb_M dC dI cI sz [(hR, .inr (1, [.ref hF, .ref hE, .ref hQ, .int dk])), (hF, .inl (cI, 11, .inl F)), (hE, .inl (cI, 1500, .inl E)), (hQ, .inl (cI, 4000, .inl P))])) (va_Qv (fun (_ : Unit) => True) (jb_B dC dI (va_A [(hR, .inr (1, [.ref hF, .ref hE, .ref hQ, .int dk])), (hF, .inl (cI, 11, .inl F)), (hE, .inl (cI, 1500, .inl E)), (hQ, .inl (cI, 4000, .inl P))] sz) (fun _ => [(hR, .inr (1, [.ref hF, .ref hE, .ref hQ, .int (dk - x)])), (hF, .inl (cI, 11, .inl F)), (hE, .inl (cI, 1500, .inl E)), (hQ, .inl (cI, 4000, .inl P))])) (va_A [(hR, .inr (1, [.ref hF, .ref hE, .ref hQ, .int dk])), (hF, .inl (cI, 11, .inl F)), (hE, .inl (cI, 1500, .inl E)), (hQ, .inl (cI, 4000, .inl P))] sz)) 0 0 (va_A [(hR, .inr (1, [.ref hF, .ref hE, .ref hQ, .int dk])), (hF, .inl (cI, 11, .inl F)), (hE, .inl (cI, 1500, .inl E)), (hQ, .inl (cI, 4000, .inl P))] sz) := by
  refine Met.ofW (cc := cX1_freeDisk) (maxL := 2) (ret := none) (by decide) rfl ?_
  intro p e s m args below meth c s₁ B hml hv
  obtain ⟨rfl, hsz, hP, hK, hNw, hD0⟩ := hv
  have hx := B.exec
  have hb := B.bytes
  have hr := B.returns
  have hts := atoms_spec (ws := wsX1_freeDisk) B.pre
  have hown : s.vm.findClass RX1 = some m.cls := findClass_of_methodNamed B.named
  have hlocks := B.notSynchronized
  subst hsz
  have hD := hD0.self (sz := s.heap.size)
  generalize hAe : va_A [(hR, .inr (1, [.ref hF, .ref hE, .ref hQ, .int dk])), (hF, .inl (cI, 11, .inl F)), (hE, .inl (cI, 1500, .inl E)), (hQ, .inl (cI, 4000, .inl P))] s.heap.size = A at hD ⊢
  have hA : ∀ q : Nat, s.heap.size ≤ q → A q := fun q h => by rw [← hAe]; exact Or.inr h
  have hS : va_S A s.heap s.heap [] := va_S.rf
  have hP : va_P (dC, dI) vwCl [(hR, .inr (1, [.ref hF, .ref hE, .ref hQ, .int dk])), (hF, .inl (cI, 11, .inl F)), (hE, .inl (cI, 1500, .inl E)), (hQ, .inl (cI, 4000, .inl P))] s.heap := hP
  have hl := lv_entry ([.ref hR, .int x]) (n := 2) (Nat.le_of_ble_eq_true rfl)
  rw [lg_entry_eq]
  generalize (lg_sl ([.ref hR, .int x]) ++ List.replicate (2 - (lg_sl ([.ref hR, .int x])).length) Slot.unset).toArray = ls at hl ⊢
  have hl : lv_has ls 2 [(0, .ref hR), (1, .int x)] := hl
  refine lv_aload_n hx hb dX1_freeDisk_0 rfl (lv_at hl 0 rfl) ?_
  refine lv_dup hx hb dX1_freeDisk_1 rfl ?_
  refine va_get (D := (dC, dI)) (ci := 1) (v := .int dk) (C := RX1) (T := TX1) (N := 4) hx hb hts iX1_freeDisk_X1 hown hK hP 0 rfl rfl 3 (by decide) (hts (.fieldLink RX1 21 "JoinBench$Report" "onDisk" "I") (by decide +kernel)) (fun _ h9 => h9) rfl dX1_freeDisk_2 ?_
  refine lv_iload_n hx hb dX1_freeDisk_5 rfl (lv_at hl 1 rfl) ?_
  refine lv_isub hx hb dX1_freeDisk_6 ?_
  refine va_put (D := (dC, dI)) (ci := 1) (v := .int (dk - x)) (ty := .int) (C := RX1) (T := TX1) (N := 4) hx hb hts iX1_freeDisk_X1 tyX1 tyX1_ok nmX1 hown hK hP hD hS 0 rfl rfl 3 (by decide) (hts (.fieldLink RX1 21 "JoinBench$Report" "onDisk" "I") (by decide +kernel)) (fun _ h9 => h9) rfl (by decide +kernel) rfl rfl (Nat.le_of_ble_eq_true rfl) dX1_freeDisk_7 (fun H locs hP hD hS => ?_)
  have hP : va_P (dC, dI) vwCl [(hR, .inr (1, [.ref hF, .ref hE, .ref hQ, .int (dk - x)])), (hF, .inl (cI, 11, .inl F)), (hE, .inl (cI, 1500, .inl E)), (hQ, .inl (cI, 4000, .inl P))] H := hP
  have hD : va_D A [(hR, .inr (1, [.ref hF, .ref hE, .ref hQ, .int (dk - x)])), (hF, .inl (cI, 11, .inl F)), (hE, .inl (cI, 1500, .inl E)), (hQ, .inl (cI, 4000, .inl P))] := hD
  have hP9 : va_P (dC, dI) vwCl [(hR, .inr (1, [.ref hF, .ref hE, .ref hQ, .int (dk - x)])), (hF, .inl (cI, 11, .inl F)), (hE, .inl (cI, 1500, .inl E)), (hQ, .inl (cI, 4000, .inl P))] H := hP.sub [0, 1, 2, 3] rfl
  have hD9 : va_D A [(hR, .inr (1, [.ref hF, .ref hE, .ref hQ, .int (dk - x)])), (hF, .inl (cI, 11, .inl F)), (hE, .inl (cI, 1500, .inl E)), (hQ, .inl (cI, 4000, .inl P))] := hD.sub [0, 1, 2, 3] (by decide) rfl
  exact W.vret hx hb hr (fun t ht hW => ⟨⟨(), rfl, trivial, by rw [ht]; exact hP9, hD9⟩, hS.F ht⟩) hS.2.2 dX1_freeDisk_10
theorem iX1_addPair_X1 : ∀ w ∈ wsX10, w ∈ wsX1_addPair := by decide +kernel
set_option maxHeartbeats 1000000 in
set_option maxRecDepth 100000 in
/-- Report.addPair -/
theorem c_addPair (l : Launch) (dC : Nat → ClassId) (dI : Nat → Nat → Nat) (cI : ClassId) (sz : Nat) (hR hF hE hQ : Nat) (F E P : Nat → Int32) (dk : Int32) (np : Nat) (x y : Int32) (hnp : F 10 = nI np) (hb1 : np < 1000000) : Met l yX1_addPair wsX1_addPair ({ frames := 1, cells := 0, slots := 0, locals := 40 } : Room) (va_Pc [.ref hR, .int x, .int y] (jb_M dC dI cI sz [(hR, .inr (1, [.ref hF, .ref hE, .ref hQ, .int dk])), (hF, .inl (cI, 11, .inl F)), (hE, .inl (cI, 1500, .inl E)), (hQ, .inl (cI, 4000, .inl P))])) (va_Qv (fun (_ : Unit) => True) (jb_B dC dI (va_A [(hR, .inr (1, [.ref hF, .ref hE, .ref hQ, .int dk])), (hF, .inl (cI, 11, .inl F)), (hE, .inl (cI, 1500, .inl E)), (hQ, .inl (cI, 4000, .inl P))] sz) (fun _ => [(hR, .inr (1, [.ref hF, .ref hE, .ref hQ, .int dk])), (hF, .inl (cI, 11, .inl (upd F 10 (F 10 + 1)))), (hE, .inl (cI, 1500, .inl E)), (hQ, .inl (cI, 4000, .inl (jb_adP P np x y)))])) (va_A [(hR, .inr (1, [.ref hF, .ref hE, .ref hQ, .int dk])), (hF, .inl (cI, 11, .inl F)), (hE, .inl (cI, 1500, .inl E)), (hQ, .inl (cI, 4000, .inl P))] sz)) 0 0 (va_A [(hR, .inr (1, [.ref hF, .ref hE, .ref hQ, .int dk])), (hF, .inl (cI, 11, .inl F)), (hE, .inl (cI, 1500, .inl E)), (hQ, .inl (cI, 4000, .inl P))] sz) := by
  refine Met.ofW (cc := cX1_addPair) (maxL := 4) (ret := none) (by decide) rfl ?_
  intro p e s m args below meth c s₁ B hml hv
  obtain ⟨rfl, hsz, hP, hK, hNw, hD0⟩ := hv
  have hx := B.exec
  have hb := B.bytes
  have hr := B.returns
  have hts := atoms_spec (ws := wsX1_addPair) B.pre
  have hown : s.vm.findClass RX1 = some m.cls := findClass_of_methodNamed B.named
  have hlocks := B.notSynchronized
  subst hsz
  have hD := hD0.self (sz := s.heap.size)
  generalize hAe : va_A [(hR, .inr (1, [.ref hF, .ref hE, .ref hQ, .int dk])), (hF, .inl (cI, 11, .inl F)), (hE, .inl (cI, 1500, .inl E)), (hQ, .inl (cI, 4000, .inl P))] s.heap.size = A at hD ⊢
  have hA : ∀ q : Nat, s.heap.size ≤ q → A q := fun q h => by rw [← hAe]; exact Or.inr h
  have hS : va_S A s.heap s.heap [] := va_S.rf
  have hP : va_P (dC, dI) vwCl [(hR, .inr (1, [.ref hF, .ref hE, .ref hQ, .int dk])), (hF, .inl (cI, 11, .inl F)), (hE, .inl (cI, 1500, .inl E)), (hQ, .inl (cI, 4000, .inl P))] s.heap := hP
  have hl := lv_entry ([.ref hR, .int x, .int y]) (n := 4) (Nat.le_of_ble_eq_true rfl)
  rw [lg_entry_eq]
  generalize (lg_sl ([.ref hR, .int x, .int y]) ++ List.replicate (4 - (lg_sl ([.ref hR, .int x, .int y])).length) Slot.unset).toArray = ls at hl ⊢
  have hl : lv_has ls 4 [(0, .ref hR), (1, .int x), (2, .int y)] := hl
  refine lv_aload_n hx hb dX1_addPair_0 rfl (lv_at hl 0 rfl) ?_
  refine va_get (D := (dC, dI)) (ci := 1) (v := .ref hF) (C := RX1) (T := TX1) (N := 4) hx hb hts iX1_addPair_X1 hown hK hP 0 rfl rfl 0 (by decide) (hts (.fieldLink RX1 11 "JoinBench$Report" "figures" "[I") (by decide +kernel)) (fun _ h9 => h9) rfl dX1_addPair_1 ?_
  refine lv_bipush (v := 10) hx hb dX1_addPair_4 (by decide) ?_
  refine va_iald hx hb hK hP 1 0 rfl rfl (i := 10) (by unfold vp_in; decide) dX1_addPair_6 ?_
  refine lv_topi (fun v_1 ev_1 => ?_)
  have hv_1 : v_1 = nI np := ev_1.trans (hnp)
  clear ev_1; subst hv_1
  refine lv_istore_n (lv' := [(3, .int (nI np)), (0, .ref hR), (1, .int x), (2, .int y)]) hx hb dX1_addPair_7 rfl hl (by decide) rfl (fun ls hl => ?_)
  refine lv_iload_n hx hb dX1_addPair_8 rfl (lv_at hl 0 rfl) ?_
  refine lv_sipush (v := 4000) hx hb dX1_addPair_9 (by decide) ?_
  refine lv_icmp_ge (tgt := 27) hx hb dX1_addPair_12 (by decide) (fun c_12 => ?_) (fun c_12 => ?_)
  · have hge : ¬ np < 4000 := fun h => absurd c_12 ((jb_nle (a := 4000) (b := np) (by omega) (by omega)).mpr h)
    refine lv_aload_n hx hb dX1_addPair_27 rfl (lv_at hl 1 rfl) ?_
    refine va_get (D := (dC, dI)) (ci := 1) (v := .ref hF) (C := RX1) (T := TX1) (N := 4) hx hb hts iX1_addPair_X1 hown hK hP 0 rfl rfl 0 (by decide) (hts (.fieldLink RX1 11 "JoinBench$Report" "figures" "[I") (by decide +kernel)) (fun _ h9 => h9) rfl dX1_addPair_28 ?_
    refine lv_bipush (v := 10) hx hb dX1_addPair_31 (by decide) ?_
    refine lv_dup2_11 hx hb dX1_addPair_33 rfl rfl ?_
    refine va_iald hx hb hK hP 1 0 rfl rfl (i := 10) (by unfold vp_in; decide) dX1_addPair_34 ?_
    refine lv_topi (fun v_2 ev_2 => ?_)
    have hv_2 : v_2 = (F 10) := ev_2.trans (rfl)
    clear ev_2; subst hv_2
    refine lv_iconst (v := 1) hx hb dX1_addPair_35 (by decide) ?_
    refine lv_iadd hx hb dX1_addPair_36 ?_
    refine va_iast hx hb hK hP hD hS 1 0 rfl rfl (i := 10) (x := ((F 10) + 1)) (by unfold vp_in; decide) dX1_addPair_37 (fun H locs hP hD hS => ?_)
    rw [show (10 : Int32).toNatClampNeg = 10 from rfl] at hP hD
    have hP : va_P (dC, dI) vwCl [(hR, .inr (1, [.ref hF, .ref hE, .ref hQ, .int dk])), (hF, .inl (cI, 11, .inl (upd F 10 ((F 10) + 1)))), (hE, .inl (cI, 1500, .inl E)), (hQ, .inl (cI, 4000, .inl P))] H := hP
    have hD : va_D A [(hR, .inr (1, [.ref hF, .ref hE, .ref hQ, .int dk])), (hF, .inl (cI, 11, .inl (upd F 10 ((F 10) + 1)))), (hE, .inl (cI, 1500, .inl E)), (hQ, .inl (cI, 4000, .inl P))] := hD
    have hP9 : va_P (dC, dI) vwCl [(hR, .inr (1, [.ref hF, .ref hE, .ref hQ, .int dk])), (hF, .inl (cI, 11, .inl (upd F 10 (F 10 + 1)))), (hE, .inl (cI, 1500, .inl E)), (hQ, .inl (cI, 4000, .inl (jb_adP P np x y)))] H := by rw [show jb_adP P np x y = P from if_neg hge]; exact hP.sub [0, 1, 2, 3] rfl
    have hD9 : va_D A [(hR, .inr (1, [.ref hF, .ref hE, .ref hQ, .int dk])), (hF, .inl (cI, 11, .inl (upd F 10 (F 10 + 1)))), (hE, .inl (cI, 1500, .inl E)), (hQ, .inl (cI, 4000, .inl (jb_adP P np x y)))] := by rw [show jb_adP P np x y = P from if_neg hge]; exact hD.sub [0, 1, 2, 3] (by decide) rfl
    exact W.vret hx hb hr (fun t ht hW => ⟨⟨(), rfl, trivial, by rw [ht]; exact hP9, hD9⟩, hS.F ht⟩) hS.2.2 dX1_addPair_38
  · have hlt : np < 4000 := (jb_nle (a := 4000) (b := np) (by omega) (by omega)).mp c_12
    refine lv_aload_n hx hb dX1_addPair_15 rfl (lv_at hl 1 rfl) ?_
    refine va_get (D := (dC, dI)) (ci := 1) (v := .ref hQ) (C := RX1) (T := TX1) (N := 4) hx hb hts iX1_addPair_X1 hown hK hP 0 rfl rfl 2 (by decide) (hts (.fieldLink RX1 18 "JoinBench$Report" "pairs" "[I") (by decide +kernel)) (fun _ h9 => h9) rfl dX1_addPair_16 ?_
    refine lv_iload_n hx hb dX1_addPair_19 rfl (lv_at hl 0 rfl) ?_
    refine lv_iload_n hx hb dX1_addPair_20 rfl (lv_at hl 2 rfl) ?_
    refine lv_bipush (v := 9) hx hb dX1_addPair_21 (by decide) ?_
    refine lv_ishl hx hb dX1_addPair_23 ?_
    refine lv_iload_n hx hb dX1_addPair_24 rfl (lv_at hl 3 rfl) ?_
    refine lv_ior hx hb dX1_addPair_25 ?_
    refine va_iast hx hb hK hP hD hS 3 0 rfl rfl (i := nI np) (x := ((x <<< (9 &&& 31)) ||| y)) (vp_in_nI (n := np) (by omega) (by decide)) dX1_addPair_26 (fun H locs hP hD hS => ?_)
    rw [show (nI np : Int32).toNatClampNeg = np from nI_clamp (by omega)] at hP hD
    have hP : va_P (dC, dI) vwCl [(hR, .inr (1, [.ref hF, .ref hE, .ref hQ, .int dk])), (hF, .inl (cI, 11, .inl F)), (hE, .inl (cI, 1500, .inl E)), (hQ, .inl (cI, 4000, .inl (upd P np ((x <<< (9 &&& 31)) ||| y))))] H := hP
    have hD : va_D A [(hR, .inr (1, [.ref hF, .ref hE, .ref hQ, .int dk])), (hF, .inl (cI, 11, .inl F)), (hE, .inl (cI, 1500, .inl E)), (hQ, .inl (cI, 4000, .inl (upd P np ((x <<< (9 &&& 31)) ||| y))))] := hD
    refine lv_aload_n hx hb dX1_addPair_27 rfl (lv_at hl 1 rfl) ?_
    refine va_get (D := (dC, dI)) (ci := 1) (v := .ref hF) (C := RX1) (T := TX1) (N := 4) hx hb hts iX1_addPair_X1 hown hK hP 0 rfl rfl 0 (by decide) (hts (.fieldLink RX1 11 "JoinBench$Report" "figures" "[I") (by decide +kernel)) (fun _ h9 => h9) rfl dX1_addPair_28 ?_
    refine lv_bipush (v := 10) hx hb dX1_addPair_31 (by decide) ?_
    refine lv_dup2_11 hx hb dX1_addPair_33 rfl rfl ?_
    refine va_iald hx hb hK hP 1 0 rfl rfl (i := 10) (by unfold vp_in; decide) dX1_addPair_34 ?_
    refine lv_topi (fun v_3 ev_3 => ?_)
    have hv_3 : v_3 = (F 10) := ev_3.trans (rfl)
    clear ev_3; subst hv_3
    refine lv_iconst (v := 1) hx hb dX1_addPair_35 (by decide) ?_
    refine lv_iadd hx hb dX1_addPair_36 ?_
    refine va_iast hx hb hK hP hD hS 1 0 rfl rfl (i := 10) (x := ((F 10) + 1)) (by unfold vp_in; decide) dX1_addPair_37 (fun H locs hP hD hS => ?_)
    rw [show (10 : Int32).toNatClampNeg = 10 from rfl] at hP hD
    have hP : va_P (dC, dI) vwCl [(hR, .inr (1, [.ref hF, .ref hE, .ref hQ, .int dk])), (hF, .inl (cI, 11, .inl (upd F 10 ((F 10) + 1)))), (hE, .inl (cI, 1500, .inl E)), (hQ, .inl (cI, 4000, .inl (upd P np ((x <<< (9 &&& 31)) ||| y))))] H := hP
    have hD : va_D A [(hR, .inr (1, [.ref hF, .ref hE, .ref hQ, .int dk])), (hF, .inl (cI, 11, .inl (upd F 10 ((F 10) + 1)))), (hE, .inl (cI, 1500, .inl E)), (hQ, .inl (cI, 4000, .inl (upd P np ((x <<< (9 &&& 31)) ||| y))))] := hD
    have hP9 : va_P (dC, dI) vwCl [(hR, .inr (1, [.ref hF, .ref hE, .ref hQ, .int dk])), (hF, .inl (cI, 11, .inl (upd F 10 (F 10 + 1)))), (hE, .inl (cI, 1500, .inl E)), (hQ, .inl (cI, 4000, .inl (jb_adP P np x y)))] H := by rw [show jb_adP P np x y = (upd P np ((x <<< (9 &&& 31)) ||| y)) from if_pos hlt]; exact hP.sub [0, 1, 2, 3] rfl
    have hD9 : va_D A [(hR, .inr (1, [.ref hF, .ref hE, .ref hQ, .int dk])), (hF, .inl (cI, 11, .inl (upd F 10 (F 10 + 1)))), (hE, .inl (cI, 1500, .inl E)), (hQ, .inl (cI, 4000, .inl (jb_adP P np x y)))] := by rw [show jb_adP P np x y = (upd P np ((x <<< (9 &&& 31)) ||| y)) from if_pos hlt]; exact hD.sub [0, 1, 2, 3] (by decide) rfl
    exact W.vret hx hb hr (fun t ht hW => ⟨⟨(), rfl, trivial, by rw [ht]; exact hP9, hD9⟩, hS.F ht⟩) hS.2.2 dX1_addPair_38
theorem iX1_pairsOrFull_X1 : ∀ w ∈ wsX10, w ∈ wsX1_pairsOrFull := by decide +kernel
set_option maxHeartbeats 1000000 in
set_option maxRecDepth 100000 in
/-- Report.pairsOrFull() -/
theorem c_pairsOrFull (l : Launch) (dC : Nat → ClassId) (dI : Nat → Nat → Nat) (cI : ClassId) (hR hF hE hQ : Nat) (F E P : Nat → Int32) (dk : Int32) : Met l yX1_pairsOrFull wsX1_pairsOrFull ({ frames := 1, cells := 0, slots := 0, locals := 40 } : Room) (va_Pc [.ref hR] (jb_R dC dI cI [(hR, .inr (1, [.ref hF, .ref hE, .ref hQ, .int dk])), (hF, .inl (cI, 11, .inl F)), (hE, .inl (cI, 1500, .inl E)), (hQ, .inl (cI, 4000, .inl P))])) (vp_Si (fun r => r = jb_pof (F 10))) 0 0 (fun _ => False) := by
  refine Met.ofW (cc := cX1_pairsOrFull) (maxL := 1) (ret := (some .int)) (by decide) rfl ?_
  intro p e s m args below meth c s₁ B hml hv
  obtain ⟨rfl, hP, hK, hNw⟩ := hv
  have hx := B.exec
  have hb := B.bytes
  have hr := B.returns
  have hts := atoms_spec (ws := wsX1_pairsOrFull) B.pre
  have hown : s.vm.findClass RX1 = some m.cls := findClass_of_methodNamed B.named
  have hlocks := B.notSynchronized
  have hl := lv_entry ([.ref hR]) (n := 1) (Nat.le_of_ble_eq_true rfl)
  rw [lg_entry_eq]
  generalize (lg_sl ([.ref hR]) ++ List.replicate (1 - (lg_sl ([.ref hR])).length) Slot.unset).toArray = ls at hl ⊢
  have hl : lv_has ls 1 [(0, .ref hR)] := hl
  refine lv_aload_n hx hb dX1_pairsOrFull_0 rfl (lv_at hl 0 rfl) ?_
  refine va_get (D := (dC, dI)) (ci := 1) (v := .ref hF) (C := RX1) (T := TX1) (N := 4) hx hb hts iX1_pairsOrFull_X1 hown hK hP 0 rfl rfl 0 (by decide) (hts (.fieldLink RX1 11 "JoinBench$Report" "figures" "[I") (by decide +kernel)) (fun _ h9 => h9) rfl dX1_pairsOrFull_1 ?_
  refine lv_bipush (v := 10) hx hb dX1_pairsOrFull_4 (by decide) ?_
  refine va_iald hx hb hK hP 1 0 rfl rfl (i := 10) (by unfold vp_in; decide) dX1_pairsOrFull_6 ?_
  refine lv_topi (fun v_1 ev_1 => ?_)
  have hv_1 : v_1 = (F 10) := ev_1.trans (rfl)
  clear ev_1; subst hv_1
  refine lv_sipush (v := 4000) hx hb dX1_pairsOrFull_7 (by decide) ?_
  refine lv_icmp_le (tgt := 18) hx hb dX1_pairsOrFull_10 (by decide) (fun c_10 => ?_) (fun c_10 => ?_)
  · refine lv_aload_n hx hb dX1_pairsOrFull_18 rfl (lv_at hl 0 rfl) ?_
    refine va_get (D := (dC, dI)) (ci := 1) (v := .ref hF) (C := RX1) (T := TX1) (N := 4) hx hb hts iX1_pairsOrFull_X1 hown hK hP 0 rfl rfl 0 (by decide) (hts (.fieldLink RX1 11 "JoinBench$Report" "figures" "[I") (by decide +kernel)) (fun _ h9 => h9) rfl dX1_pairsOrFull_19 ?_
    refine lv_bipush (v := 10) hx hb dX1_pairsOrFull_22 (by decide) ?_
    refine va_iald hx hb hK hP 1 0 rfl rfl (i := 10) (by unfold vp_in; decide) dX1_pairsOrFull_24 ?_
    refine lv_topi (fun v_2 ev_2 => ?_)
    have hv_2 : v_2 = (F 10) := ev_2.trans (rfl)
    clear ev_2; subst hv_2
    exact W.iret (v := (F 10)) hx hb hr (fun t ht hW => ⟨_, rfl, (if_neg (Int32.not_lt.mpr c_10)).symm, ht⟩) (fun _ h => by cases h) dX1_pairsOrFull_25
  · refine lv_bipush (v := (-2)) hx hb dX1_pairsOrFull_13 (by decide) ?_
    refine lv_goto (tgt := 25) hx hb dX1_pairsOrFull_15 (by decide) ?_
    exact W.iret (v := (-2)) hx hb hr (fun t ht hW => ⟨_, rfl, (if_pos (Int32.not_le.mp c_10)).symm, ht⟩) (fun _ h => by cases h) dX1_pairsOrFull_25
set_option maxHeartbeats 1000000 in
set_option maxRecDepth 100000 in
/-- Report.hasPair(i) -/
theorem c_hasPair (l : Launch) (dC : Nat → ClassId) (dI : Nat → Nat → Nat) (cI : ClassId) (hR hF hE hQ : Nat) (F E P : Nat → Int32) (dk : Int32) (i : Int32) : Met l yX1_hasPair wsX1_hasPair ({ frames := 2, cells := 0, slots := 0, locals := 80 } : Room) (va_Pc [.ref hR, .int i] (jb_R dC dI cI [(hR, .inr (1, [.ref hF, .ref hE, .ref hQ, .int dk])), (hF, .inl (cI, 11, .inl F)), (hE, .inl (cI, 1500, .inl E)), (hQ, .inl (cI, 4000, .inl P))])) (vp_Si (fun r => r = jb_has F i)) 0 0 (fun _ => False) := by
  refine Met.ofW (cc := cX1_hasPair) (maxL := 2) (ret := (some .boolean)) (by decide) rfl ?_
  intro p e s m args below meth c s₁ B hml hv
  obtain ⟨rfl, hP, hK, hNw⟩ := hv
  have hx := B.exec
  have hb := B.bytes
  have hr := B.returns
  have hts := atoms_spec (ws := wsX1_hasPair) B.pre
  have hown : s.vm.findClass RX1 = some m.cls := findClass_of_methodNamed B.named
  have hlocks := B.notSynchronized
  have hl := lv_entry ([.ref hR, .int i]) (n := 2) (Nat.le_of_ble_eq_true rfl)
  rw [lg_entry_eq]
  generalize (lg_sl ([.ref hR, .int i]) ++ List.replicate (2 - (lg_sl ([.ref hR, .int i])).length) Slot.unset).toArray = ls at hl ⊢
  have hl : lv_has ls 2 [(0, .ref hR), (1, .int i)] := hl
  refine lv_iload_n hx hb dX1_hasPair_0 rfl (lv_at hl 1 rfl) ?_
  refine lv_if_lt (tgt := 16) hx hb dX1_hasPair_1 (by decide) (fun c_1 => ?_) (fun c_1 => ?_)
  · refine lv_iconst (v := 0) hx hb dX1_hasPair_16 (by decide) ?_
    exact W.zret (v := 0) hx hb hr (by first | rfl | decide | (split <;> rfl)) (fun t ht hW => ⟨_, rfl, (if_neg (fun h => Int32.not_lt.mpr h.1 c_1)).symm, ht⟩) (fun _ h => by cases h) dX1_hasPair_17
  · refine lv_iload_n hx hb dX1_hasPair_4 rfl (lv_at hl 1 rfl) ?_
    refine lv_aload_n hx hb dX1_hasPair_5 rfl (lv_at hl 0 rfl) ?_
    refine vp_callSi (va_runV (As := []) (rest := [.int i]) ⟨hx, hb, hml, hown, hts⟩ (c_pairsOrFull l dC dI cI hR hF hE hQ F E P dk) (cwV 0 hts gX1_hasPair_X1_pairsOrFull rfl rfl rfl (by decide +kernel) ⟨(by decide +kernel), (by decide +kernel)⟩)  ⟨jb_R_blind, va_recv hK hP (ci := 1) (q0 := 0) rfl rfl, jb_R_pre (hP.sub (ws' := [(hR, .inr (1, [.ref hF, .ref hE, .ref hQ, .int dk])), (hF, .inl (cI, 11, .inl F)), (hE, .inl (cI, 1500, .inl E)), (hQ, .inl (cI, 4000, .inl P))]) [0, 1, 2, 3] rfl) hK hNw⟩ rfl rfl hl.1 rfl (lv_room (Nat.le_of_ble_eq_true rfl)) dX1_hasPair_6 ⟨by decide +kernel, by decide +kernel⟩).run (fun r_1 hr_1 => ?_)
    subst hr_1
    refine lv_icmp_ge (tgt := 16) hx hb dX1_hasPair_9 (by decide) (fun c_9 => ?_) (fun c_9 => ?_)
    · refine lv_iconst (v := 0) hx hb dX1_hasPair_16 (by decide) ?_
      exact W.zret (v := 0) hx hb hr (by first | rfl | decide | (split <;> rfl)) (fun t ht hW => ⟨_, rfl, (if_neg (fun h => Int32.not_lt.mpr c_9 h.2)).symm, ht⟩) (fun _ h => by cases h) dX1_hasPair_17
    · refine lv_iconst (v := 1) hx hb dX1_hasPair_12 (by decide) ?_
      refine lv_goto (tgt := 17) hx hb dX1_hasPair_13 (by decide) ?_
      exact W.zret (v := 1) hx hb hr (by first | rfl | decide | (split <;> rfl)) (fun t ht hW => ⟨_, rfl, (if_pos ⟨Int32.not_lt.mp c_1, Int32.not_le.mp c_9⟩).symm, ht⟩) (fun _ h => by cases h) dX1_hasPair_17
theorem jb_has_no {F : Nat → Int32} {i : Int32} (h : jb_has F i = 0) : ¬ (0 ≤ i ∧ i < jb_pof (F 10)) := fun q => by
  unfold jb_has at h
  rw [if_pos q] at h
  exact absurd h (by decide)
theorem jb_has_yes {F : Nat → Int32} {i : Int32} (h : ¬ jb_has F i = 0) : 0 ≤ i ∧ i < jb_pof (F 10) := by
  by_cases q : 0 ≤ i ∧ i < jb_pof (F 10)
  · exact q
  · exact absurd (if_neg q) h
theorem iX1_leftRowOf_X1 : ∀ w ∈ wsX10, w ∈ wsX1_leftRowOf := by decide +kernel
set_option maxHeartbeats 1000000 in
set_option maxRecDepth 100000 in
/-- Report.leftRowOf(i) -/
theorem c_leftRowOf (l : Launch) (dC : Nat → ClassId) (dI : Nat → Nat → Nat) (cI : ClassId) (hR hF hE hQ : Nat) (F E P : Nat → Int32) (dk : Int32) (i : Int32) : Met l yX1_leftRowOf wsX1_leftRowOf ({ frames := 3, cells := 0, slots := 0, locals := 120 } : Room) (va_Pc [.ref hR, .int i] (jb_R dC dI cI [(hR, .inr (1, [.ref hF, .ref hE, .ref hQ, .int dk])), (hF, .inl (cI, 11, .inl F)), (hE, .inl (cI, 1500, .inl E)), (hQ, .inl (cI, 4000, .inl P))])) (vp_Si (fun r => r = jb_lrow F P i)) 0 0 (fun _ => False) := by
  refine Met.ofW (cc := cX1_leftRowOf) (maxL := 2) (ret := (some .int)) (by decide) rfl ?_
  intro p e s m args below meth c s₁ B hml hv
  obtain ⟨rfl, hP, hK, hNw⟩ := hv
  have hx := B.exec
  have hb := B.bytes
  have hr := B.returns
  have hts := atoms_spec (ws := wsX1_leftRowOf) B.pre
  have hown : s.vm.findClass RX1 = some m.cls := findClass_of_methodNamed B.named
  have hlocks := B.notSynchronized
  have hl := lv_entry ([.ref hR, .int i]) (n := 2) (Nat.le_of_ble_eq_true rfl)
  rw [lg_entry_eq]
  generalize (lg_sl ([.ref hR, .int i]) ++ List.replicate (2 - (lg_sl ([.ref hR, .int i])).length) Slot.unset).toArray = ls at hl ⊢
  have hl : lv_has ls 2 [(0, .ref hR), (1, .int i)] := hl
  refine lv_aload_n hx hb dX1_leftRowOf_0 rfl (lv_at hl 0 rfl) ?_
  refine lv_iload_n hx hb dX1_leftRowOf_1 rfl (lv_at hl 1 rfl) ?_
  refine vp_callSi (va_runV (As := [.int i]) (rest := []) ⟨hx, hb, hml, hown, hts⟩ (c_hasPair l dC dI cI hR hF hE hQ F E P dk i) (cwV 1 hts gX1_leftRowOf_X1_hasPair rfl rfl rfl (by decide +kernel) ⟨(by decide +kernel), (by decide +kernel)⟩)  ⟨jb_R_blind, va_recv hK hP (ci := 1) (q0 := 0) rfl rfl, jb_R_pre (hP.sub (ws' := [(hR, .inr (1, [.ref hF, .ref hE, .ref hQ, .int dk])), (hF, .inl (cI, 11, .inl F)), (hE, .inl (cI, 1500, .inl E)), (hQ, .inl (cI, 4000, .inl P))]) [0, 1, 2, 3] rfl) hK hNw⟩ rfl rfl hl.1 rfl (lv_room (Nat.le_of_ble_eq_true rfl)) dX1_leftRowOf_2 ⟨by decide +kernel, by decide +kernel⟩).run (fun r_1 hr_1 => ?_)
  subst hr_1
  refine lv_if_eq (tgt := 20) hx hb dX1_leftRowOf_5 (by decide) (fun c_5 => ?_) (fun c_5 => ?_)
  · refine lv_iconst (v := (-1)) hx hb dX1_leftRowOf_20 (by decide) ?_
    exact W.iret (v := (-1)) hx hb hr (fun t ht hW => ⟨_, rfl, (if_neg (jb_has_no c_5)).symm, ht⟩) (fun _ h => by cases h) dX1_leftRowOf_21
  · have hy := jb_has_yes c_5
    refine lv_aload_n hx hb dX1_leftRowOf_8 rfl (lv_at hl 0 rfl) ?_
    refine va_get (D := (dC, dI)) (ci := 1) (v := .ref hQ) (C := RX1) (T := TX1) (N := 4) hx hb hts iX1_leftRowOf_X1 hown hK hP 0 rfl rfl 2 (by decide) (hts (.fieldLink RX1 18 "JoinBench$Report" "pairs" "[I") (by decide +kernel)) (fun _ h9 => h9) rfl dX1_leftRowOf_9 ?_
    refine lv_iload_n hx hb dX1_leftRowOf_12 rfl (lv_at hl 1 rfl) ?_
    refine va_iald hx hb hK hP 3 0 rfl rfl (i := i) (jb_pof_in hy.1 hy.2) dX1_leftRowOf_13 ?_
    refine lv_bipush (v := 9) hx hb dX1_leftRowOf_14 (by decide) ?_
    refine lv_ishr hx hb dX1_leftRowOf_16 ?_
    refine lv_goto (tgt := 21) hx hb dX1_leftRowOf_17 (by decide) ?_
    exact W.iret (v := ((P i.toNatClampNeg) >>> (9 &&& 31))) hx hb hr (fun t ht hW => ⟨_, rfl, (if_pos hy).symm, ht⟩) (fun _ h => by cases h) dX1_leftRowOf_21
theorem iX1_rightRowOf_X1 : ∀ w ∈ wsX10, w ∈ wsX1_rightRowOf := by decide +kernel
set_option maxHeartbeats 1000000 in
set_option maxRecDepth 100000 in
/-- Report.rightRowOf(i) -/
theorem c_rightRowOf (l : Launch) (dC : Nat → ClassId) (dI : Nat → Nat → Nat) (cI : ClassId) (hR hF hE hQ : Nat) (F E P : Nat → Int32) (dk : Int32) (i : Int32) : Met l yX1_rightRowOf wsX1_rightRowOf ({ frames := 3, cells := 0, slots := 0, locals := 120 } : Room) (va_Pc [.ref hR, .int i] (jb_R dC dI cI [(hR, .inr (1, [.ref hF, .ref hE, .ref hQ, .int dk])), (hF, .inl (cI, 11, .inl F)), (hE, .inl (cI, 1500, .inl E)), (hQ, .inl (cI, 4000, .inl P))])) (vp_Si (fun r => r = jb_rrow F P i)) 0 0 (fun _ => False) := by
  refine Met.ofW (cc := cX1_rightRowOf) (maxL := 2) (ret := (some .int)) (by decide) rfl ?_
  intro p e s m args below meth c s₁ B hml hv
  obtain ⟨rfl, hP, hK, hNw⟩ := hv
  have hx := B.exec
  have hb := B.bytes
  have hr := B.returns
  have hts := atoms_spec (ws := wsX1_rightRowOf) B.pre
  have hown : s.vm.findClass RX1 = some m.cls := findClass_of_methodNamed B.named
  have hlocks := B.notSynchronized
  have hl := lv_entry ([.ref hR, .int i]) (n := 2) (Nat.le_of_ble_eq_true rfl)
  rw [lg_entry_eq]
  generalize (lg_sl ([.ref hR, .int i]) ++ List.replicate (2 - (lg_sl ([.ref hR, .int i])).length) Slot.unset).toArray = ls at hl ⊢
  have hl : lv_has ls 2 [(0, .ref hR), (1, .int i)] := hl
  refine lv_aload_n hx hb dX1_rightRowOf_0 rfl (lv_at hl 0 rfl) ?_
  refine lv_iload_n hx hb dX1_rightRowOf_1 rfl (lv_at hl 1 rfl) ?_
  refine vp_callSi (va_runV (As := [.int i]) (rest := []) ⟨hx, hb, hml, hown, hts⟩ (c_hasPair l dC dI cI hR hF hE hQ F E P dk i) (cwV 1 hts gX1_rightRowOf_X1_hasPair rfl rfl rfl (by decide +kernel) ⟨(by decide +kernel), (by decide +kernel)⟩)  ⟨jb_R_blind, va_recv hK hP (ci := 1) (q0 := 0) rfl rfl, jb_R_pre (hP.sub (ws' := [(hR, .inr (1, [.ref hF, .ref hE, .ref hQ, .int dk])), (hF, .inl (cI, 11, .inl F)), (hE, .inl (cI, 1500, .inl E)), (hQ, .inl (cI, 4000, .inl P))]) [0, 1, 2, 3] rfl) hK hNw⟩ rfl rfl hl.1 rfl (lv_room (Nat.le_of_ble_eq_true rfl)) dX1_rightRowOf_2 ⟨by decide +kernel, by decide +kernel⟩).run (fun r_1 hr_1 => ?_)
  subst hr_1
  refine lv_if_eq (tgt := 21) hx hb dX1_rightRowOf_5 (by decide) (fun c_5 => ?_) (fun c_5 => ?_)
  · refine lv_iconst (v := (-1)) hx hb dX1_rightRowOf_21 (by decide) ?_
    exact W.iret (v := (-1)) hx hb hr (fun t ht hW => ⟨_, rfl, (if_neg (jb_has_no c_5)).symm, ht⟩) (fun _ h => by cases h) dX1_rightRowOf_22
  · have hy := jb_has_yes c_5
    refine lv_aload_n hx hb dX1_rightRowOf_8 rfl (lv_at hl 0 rfl) ?_
    refine va_get (D := (dC, dI)) (ci := 1) (v := .ref hQ) (C := RX1) (T := TX1) (N := 4) hx hb hts iX1_rightRowOf_X1 hown hK hP 0 rfl rfl 2 (by decide) (hts (.fieldLink RX1 18 "JoinBench$Report" "pairs" "[I") (by decide +kernel)) (fun _ h9 => h9) rfl dX1_rightRowOf_9 ?_
    refine lv_iload_n hx hb dX1_rightRowOf_12 rfl (lv_at hl 1 rfl) ?_
    refine va_iald hx hb hK hP 3 0 rfl rfl (i := i) (jb_pof_in hy.1 hy.2) dX1_rightRowOf_13 ?_
    refine lv_sipush (v := 511) hx hb dX1_rightRowOf_14 (by decide) ?_
    refine lv_iand hx hb dX1_rightRowOf_17 ?_
    refine lv_goto (tgt := 22) hx hb dX1_rightRowOf_18 (by decide) ?_
    exact W.iret (v := ((P i.toNatClampNeg) &&& 511)) hx hb hr (fun t ht hW => ⟨_, rfl, (if_pos hy).symm, ht⟩) (fun _ h => by cases h) dX1_rightRowOf_22
theorem iX1_figure_X1 : ∀ w ∈ wsX10, w ∈ wsX1_figure := by decide +kernel
set_option maxHeartbeats 1000000 in
set_option maxRecDepth 100000 in
/-- Report.figure(what) -/
theorem c_figure (l : Launch) (dC : Nat → ClassId) (dI : Nat → Nat → Nat) (cI : ClassId) (hR hF hE hQ : Nat) (F E P : Nat → Int32) (dk : Int32) (i : Int32) : Met l yX1_figure wsX1_figure ({ frames := 1, cells := 0, slots := 0, locals := 40 } : Room) (va_Pc [.ref hR, .int i] (jb_R dC dI cI [(hR, .inr (1, [.ref hF, .ref hE, .ref hQ, .int dk])), (hF, .inl (cI, 11, .inl F)), (hE, .inl (cI, 1500, .inl E)), (hQ, .inl (cI, 4000, .inl P))])) (vp_Si (fun r => r = jb_fig F i)) 0 0 (fun _ => False) := by
  refine Met.ofW (cc := cX1_figure) (maxL := 2) (ret := (some .int)) (by decide) rfl ?_
  intro p e s m args below meth c s₁ B hml hv
  obtain ⟨rfl, hP, hK, hNw⟩ := hv
  have hx := B.exec
  have hb := B.bytes
  have hr := B.returns
  have hts := atoms_spec (ws := wsX1_figure) B.pre
  have hown : s.vm.findClass RX1 = some m.cls := findClass_of_methodNamed B.named
  have hlocks := B.notSynchronized
  have hl := lv_entry ([.ref hR, .int i]) (n := 2) (Nat.le_of_ble_eq_true rfl)
  rw [lg_entry_eq]
  generalize (lg_sl ([.ref hR, .int i]) ++ List.replicate (2 - (lg_sl ([.ref hR, .int i])).length) Slot.unset).toArray = ls at hl ⊢
  have hl : lv_has ls 2 [(0, .ref hR), (1, .int i)] := hl
  refine lv_iload_n hx hb dX1_figure_0 rfl (lv_at hl 1 rfl) ?_
  refine lv_if_lt (tgt := 10) hx hb dX1_figure_1 (by decide) (fun c_1 => ?_) (fun c_1 => ?_)
  · refine lv_iconst (v := (-1)) hx hb dX1_figure_10 (by decide) ?_
    refine lv_goto (tgt := 20) hx hb dX1_figure_11 (by decide) ?_
    exact W.iret (v := (-1)) hx hb hr (fun t ht hW => ⟨_, rfl, (if_pos (Or.inl c_1)).symm, ht⟩) (fun _ h => by cases h) dX1_figure_20
  · refine lv_iload_n hx hb dX1_figure_4 rfl (lv_at hl 1 rfl) ?_
    refine lv_bipush (v := 11) hx hb dX1_figure_5 (by decide) ?_
    refine lv_icmp_lt (tgt := 14) hx hb dX1_figure_7 (by decide) (fun c_7 => ?_) (fun c_7 => ?_)
    · refine lv_aload_n hx hb dX1_figure_14 rfl (lv_at hl 0 rfl) ?_
      refine va_get (D := (dC, dI)) (ci := 1) (v := .ref hF) (C := RX1) (T := TX1) (N := 4) hx hb hts iX1_figure_X1 hown hK hP 0 rfl rfl 0 (by decide) (hts (.fieldLink RX1 11 "JoinBench$Report" "figures" "[I") (by decide +kernel)) (fun _ h9 => h9) rfl dX1_figure_15 ?_
      refine lv_iload_n hx hb dX1_figure_18 rfl (lv_at hl 1 rfl) ?_
      refine va_iald hx hb hK hP 1 0 rfl rfl (i := i) (jb_in_of (N := 11) rfl c_1 c_7) dX1_figure_19 ?_
      exact W.iret (v := (F i.toNatClampNeg)) hx hb hr (fun t ht hW => ⟨_, rfl, (if_neg (fun h => h.elim c_1 (fun h => Int32.not_lt.mpr h c_7))).symm, ht⟩) (fun _ h => by cases h) dX1_figure_20
    · refine lv_iconst (v := (-1)) hx hb dX1_figure_10 (by decide) ?_
      refine lv_goto (tgt := 20) hx hb dX1_figure_11 (by decide) ?_
      exact W.iret (v := (-1)) hx hb hr (fun t ht hW => ⟨_, rfl, (if_pos (Or.inr (Int32.not_lt.mp c_7))).symm, ht⟩) (fun _ h => by cases h) dX1_figure_20
theorem jb_min_lt {x i : Int32} (h : i < (if 300 < x then 300 else x)) : i < 300 := by
  split at h
  · exact h
  · rename_i h2
    exact Int32.lt_of_lt_of_le h (Int32.not_lt.mp h2)
theorem iX1_ofEvent_X1 : ∀ w ∈ wsX10, w ∈ wsX1_ofEvent := by decide +kernel
set_option maxHeartbeats 1000000 in
set_option maxRecDepth 100000 in
/-- Report.ofEvent(i, what) -/
theorem c_ofEvent (l : Launch) (dC : Nat → ClassId) (dI : Nat → Nat → Nat) (cI : ClassId) (hR hF hE hQ : Nat) (F E P : Nat → Int32) (dk : Int32) (i j : Int32) : Met l yX1_ofEvent wsX1_ofEvent ({ frames := 2, cells := 0, slots := 0, locals := 80 } : Room) (va_Pc [.ref hR, .int i, .int j] (jb_R dC dI cI [(hR, .inr (1, [.ref hF, .ref hE, .ref hQ, .int dk])), (hF, .inl (cI, 11, .inl F)), (hE, .inl (cI, 1500, .inl E)), (hQ, .inl (cI, 4000, .inl P))])) (vp_Si (fun r => r = jb_evt F E i j)) 0 0 (fun _ => False) := by
  refine Met.ofW (cc := cX1_ofEvent) (maxL := 3) (ret := (some .int)) (by decide) rfl ?_
  intro p e s m args below meth c s₁ B hml hv
  obtain ⟨rfl, hP, hK, hNw⟩ := hv
  have hx := B.exec
  have hb := B.bytes
  have hr := B.returns
  have hts := atoms_spec (ws := wsX1_ofEvent) B.pre
  have hown : s.vm.findClass RX1 = some m.cls := findClass_of_methodNamed B.named
  have hlocks := B.notSynchronized
  have hl := lv_entry ([.ref hR, .int i, .int j]) (n := 3) (Nat.le_of_ble_eq_true rfl)
  rw [lg_entry_eq]
  generalize (lg_sl ([.ref hR, .int i, .int j]) ++ List.replicate (3 - (lg_sl ([.ref hR, .int i, .int j])).length) Slot.unset).toArray = ls at hl ⊢
  have hl : lv_has ls 3 [(0, .ref hR), (1, .int i), (2, .int j)] := hl
  refine lv_iload_n hx hb dX1_ofEvent_0 rfl (lv_at hl 1 rfl) ?_
  refine lv_if_lt (tgt := 20) hx hb dX1_ofEvent_1 (by decide) (fun c_1 => ?_) (fun c_1 => ?_)
  · refine lv_iconst (v := (-1)) hx hb dX1_ofEvent_20 (by decide) ?_
    exact W.iret (v := (-1)) hx hb hr (fun t ht hW => ⟨_, rfl, (if_pos (Or.inl c_1)).symm, ht⟩) (fun _ h => by cases h) dX1_ofEvent_21
  · refine lv_iload_n hx hb dX1_ofEvent_4 rfl (lv_at hl 1 rfl) ?_
    refine lv_aload_n hx hb dX1_ofEvent_5 rfl (lv_at hl 0 rfl) ?_
    refine va_get (D := (dC, dI)) (ci := 1) (v := .ref hF) (C := RX1) (T := TX1) (N := 4) hx hb hts iX1_ofEvent_X1 hown hK hP 0 rfl rfl 0 (by decide) (hts (.fieldLink RX1 11 "JoinBench$Report" "figures" "[I") (by decide +kernel)) (fun _ h9 => h9) rfl dX1_ofEvent_6 ?_
    refine lv_iconst (v := 5) hx hb dX1_ofEvent_9 (by decide) ?_
    refine va_iald hx hb hK hP 1 0 rfl rfl (i := 5) (by unfold vp_in; decide) dX1_ofEvent_10 ?_
    refine lv_topi (fun v_1 ev_1 => ?_)
    have hv_1 : v_1 = (F 5) := ev_1.trans (rfl)
    clear ev_1; subst hv_1
    refine lv_sipush (v := 300) hx hb dX1_ofEvent_11 (by decide) ?_
    refine va_mmin hx hb (by rw [hml]; exact hl.1.symm) hown (hts (.methodLink RX1 45 Lib.Math.min.name) (by decide +kernel)) (hts (.static Lib.Math.min.name) (by decide +kernel)) (hts (.initialized "java/lang/Math") (by decide +kernel)) (hts (.code Lib.Math.min.name Lib.Math.min.code 2 (some .int)) (by decide +kernel)) (by decide +kernel) (Nat.le_of_ble_eq_true rfl) (Nat.zero_le _) (Nat.zero_le _) dX1_ofEvent_14 ?_
    refine lv_icmp_lt (tgt := 22) hx hb dX1_ofEvent_17 (by decide) (fun c_17 => ?_) (fun c_17 => ?_)
    · refine lv_iload_n hx hb dX1_ofEvent_22 rfl (lv_at hl 2 rfl) ?_
      refine lv_if_lt (tgt := 31) hx hb dX1_ofEvent_23 (by decide) (fun c_23 => ?_) (fun c_23 => ?_)
      · refine lv_iconst (v := (-1)) hx hb dX1_ofEvent_31 (by decide) ?_
        exact W.iret (v := (-1)) hx hb hr (fun t ht hW => ⟨_, rfl, (if_pos (Or.inr (Or.inr (Or.inl c_23)))).symm, ht⟩) (fun _ h => by cases h) dX1_ofEvent_32
      · refine lv_iload_n hx hb dX1_ofEvent_26 rfl (lv_at hl 2 rfl) ?_
        refine lv_iconst (v := 5) hx hb dX1_ofEvent_27 (by decide) ?_
        refine lv_icmp_lt (tgt := 33) hx hb dX1_ofEvent_28 (by decide) (fun c_28 => ?_) (fun c_28 => ?_)
        · refine lv_aload_n hx hb dX1_ofEvent_33 rfl (lv_at hl 0 rfl) ?_
          refine va_get (D := (dC, dI)) (ci := 1) (v := .ref hE) (C := RX1) (T := TX1) (N := 4) hx hb hts iX1_ofEvent_X1 hown hK hP 0 rfl rfl 1 (by decide) (hts (.fieldLink RX1 15 "JoinBench$Report" "events" "[I") (by decide +kernel)) (fun _ h9 => h9) rfl dX1_ofEvent_34 ?_
          refine lv_iload_n hx hb dX1_ofEvent_37 rfl (lv_at hl 1 rfl) ?_
          refine lv_iconst (v := 5) hx hb dX1_ofEvent_38 (by decide) ?_
          refine lv_imul hx hb dX1_ofEvent_39 ?_
          refine lv_iload_n hx hb dX1_ofEvent_40 rfl (lv_at hl 2 rfl) ?_
          refine lv_iadd hx hb dX1_ofEvent_41 ?_
          obtain ⟨a, ha, ea⟩ := vp_in_of (jb_in_of (n := 300) (N := 300) rfl c_1 (jb_min_lt c_17)) (by decide)
          obtain ⟨b, hb2, eb⟩ := vp_in_of (jb_in_of (n := 5) (N := 5) rfl c_23 c_28) (by decide)
          refine lv_topi (fun v_2 ev_2 => ?_)
          have hv_2 : v_2 = nI (a * 5 + b) := ev_2.trans (by rw [ea, eb, show (5 : Int32) = nI 5 from rfl, jb_nmul, nI_add])
          clear ev_2; subst hv_2
          refine va_iald hx hb hK hP 2 0 rfl rfl (i := nI (a * 5 + b)) (vp_in_nI (n := a * 5 + b) (by omega) (by decide)) dX1_ofEvent_42 ?_
          refine lv_topi (fun v_3 ev_3 => ?_)
          have hv_3 : v_3 = (E (i.toNatClampNeg * 5 + j.toNatClampNeg)) := ev_3.trans (by rw [ea, eb, nI_clamp (by omega), nI_clamp (by omega), nI_clamp (by omega)])
          clear ev_3; subst hv_3
          exact W.iret (v := (E (i.toNatClampNeg * 5 + j.toNatClampNeg))) hx hb hr (fun t ht hW => ⟨_, rfl, (if_neg (fun h => h.elim c_1 (fun h => h.elim (fun h => Int32.not_lt.mpr h c_17) (fun h => h.elim c_23 (fun h => Int32.not_lt.mpr h c_28))))).symm, ht⟩) (fun _ h => by cases h) dX1_ofEvent_43
        · refine lv_iconst (v := (-1)) hx hb dX1_ofEvent_31 (by decide) ?_
          exact W.iret (v := (-1)) hx hb hr (fun t ht hW => ⟨_, rfl, (if_pos (Or.inr (Or.inr (Or.inr (Int32.not_lt.mp c_28))))).symm, ht⟩) (fun _ h => by cases h) dX1_ofEvent_32
    · refine lv_iconst (v := (-1)) hx hb dX1_ofEvent_20 (by decide) ?_
      exact W.iret (v := (-1)) hx hb hr (fun t ht hW => ⟨_, rfl, (if_pos (Or.inr (Or.inl (Int32.not_lt.mp c_17)))).symm, ht⟩) (fun _ h => by cases h) dX1_ofEvent_21
theorem iX1_init_X1 : ∀ w ∈ wsX10, w ∈ wsX1_init := by decide +kernel
set_option maxHeartbeats 1000000 in
set_option maxRecDepth 100000 in
/-- Report() -/
theorem c_Report_init (l : Launch) (dC : Nat → ClassId) (dI : Nat → Nat → Nat) (cI : ClassId) (sz : Nat) (hR : Nat) : Met l yX1_init wsX1_init ({ frames := 1, cells := 3, slots := 5511, locals := 40 } : Room) (va_Pc [.ref hR] (jb_M dC dI cI sz [(hR, .inr (1, [.null, .null, .null, .int 0]))])) (va_Qv (fun (_ : Nat × Nat × Nat) => True) (jb_B dC dI (va_A [(hR, .inr (1, [.null, .null, .null, .int 0]))] sz) (fun u => [(hR, .inr (1, [.ref u.1, .ref u.2.1, .ref u.2.2, .int 0])), (u.1, .inl (cI, 11, .inl (upd (fun _ => 0) 4 (-1)))), (u.2.1, .inl (cI, 1500, .inl (fun _ => 0))), (u.2.2, .inl (cI, 4000, .inl (fun _ => 0)))])) (va_A [(hR, .inr (1, [.null, .null, .null, .int 0]))] sz)) 3 5511 (va_A [(hR, .inr (1, [.null, .null, .null, .int 0]))] sz) := by
  refine Met.ofW (cc := cX1_init) (maxL := 1) (ret := none) (by decide) rfl ?_
  intro p e s m args below meth c s₁ B hml hv
  obtain ⟨rfl, hsz, hP, hK, hNw, hD0⟩ := hv
  have hx := B.exec
  have hb := B.bytes
  have hr := B.returns
  have hts := atoms_spec (ws := wsX1_init) B.pre
  have hown : s.vm.findClass RX1 = some m.cls := findClass_of_methodNamed B.named
  have hlocks := B.notSynchronized
  have hin : meth.name = "<init>" := (name_of_methodNamed B.named B.method).1
  subst hsz
  have hD := hD0.self (sz := s.heap.size)
  generalize hAe : va_A [(hR, .inr (1, [.null, .null, .null, .int 0]))] s.heap.size = A at hD ⊢
  have hA : ∀ q : Nat, s.heap.size ≤ q → A q := fun q h => by rw [← hAe]; exact Or.inr h
  have hS : va_S A s.heap s.heap [] := va_S.rf
  have hP : va_P (dC, dI) vwCl [(hR, .inr (1, [.null, .null, .null, .int 0]))] s.heap := hP
  have hl := lv_entry ([.ref hR]) (n := 1) (Nat.le_of_ble_eq_true rfl)
  rw [lg_entry_eq]
  generalize (lg_sl ([.ref hR]) ++ List.replicate (1 - (lg_sl ([.ref hR])).length) Slot.unset).toArray = ls at hl ⊢
  have hl : lv_has ls 1 [(0, .ref hR)] := hl
  refine lv_aload_n hx hb dX1_init_0 rfl (lv_at hl 0 rfl) ?_
  refine W.objInit hx hb hown (hts (.methodLink RX1 3 objectInit) (by decide +kernel)) (hts (.instanceMethod objectInit) (by decide +kernel)) (hts (.code objectInit ⟨#[0xb1]⟩ 1 none) (by decide +kernel)) rfl (by rw [hml]; exact hl.1) rfl dX1_init_1 (Nat.le_of_ble_eq_true rfl) (Nat.le_of_ble_eq_true rfl) ?_
  refine W.eq (g2 := F0 m 4 ls []) rfl ?_
  refine lv_aload_n hx hb dX1_init_4 rfl (lv_at hl 0 rfl) ?_
  refine lv_bipush (v := 11) hx hb dX1_init_5 (by decide) ?_
  refine va_newa (atype := .int) hx hb (hts (.arrayClass .int) (by decide +kernel)) (ty := .int) rfl hK hP hD hS hA (N' := 11) (a0 := (11, .inl (fun _ => 0))) (jb_arr0 11) (by decide +kernel) (by decide +kernel) (by decide +kernel) (by decide +kernel) (by decide +kernel) dX1_init_7 (fun q_1 cJ H hK2 hP hD hS => ?_)
  have hcj : cJ = cI := jb_cI hK2 hK
  clear hK2; subst cJ
  have hP : va_P (dC, dI) vwCl [(hR, .inr (1, [.null, .null, .null, .int 0])), (q_1, .inl (cI, 11, .inl (fun _ => 0)))] H := hP
  have hD : va_D A [(hR, .inr (1, [.null, .null, .null, .int 0])), (q_1, .inl (cI, 11, .inl (fun _ => 0)))] := hD
  refine W.widen (k := 1) (n := 11) (by decide +kernel) (by decide +kernel) ?_
  refine va_putF (D := (dC, dI)) (ci := 1) (v := .ref q_1) (ty := (.array .int)) (C := RX1) (T := TX1) (N := 4) hx hb hts iX1_init_X1 tyX1 tyX1_ok nmX1 hown hK hP hD hS 0 rfl rfl 0 (by decide) (hts (.fieldLink RX1 11 "JoinBench$Report" "figures" "[I") (by decide +kernel)) (fun _ h9 => h9) rfl hin rfl (by decide +kernel) rfl rfl (Nat.le_of_ble_eq_true rfl) dX1_init_9 (fun H locs hP hD hS => ?_)
  have hP : va_P (dC, dI) vwCl [(hR, .inr (1, [.ref q_1, .null, .null, .int 0])), (q_1, .inl (cI, 11, .inl (fun _ => 0)))] H := hP
  have hD : va_D A [(hR, .inr (1, [.ref q_1, .null, .null, .int 0])), (q_1, .inl (cI, 11, .inl (fun _ => 0)))] := hD
  refine lv_aload_n hx hb dX1_init_12 rfl (lv_at hl 0 rfl) ?_
  refine va_get (D := (dC, dI)) (ci := 1) (v := .ref q_1) (C := RX1) (T := TX1) (N := 4) hx hb hts iX1_init_X1 hown hK hP 0 rfl rfl 0 (by decide) (hts (.fieldLink RX1 11 "JoinBench$Report" "figures" "[I") (by decide +kernel)) (fun _ h9 => h9) rfl dX1_init_13 ?_
  refine lv_iconst (v := 4) hx hb dX1_init_16 (by decide) ?_
  refine lv_iconst (v := (-1)) hx hb dX1_init_17 (by decide) ?_
  refine va_iast hx hb hK hP hD hS 1 0 rfl rfl (i := 4) (x := (-1)) (by unfold vp_in; decide) dX1_init_18 (fun H locs hP hD hS => ?_)
  rw [show (4 : Int32).toNatClampNeg = 4 from rfl] at hP hD
  have hP : va_P (dC, dI) vwCl [(hR, .inr (1, [.ref q_1, .null, .null, .int 0])), (q_1, .inl (cI, 11, .inl (upd (fun _ => 0) 4 (-1))))] H := hP
  have hD : va_D A [(hR, .inr (1, [.ref q_1, .null, .null, .int 0])), (q_1, .inl (cI, 11, .inl (upd (fun _ => 0) 4 (-1))))] := hD
  refine lv_aload_n hx hb dX1_init_19 rfl (lv_at hl 0 rfl) ?_
  refine lv_sipush (v := 1500) hx hb dX1_init_20 (by decide) ?_
  refine va_newa (atype := .int) hx hb (hts (.arrayClass .int) (by decide +kernel)) (ty := .int) rfl hK hP hD hS hA (N' := 1500) (a0 := (1500, .inl (fun _ => 0))) (jb_arr0 1500) (by decide +kernel) (by decide +kernel) (by decide +kernel) (by decide +kernel) (by decide +kernel) dX1_init_23 (fun q_2 cJ H hK2 hP hD hS => ?_)
  have hcj : cJ = cI := jb_cI hK2 hK
  clear hK2; subst cJ
  have hP : va_P (dC, dI) vwCl [(hR, .inr (1, [.ref q_1, .null, .null, .int 0])), (q_1, .inl (cI, 11, .inl (upd (fun _ => 0) 4 (-1)))), (q_2, .inl (cI, 1500, .inl (fun _ => 0)))] H := hP
  have hD : va_D A [(hR, .inr (1, [.ref q_1, .null, .null, .int 0])), (q_1, .inl (cI, 11, .inl (upd (fun _ => 0) 4 (-1)))), (q_2, .inl (cI, 1500, .inl (fun _ => 0)))] := hD
  refine W.widen (k := 2) (n := 1511) (by decide +kernel) (by decide +kernel) ?_
  refine va_putF (D := (dC, dI)) (ci := 1) (v := .ref q_2) (ty := (.array .int)) (C := RX1) (T := TX1) (N := 4) hx hb hts iX1_init_X1 tyX1 tyX1_ok nmX1 hown hK hP hD hS 0 rfl rfl 1 (by decide) (hts (.fieldLink RX1 15 "JoinBench$Report" "events" "[I") (by decide +kernel)) (fun _ h9 => h9) rfl hin rfl (by decide +kernel) rfl rfl (Nat.le_of_ble_eq_true rfl) dX1_init_25 (fun H locs hP hD hS => ?_)
  have hP : va_P (dC, dI) vwCl [(hR, .inr (1, [.ref q_1, .ref q_2, .null, .int 0])), (q_1, .inl (cI, 11, .inl (upd (fun _ => 0) 4 (-1)))), (q_2, .inl (cI, 1500, .inl (fun _ => 0)))] H := hP
  have hD : va_D A [(hR, .inr (1, [.ref q_1, .ref q_2, .null, .int 0])), (q_1, .inl (cI, 11, .inl (upd (fun _ => 0) 4 (-1)))), (q_2, .inl (cI, 1500, .inl (fun _ => 0)))] := hD
  refine lv_aload_n hx hb dX1_init_28 rfl (lv_at hl 0 rfl) ?_
  refine lv_sipush (v := 4000) hx hb dX1_init_29 (by decide) ?_
  refine va_newa (atype := .int) hx hb (hts (.arrayClass .int) (by decide +kernel)) (ty := .int) rfl hK hP hD hS hA (N' := 4000) (a0 := (4000, .inl (fun _ => 0))) (jb_arr0 4000) (by decide +kernel) (by decide +kernel) (by decide +kernel) (by decide +kernel) (by decide +kernel) dX1_init_32 (fun q_3 cJ H hK2 hP hD hS => ?_)
  have hcj : cJ = cI := jb_cI hK2 hK
  clear hK2; subst cJ
  have hP : va_P (dC, dI) vwCl [(hR, .inr (1, [.ref q_1, .ref q_2, .null, .int 0])), (q_1, .inl (cI, 11, .inl (upd (fun _ => 0) 4 (-1)))), (q_2, .inl (cI, 1500, .inl (fun _ => 0))), (q_3, .inl (cI, 4000, .inl (fun _ => 0)))] H := hP
  have hD : va_D A [(hR, .inr (1, [.ref q_1, .ref q_2, .null, .int 0])), (q_1, .inl (cI, 11, .inl (upd (fun _ => 0) 4 (-1)))), (q_2, .inl (cI, 1500, .inl (fun _ => 0))), (q_3, .inl (cI, 4000, .inl (fun _ => 0)))] := hD
  refine W.widen (k := 3) (n := 5511) (by decide +kernel) (by decide +kernel) ?_
  refine va_putF (D := (dC, dI)) (ci := 1) (v := .ref q_3) (ty := (.array .int)) (C := RX1) (T := TX1) (N := 4) hx hb hts iX1_init_X1 tyX1 tyX1_ok nmX1 hown hK hP hD hS 0 rfl rfl 2 (by decide) (hts (.fieldLink RX1 18 "JoinBench$Report" "pairs" "[I") (by decide +kernel)) (fun _ h9 => h9) rfl hin rfl (by decide +kernel) rfl rfl (Nat.le_of_ble_eq_true rfl) dX1_init_34 (fun H locs hP hD hS => ?_)
  have hP : va_P (dC, dI) vwCl [(hR, .inr (1, [.ref q_1, .ref q_2, .ref q_3, .int 0])), (q_1, .inl (cI, 11, .inl (upd (fun _ => 0) 4 (-1)))), (q_2, .inl (cI, 1500, .inl (fun _ => 0))), (q_3, .inl (cI, 4000, .inl (fun _ => 0)))] H := hP
  have hD : va_D A [(hR, .inr (1, [.ref q_1, .ref q_2, .ref q_3, .int 0])), (q_1, .inl (cI, 11, .inl (upd (fun _ => 0) 4 (-1)))), (q_2, .inl (cI, 1500, .inl (fun _ => 0))), (q_3, .inl (cI, 4000, .inl (fun _ => 0)))] := hD
  refine lv_aload_n hx hb dX1_init_37 rfl (lv_at hl 0 rfl) ?_
  refine lv_iconst (v := 0) hx hb dX1_init_38 (by decide) ?_
  refine va_put (D := (dC, dI)) (ci := 1) (v := .int 0) (ty := .int) (C := RX1) (T := TX1) (N := 4) hx hb hts iX1_init_X1 tyX1 tyX1_ok nmX1 hown hK hP hD hS 0 rfl rfl 3 (by decide) (hts (.fieldLink RX1 21 "JoinBench$Report" "onDisk" "I") (by decide +kernel)) (fun _ h9 => h9) rfl (by decide +kernel) rfl rfl (Nat.le_of_ble_eq_true rfl) dX1_init_39 (fun H locs hP hD hS => ?_)
  have hP : va_P (dC, dI) vwCl [(hR, .inr (1, [.ref q_1, .ref q_2, .ref q_3, .int 0])), (q_1, .inl (cI, 11, .inl (upd (fun _ => 0) 4 (-1)))), (q_2, .inl (cI, 1500, .inl (fun _ => 0))), (q_3, .inl (cI, 4000, .inl (fun _ => 0)))] H := hP
  have hD : va_D A [(hR, .inr (1, [.ref q_1, .ref q_2, .ref q_3, .int 0])), (q_1, .inl (cI, 11, .inl (upd (fun _ => 0) 4 (-1)))), (q_2, .inl (cI, 1500, .inl (fun _ => 0))), (q_3, .inl (cI, 4000, .inl (fun _ => 0)))] := hD
  have hP9 : va_P (dC, dI) vwCl [(hR, .inr (1, [.ref q_1, .ref q_2, .ref q_3, .int 0])), (q_1, .inl (cI, 11, .inl (upd (fun _ => 0) 4 (-1)))), (q_2, .inl (cI, 1500, .inl (fun _ => 0))), (q_3, .inl (cI, 4000, .inl (fun _ => 0)))] H := hP.sub [0, 1, 2, 3] rfl
  have hD9 : va_D A [(hR, .inr (1, [.ref q_1, .ref q_2, .ref q_3, .int 0])), (q_1, .inl (cI, 11, .inl (upd (fun _ => 0) 4 (-1)))), (q_2, .inl (cI, 1500, .inl (fun _ => 0))), (q_3, .inl (cI, 4000, .inl (fun _ => 0)))] := hD.sub [0, 1, 2, 3] (by decide) rfl
  exact W.vret hx hb hr (fun t ht hW => ⟨⟨(q_1, q_2, q_3), rfl, trivial, by rw [ht]; exact hP9, hD9⟩, hS.F ht⟩) hS.2.2 dX1_init_42
theorem iX1_beginAnew_X1 : ∀ w ∈ wsX10, w ∈ wsX1_beginAnew := by decide +kernel
set_option maxHeartbeats 1000000 in
set_option maxRecDepth 100000 in
/-- Report.beginAnew() -/
theorem c_beginAnew (l : Launch) (dC : Nat → ClassId) (dI : Nat → Nat → Nat) (cI : ClassId) (sz : Nat) (hR hF hE hQ : Nat) (F E P : Nat → Int32) (dk : Int32) : Met l yX1_beginAnew wsX1_beginAnew ({ frames := 2, cells := 0, slots := 0, locals := 80 } : Room) (va_Pc [.ref hR] (jb_M dC dI cI sz [(hR, .inr (1, [.ref hF, .ref hE, .ref hQ, .int dk])), (hF, .inl (cI, 11, .inl F)), (hE, .inl (cI, 1500, .inl E)), (hQ, .inl (cI, 4000, .inl P))])) (va_Qv (fun (_ : Unit) => True) (jb_B dC dI (va_A [(hR, .inr (1, [.ref hF, .ref hE, .ref hQ, .int dk])), (hF, .inl (cI, 11, .inl F)), (hE, .inl (cI, 1500, .inl E)), (hQ, .inl (cI, 4000, .inl P))] sz) (fun _ => [(hR, .inr (1, [.ref hF, .ref hE, .ref hQ, .int 0])), (hF, .inl (cI, 11, .inl (jb_fl F 0 11))), (hE, .inl (cI, 1500, .inl E)), (hQ, .inl (cI, 4000, .inl P))])) (va_A [(hR, .inr (1, [.ref hF, .ref hE, .ref hQ, .int dk])), (hF, .inl (cI, 11, .inl F)), (hE, .inl (cI, 1500, .inl E)), (hQ, .inl (cI, 4000, .inl P))] sz)) 0 0 (va_A [(hR, .inr (1, [.ref hF, .ref hE, .ref hQ, .int dk])), (hF, .inl (cI, 11, .inl F)), (hE, .inl (cI, 1500, .inl E)), (hQ, .inl (cI, 4000, .inl P))] sz) := by
  refine Met.ofW (cc := cX1_beginAnew) (maxL := 1) (ret := none) (by decide) rfl ?_
  intro p e s m args below meth c s₁ B hml hv
  obtain ⟨rfl, hsz, hP, hK, hNw, hD0⟩ := hv
  have hx := B.exec
  have hb := B.bytes
  have hr := B.returns
  have hts := atoms_spec (ws := wsX1_beginAnew) B.pre
  have hown : s.vm.findClass RX1 = some m.cls := findClass_of_methodNamed B.named
  have hlocks := B.notSynchronized
  subst hsz
  have hD := hD0.self (sz := s.heap.size)
  generalize hAe : va_A [(hR, .inr (1, [.ref hF, .ref hE, .ref hQ, .int dk])), (hF, .inl (cI, 11, .inl F)), (hE, .inl (cI, 1500, .inl E)), (hQ, .inl (cI, 4000, .inl P))] s.heap.size = A at hD ⊢
  have hA : ∀ q : Nat, s.heap.size ≤ q → A q := fun q h => by rw [← hAe]; exact Or.inr h
  have hS : va_S A s.heap s.heap [] := va_S.rf
  have hP : va_P (dC, dI) vwCl [(hR, .inr (1, [.ref hF, .ref hE, .ref hQ, .int dk])), (hF, .inl (cI, 11, .inl F)), (hE, .inl (cI, 1500, .inl E)), (hQ, .inl (cI, 4000, .inl P))] s.heap := hP
  have hl := lv_entry ([.ref hR]) (n := 1) (Nat.le_of_ble_eq_true rfl)
  rw [lg_entry_eq]
  generalize (lg_sl ([.ref hR]) ++ List.replicate (1 - (lg_sl ([.ref hR])).length) Slot.unset).toArray = ls at hl ⊢
  have hl : lv_has ls 1 [(0, .ref hR)] := hl
  refine lv_aload_n hx hb dX1_beginAnew_0 rfl (lv_at hl 0 rfl) ?_
  refine va_get (D := (dC, dI)) (ci := 1) (v := .ref hF) (C := RX1) (T := TX1) (N := 4) hx hb hts iX1_beginAnew_X1 hown hK hP 0 rfl rfl 0 (by decide) (hts (.fieldLink RX1 11 "JoinBench$Report" "figures" "[I") (by decide +kernel)) (fun _ h9 => h9) rfl dX1_beginAnew_1 ?_
  refine lv_iconst (v := 0) hx hb dX1_beginAnew_4 (by decide) ?_
  refine jb_cv (wc := [(hF, .inl (cI, 11, .inl F))]) (wr := [(hR, .inr (1, [.ref hF, .ref hE, .ref hQ, .int dk])), (hE, .inl (cI, 1500, .inl E)), (hQ, .inl (cI, 4000, .inl P))]) (va_runS (As := [.ref hF, .int 0]) (rest := []) ⟨hx, hb, hml, hown, hts⟩ (c_fill l dC dI cI s.heap.size hF 11 F 0 (by decide)) (va_cwS 2 hts gX1_beginAnew_J7_fill_53178 rfl rfl rfl (by decide +kernel) ⟨(by decide +kernel), (by decide +kernel)⟩)  ⟨jb_M_blind, jb_M_pre (hP.sub (ws' := [(hF, .inl (cI, 11, .inl F))]) [1] rfl) (hD.sub (ws' := [(hF, .inl (cI, 11, .inl F))]) [1] (by decide) rfl) hK hNw⟩ rfl rfl hl.1 rfl (lv_room (Nat.le_of_ble_eq_true rfl)) dX1_beginAnew_5 ⟨by decide +kernel, by decide +kernel⟩) hP hD hS hA [1] [0, 2, 3] rfl rfl (by decide) (by decide) (fun u_1 H locs hu_1 hP hD hS => ?_)
  have hP : va_P (dC, dI) vwCl [(hR, .inr (1, [.ref hF, .ref hE, .ref hQ, .int dk])), (hF, .inl (cI, 11, .inl (jb_fl F 0 11))), (hE, .inl (cI, 1500, .inl E)), (hQ, .inl (cI, 4000, .inl P))] H := hP.sub [0, 3, 1, 2] rfl
  have hD : va_D A [(hR, .inr (1, [.ref hF, .ref hE, .ref hQ, .int dk])), (hF, .inl (cI, 11, .inl (jb_fl F 0 11))), (hE, .inl (cI, 1500, .inl E)), (hQ, .inl (cI, 4000, .inl P))] := hD.sub [0, 3, 1, 2] (by decide) rfl
  refine lv_aload_n hx hb dX1_beginAnew_8 rfl (lv_at hl 0 rfl) ?_
  refine lv_iconst (v := 0) hx hb dX1_beginAnew_9 (by decide) ?_
  refine va_put (D := (dC, dI)) (ci := 1) (v := .int 0) (ty := .int) (C := RX1) (T := TX1) (N := 4) hx hb hts iX1_beginAnew_X1 tyX1 tyX1_ok nmX1 hown hK hP hD hS 0 rfl rfl 3 (by decide) (hts (.fieldLink RX1 21 "JoinBench$Report" "onDisk" "I") (by decide +kernel)) (fun _ h9 => h9) rfl (by decide +kernel) rfl rfl (Nat.le_of_ble_eq_true rfl) dX1_beginAnew_10 (fun H locs hP hD hS => ?_)
  have hP : va_P (dC, dI) vwCl [(hR, .inr (1, [.ref hF, .ref hE, .ref hQ, .int 0])), (hF, .inl (cI, 11, .inl (jb_fl F 0 11))), (hE, .inl (cI, 1500, .inl E)), (hQ, .inl (cI, 4000, .inl P))] H := hP
  have hD : va_D A [(hR, .inr (1, [.ref hF, .ref hE, .ref hQ, .int 0])), (hF, .inl (cI, 11, .inl (jb_fl F 0 11))), (hE, .inl (cI, 1500, .inl E)), (hQ, .inl (cI, 4000, .inl P))] := hD
  have hP9 : va_P (dC, dI) vwCl [(hR, .inr (1, [.ref hF, .ref hE, .ref hQ, .int 0])), (hF, .inl (cI, 11, .inl (jb_fl F 0 11))), (hE, .inl (cI, 1500, .inl E)), (hQ, .inl (cI, 4000, .inl P))] H := hP.sub [0, 1, 2, 3] rfl
  have hD9 : va_D A [(hR, .inr (1, [.ref hF, .ref hE, .ref hQ, .int 0])), (hF, .inl (cI, 11, .inl (jb_fl F 0 11))), (hE, .inl (cI, 1500, .inl E)), (hQ, .inl (cI, 4000, .inl P))] := hD.sub [0, 1, 2, 3] (by decide) rfl
  exact W.vret hx hb hr (fun t ht hW => ⟨⟨(), rfl, trivial, by rw [ht]; exact hP9, hD9⟩, hS.F ht⟩) hS.2.2 dX1_beginAnew_13
end
section
/-! rows as lists: stretches of an order, parts of a list, packing of two small numbers -/
def jb_O (o : Nat → Nat) : Nat → Int32 := fun j => nI (o j)
theorem jb_O_set (o : Nat → Nat) (k r : Nat) : upd (jb_O o) k (nI r) = jb_O (va_up o k r) := by
  funext j
  by_cases h : j = k
  · simp [upd, jb_O, va_up, h]
  · simp [upd, jb_O, va_up, h]
theorem jb_or (a b : Nat) : nI a ||| nI b = nI (a ||| b) := by
  apply Int32.toBitVec_inj.mp
  show BitVec.ofNat 32 a ||| BitVec.ofNat 32 b = BitVec.ofNat 32 (a ||| b)
  apply BitVec.eq_of_getLsbD_eq
  intro i hi
  simp [hi]
theorem jb_pack {a b : Nat} (ha : a < 1048576) (hb : b < 512) : nI a <<< ((9 : Int32) &&& 31) ||| nI b = nI (a * 512 + b) := by
  rw [pk_shlN _ 9 (by decide) (by omega), jb_or]
  have h := Nat.two_pow_add_eq_or_of_lt (i := 9) (b := b) (by omega) a
  have e : a * 2 ^ 9 = 2 ^ 9 * a := Nat.mul_comm _ _
  rw [e, ← h]
  first | done | (congr 1; omega)
theorem jb_unp1 {a b : Nat} (ha : a < 1048576) (hb : b < 512) : nI (a * 512 + b) >>> ((9 : Int32) &&& 31) = nI a := by
  rw [pk_shrN (by omega) _ 9 (by decide)]
  congr 1
  omega
theorem jb_unp2 {a b : Nat} (ha : a < 1048576) (hb : b < 512) : nI (a * 512 + b) &&& 511 = nI b := by
  rw [pk_andN (by omega) 9 (by decide)]
  congr 1
  omega
/-- o holds the list ls from 'fr' on -/
def jb_in (o : Nat → Nat) (fr : Nat) (ls : List Nat) : Prop := ∀ i, i < ls.length → o (fr + i) = ls.getD i 0
theorem jb_in_nil (o : Nat → Nat) (fr : Nat) : jb_in o fr [] := fun i h => absurd h (Nat.not_lt_zero i)
theorem jb_in_push {o : Nat → Nat} {fr r : Nat} {ls : List Nat} (h : jb_in o fr ls) : jb_in (va_up o (fr + ls.length) r) fr (ls ++ [r]) := by
  intro i hi
  rw [List.length_append, List.length_singleton] at hi
  by_cases he : i = ls.length
  · subst he
    simp [va_up]
  · have hlt : i < ls.length := by omega
    rw [va_up_ne _ _ (by omega), h i hlt]
    simp [List.getD, List.getElem?_append_left hlt]
theorem jb_in_app {o : Nat → Nat} {fr : Nat} {a b : List Nat} (h : jb_in o fr (a ++ b)) : jb_in o fr a ∧ jb_in o (fr + a.length) b := by
  constructor
  · intro i hi
    rw [h i (by rw [List.length_append]; omega)]
    simp [List.getD, List.getElem?_append_left hi]
  · intro i hi
    rw [Nat.add_assoc, h (a.length + i) (by rw [List.length_append]; omega)]
    simp [List.getD, List.getElem?_append_right (Nat.le_add_right a.length i)]
theorem jb_in_keep {o o' : Nat → Nat} {fr : Nat} {ls : List Nat} (h : jb_in o fr ls) (hk : ∀ j, fr ≤ j → j < fr + ls.length → o' j = o j) : jb_in o' fr ls := fun i hi => by rw [hk _ (by omega) (by omega)]; exact h i hi
/-- the part p of a list, in order -/
def jb_fp (f : Nat → Nat) (ls : List Nat) (p : Nat) : List Nat := ls.filter (fun r => f r == p)
/-- the parts 0 .. p - 1, one behind the other -/
def jb_cat (f : Nat → Nat) (ls : List Nat) : Nat → List Nat
  | 0 => []
  | p + 1 => jb_cat f ls p ++ jb_fp f ls p
theorem jb_cat_len (f : Nat → Nat) (ls : List Nat) : ∀ p, (jb_cat f ls p).length = ls.countP (fun r => decide (f r < p)) := by
  intro p
  induction p with
  | zero => simp [jb_cat]
  | succ p ih =>
    rw [jb_cat, List.length_append, ih, jb_fp, ← List.countP_eq_length_filter]
    clear ih
    induction ls with
    | nil => rfl
    | cons a l ih =>
      simp only [List.countP_cons]
      rw [← ih]
      by_cases h1 : f a < p
      · have h2 : ¬ f a = p := by omega
        have h3 : f a < p + 1 := by omega
        simp [h1, h2, h3]; omega
      · by_cases h2 : f a = p
        · simp [h2]; omega
        · have h3 : ¬ f a < p + 1 := by omega
          simp [h1, h2, h3]
theorem jb_cat_le (f : Nat → Nat) (ls : List Nat) (p : Nat) : (jb_cat f ls p).length ≤ ls.length := by
  rw [jb_cat_len]; exact List.countP_le_length
theorem jb_cat_all {f : Nat → Nat} {ls : List Nat} {P : Nat} (h : ∀ r ∈ ls, f r < P) : (jb_cat f ls P).length = ls.length := by
  rw [jb_cat_len, List.countP_eq_length]
  intro a ha
  simp [h a ha]
theorem jb_take (ls : List Nat) {i : Nat} (h : i < ls.length) : ls.take (i + 1) = ls.take i ++ [ls.getD i 0] := by
  rw [List.take_add_one]
  simp [List.getD, h]
theorem jb_fp_take_eq {f : Nat → Nat} {ls : List Nat} {i p : Nat} (h : i < ls.length) (hf : f (ls.getD i 0) = p) : jb_fp f (ls.take (i + 1)) p = jb_fp f (ls.take i) p ++ [ls.getD i 0] := by
  rw [jb_take ls h, jb_fp, jb_fp, List.filter_append]
  simp only [List.filter_cons, List.filter_nil, hf, beq_self_eq_true, if_true]
theorem jb_fp_take_ne {f : Nat → Nat} {ls : List Nat} {i p : Nat} (h : i < ls.length) (hf : ¬ f (ls.getD i 0) = p) : jb_fp f (ls.take (i + 1)) p = jb_fp f (ls.take i) p := by
  have hb : (f (ls.getD i 0) == p) = false := by simpa using hf
  rw [jb_take ls h, jb_fp, jb_fp, List.filter_append]
  simp only [List.filter_cons, List.filter_nil, hb, Bool.false_eq_true, if_false, List.append_nil]
theorem jb_fp_take_all (f : Nat → Nat) (ls : List Nat) (p : Nat) : jb_fp f (ls.take ls.length) p = jb_fp f ls p := by rw [List.take_length]
theorem jb_fp_take_0 (f : Nat → Nat) (ls : List Nat) (p : Nat) : jb_fp f (ls.take 0) p = [] := by simp [jb_fp]
theorem jb_fp_take_le (f : Nat → Nat) (ls : List Nat) (i p : Nat) : (jb_fp f (ls.take i) p).length ≤ (jb_fp f ls p).length :=
  (List.Sublist.filter _ (List.take_sublist i ls)).length_le
/-- there is room for one more -/
theorem jb_room {f : Nat → Nat} {ls : List Nat} {i p : Nat} (h : i < ls.length) (hf : f (ls.getD i 0) = p) : (jb_cat f ls p ++ jb_fp f (ls.take i) p).length < ls.length := by
  have h1 := jb_fp_take_le f ls (i + 1) p
  rw [jb_fp_take_eq h hf, List.length_append, List.length_singleton] at h1
  have h2 := jb_cat_le f ls (p + 1)
  rw [jb_cat, List.length_append] at h2
  rw [List.length_append]
  omega
theorem jb_getD_mem {ls : List Nat} {i : Nat} (h : i < ls.length) : ls.getD i 0 ∈ ls := by
  simp [List.getD, h]
/-- pages of all parts -/
def jb_pgs (per : Nat) (g : Nat → Nat) : Nat → Nat
  | 0 => 0
  | p + 1 => jb_pgs per g p + jb_pg per (g p)
theorem jb_pg_le {per n : Nat} (h : 1 ≤ per) : jb_pg per n ≤ n := by
  unfold jb_pg
  rcases Nat.eq_zero_or_pos n with rfl | hn
  · have : (0 + per - 1) / per = 0 := Nat.div_eq_of_lt (by omega)
    omega
  · have h2 : (n + per - 1) / per < n + 1 := by
      rw [Nat.div_lt_iff_lt_mul (by omega)]
      have h3 : n * 1 ≤ n * per := Nat.mul_le_mul_left n h
      have h4 : (n + 1) * per = n * per + per := Nat.succ_mul n per
      rw [h4]
      omega
    omega
theorem jb_cat_mem {f : Nat → Nat} {ls : List Nat} {p r : Nat} (h : r ∈ jb_cat f ls p) : r ∈ ls := by
  induction p with
  | zero => simp [jb_cat] at h
  | succ p ih =>
    rw [jb_cat, List.mem_append] at h
    rcases h with h | h
    · exact ih h
    · exact (List.mem_filter.mp h).1
theorem jb_pgs_le {per : Nat} (h : 1 ≤ per) (f : Nat → Nat) (ls : List Nat) : ∀ p, jb_pgs per (fun q => (jb_fp f ls q).length) p ≤ (jb_cat f ls p).length := by
  intro p
  induction p with
  | zero => exact Nat.le_refl 0
  | succ p ih =>
    rw [jb_pgs, jb_cat, List.length_append]
    have := jb_pg_le (n := (jb_fp f ls p).length) h
    omega
end
section
/-! a table as it was joined, and its order: the class JoinBench$Side (X2) -/
theorem iX2_keyOf_X2 : ∀ w ∈ wsX20, w ∈ wsX2_keyOf := by decide +kernel
set_option maxHeartbeats 1000000 in
set_option maxRecDepth 100000 in
/-- Side.keyOf, in range -/
theorem c_keyOf (l : Launch) (dC : Nat → ClassId) (dI : Nat → Nat → Nat) (cI : ClassId) (hL aS kA vA oA sA eA : Nat) (b : Int32) (K V : Nat → Int32) (o : Nat → Nat) (Sp Pe : Nat → Int32) (n : Nat) (j : Nat) (hj : j < n) (hn : n ≤ 500) : Met l yX2_keyOf wsX2_keyOf ({ frames := 1, cells := 0, slots := 0, locals := 40 } : Room) (va_Pc [.ref hL, .int (nI j)] (jb_R dC dI cI [(hL, .inr (2, [.ref aS, .int b, .ref kA, .ref vA, .ref oA, .ref sA, .ref eA, .int (nI n)])), (kA, .inl (cI, 500, .inl K)), (vA, .inl (cI, 500, .inl V)), (oA, .inl (cI, 500, .inl (jb_O o))), (sA, .inl (cI, 500, .inl Sp)), (eA, .inl (cI, 152, .inl Pe))])) (vp_Si (fun r => r = K j)) 0 0 (fun _ => False) := by
  refine Met.ofW (cc := cX2_keyOf) (maxL := 2) (ret := (some .int)) (by decide) rfl ?_
  intro p e s m args below meth c s₁ B hml hv
  obtain ⟨rfl, hP, hK, hNw⟩ := hv
  have hx := B.exec
  have hb := B.bytes
  have hr := B.returns
  have hts := atoms_spec (ws := wsX2_keyOf) B.pre
  have hown : s.vm.findClass RX2 = some m.cls := findClass_of_methodNamed B.named
  have hlocks := B.notSynchronized
  have hl := lv_entry ([.ref hL, .int (nI j)]) (n := 2) (Nat.le_of_ble_eq_true rfl)
  rw [lg_entry_eq]
  generalize (lg_sl ([.ref hL, .int (nI j)]) ++ List.replicate (2 - (lg_sl ([.ref hL, .int (nI j)])).length) Slot.unset).toArray = ls at hl ⊢
  have hl : lv_has ls 2 [(0, .ref hL), (1, .int (nI j))] := hl
  refine lv_iload_n hx hb dX2_keyOf_0 rfl (lv_at hl 1 rfl) ?_
  refine lv_if_lt (tgt := 12) hx hb dX2_keyOf_1 (by decide) (fun c_1 => ?_) (fun c_1 => ?_)
  · exact absurd c_1 (nI_pos (by omega))
  · refine lv_iload_n hx hb dX2_keyOf_4 rfl (lv_at hl 1 rfl) ?_
    refine lv_aload_n hx hb dX2_keyOf_5 rfl (lv_at hl 0 rfl) ?_
    refine va_get (D := (dC, dI)) (ci := 2) (v := .int (nI n)) (C := RX2) (T := TX2) (N := 8) hx hb hts iX2_keyOf_X2 hown hK hP 0 rfl rfl 7 (by decide) (hts (.fieldLink RX2 35 "JoinBench$Side" "count" "I") (by decide +kernel)) (fun _ h9 => h9) rfl dX2_keyOf_6 ?_
    refine lv_icmp_lt (tgt := 16) hx hb dX2_keyOf_9 (by decide) (fun c_9 => ?_) (fun c_9 => ?_)
    · refine lv_aload_n hx hb dX2_keyOf_16 rfl (lv_at hl 0 rfl) ?_
      refine va_get (D := (dC, dI)) (ci := 2) (v := .ref kA) (C := RX2) (T := TX2) (N := 8) hx hb hts iX2_keyOf_X2 hown hK hP 0 rfl rfl 2 (by decide) (hts (.fieldLink RX2 19 "JoinBench$Side" "keys" "[I") (by decide +kernel)) (fun _ h9 => h9) rfl dX2_keyOf_17 ?_
      refine lv_iload_n hx hb dX2_keyOf_20 rfl (lv_at hl 1 rfl) ?_
      refine va_iald hx hb hK hP 1 0 rfl rfl (i := nI j) (vp_in_nI (n := j) (by omega) (by decide)) dX2_keyOf_21 ?_
      refine lv_topi (fun v_1 ev_1 => ?_)
      have hv_1 : v_1 = (K j) := ev_1.trans (congrArg _ (nI_clamp (by omega)))
      clear ev_1; subst hv_1
      exact W.iret (v := (K j)) hx hb hr (fun t ht hW => ⟨_, rfl, rfl, ht⟩) (fun _ h => by cases h) dX2_keyOf_22
    · exact absurd (nI_lt hj (by omega)) c_9
theorem iX2_valueOf_X2 : ∀ w ∈ wsX20, w ∈ wsX2_valueOf := by decide +kernel
set_option maxHeartbeats 1000000 in
set_option maxRecDepth 100000 in
/-- Side.valueOf, in range -/
theorem c_valueOf (l : Launch) (dC : Nat → ClassId) (dI : Nat → Nat → Nat) (cI : ClassId) (hL aS kA vA oA sA eA : Nat) (b : Int32) (K V : Nat → Int32) (o : Nat → Nat) (Sp Pe : Nat → Int32) (n : Nat) (j : Nat) (hj : j < n) (hn : n ≤ 500) : Met l yX2_valueOf wsX2_valueOf ({ frames := 1, cells := 0, slots := 0, locals := 40 } : Room) (va_Pc [.ref hL, .int (nI j)] (jb_R dC dI cI [(hL, .inr (2, [.ref aS, .int b, .ref kA, .ref vA, .ref oA, .ref sA, .ref eA, .int (nI n)])), (kA, .inl (cI, 500, .inl K)), (vA, .inl (cI, 500, .inl V)), (oA, .inl (cI, 500, .inl (jb_O o))), (sA, .inl (cI, 500, .inl Sp)), (eA, .inl (cI, 152, .inl Pe))])) (vp_Si (fun r => r = V j)) 0 0 (fun _ => False) := by
  refine Met.ofW (cc := cX2_valueOf) (maxL := 2) (ret := (some .int)) (by decide) rfl ?_
  intro p e s m args below meth c s₁ B hml hv
  obtain ⟨rfl, hP, hK, hNw⟩ := hv
  have hx := B.exec
  have hb := B.bytes
  have hr := B.returns
  have hts := atoms_spec (ws := wsX2_valueOf) B.pre
  have hown : s.vm.findClass RX2 = some m.cls := findClass_of_methodNamed B.named
  have hlocks := B.notSynchronized
  have hl := lv_entry ([.ref hL, .int (nI j)]) (n := 2) (Nat.le_of_ble_eq_true rfl)
  rw [lg_entry_eq]
  generalize (lg_sl ([.ref hL, .int (nI j)]) ++ List.replicate (2 - (lg_sl ([.ref hL, .int (nI j)])).length) Slot.unset).toArray = ls at hl ⊢
  have hl : lv_has ls 2 [(0, .ref hL), (1, .int (nI j))] := hl
  refine lv_iload_n hx hb dX2_valueOf_0 rfl (lv_at hl 1 rfl) ?_
  refine lv_if_lt (tgt := 12) hx hb dX2_valueOf_1 (by decide) (fun c_1 => ?_) (fun c_1 => ?_)
  · exact absurd c_1 (nI_pos (by omega))
  · refine lv_iload_n hx hb dX2_valueOf_4 rfl (lv_at hl 1 rfl) ?_
    refine lv_aload_n hx hb dX2_valueOf_5 rfl (lv_at hl 0 rfl) ?_
    refine va_get (D := (dC, dI)) (ci := 2) (v := .int (nI n)) (C := RX2) (T := TX2) (N := 8) hx hb hts iX2_valueOf_X2 hown hK hP 0 rfl rfl 7 (by decide) (hts (.fieldLink RX2 35 "JoinBench$Side" "count" "I") (by decide +kernel)) (fun _ h9 => h9) rfl dX2_valueOf_6 ?_
    refine lv_icmp_lt (tgt := 16) hx hb dX2_valueOf_9 (by decide) (fun c_9 => ?_) (fun c_9 => ?_)
    · refine lv_aload_n hx hb dX2_valueOf_16 rfl (lv_at hl 0 rfl) ?_
      refine va_get (D := (dC, dI)) (ci := 2) (v := .ref vA) (C := RX2) (T := TX2) (N := 8) hx hb hts iX2_valueOf_X2 hown hK hP 0 rfl rfl 3 (by decide) (hts (.fieldLink RX2 23 "JoinBench$Side" "values" "[I") (by decide +kernel)) (fun _ h9 => h9) rfl dX2_valueOf_17 ?_
      refine lv_iload_n hx hb dX2_valueOf_20 rfl (lv_at hl 1 rfl) ?_
      refine va_iald hx hb hK hP 2 0 rfl rfl (i := nI j) (vp_in_nI (n := j) (by omega) (by decide)) dX2_valueOf_21 ?_
      refine lv_topi (fun v_1 ev_1 => ?_)
      have hv_1 : v_1 = (V j) := ev_1.trans (congrArg _ (nI_clamp (by omega)))
      clear ev_1; subst hv_1
      exact W.iret (v := (V j)) hx hb hr (fun t ht hW => ⟨_, rfl, rfl, ht⟩) (fun _ h => by cases h) dX2_valueOf_22
    · exact absurd (nI_lt hj (by omega)) c_9
theorem iX2_rowAt_X2 : ∀ w ∈ wsX20, w ∈ wsX2_rowAt := by decide +kernel
set_option maxHeartbeats 1000000 in
set_option maxRecDepth 100000 in
/-- Side.rowAt, in range -/
theorem c_rowAt (l : Launch) (dC : Nat → ClassId) (dI : Nat → Nat → Nat) (cI : ClassId) (hL aS kA vA oA sA eA : Nat) (b : Int32) (K V : Nat → Int32) (o : Nat → Nat) (Sp Pe : Nat → Int32) (n : Nat) (j : Nat) (hj : j < n) (hn : n ≤ 500) : Met l yX2_rowAt wsX2_rowAt ({ frames := 1, cells := 0, slots := 0, locals := 40 } : Room) (va_Pc [.ref hL, .int (nI j)] (jb_R dC dI cI [(hL, .inr (2, [.ref aS, .int b, .ref kA, .ref vA, .ref oA, .ref sA, .ref eA, .int (nI n)])), (kA, .inl (cI, 500, .inl K)), (vA, .inl (cI, 500, .inl V)), (oA, .inl (cI, 500, .inl (jb_O o))), (sA, .inl (cI, 500, .inl Sp)), (eA, .inl (cI, 152, .inl Pe))])) (vp_Si (fun r => r = nI (o j))) 0 0 (fun _ => False) := by
  refine Met.ofW (cc := cX2_rowAt) (maxL := 2) (ret := (some .int)) (by decide) rfl ?_
  intro p e s m args below meth c s₁ B hml hv
  obtain ⟨rfl, hP, hK, hNw⟩ := hv
  have hx := B.exec
  have hb := B.bytes
  have hr := B.returns
  have hts := atoms_spec (ws := wsX2_rowAt) B.pre
  have hown : s.vm.findClass RX2 = some m.cls := findClass_of_methodNamed B.named
  have hlocks := B.notSynchronized
  have hl := lv_entry ([.ref hL, .int (nI j)]) (n := 2) (Nat.le_of_ble_eq_true rfl)
  rw [lg_entry_eq]
  generalize (lg_sl ([.ref hL, .int (nI j)]) ++ List.replicate (2 - (lg_sl ([.ref hL, .int (nI j)])).length) Slot.unset).toArray = ls at hl ⊢
  have hl : lv_has ls 2 [(0, .ref hL), (1, .int (nI j))] := hl
  refine lv_iload_n hx hb dX2_rowAt_0 rfl (lv_at hl 1 rfl) ?_
  refine lv_if_lt (tgt := 12) hx hb dX2_rowAt_1 (by decide) (fun c_1 => ?_) (fun c_1 => ?_)
  · exact absurd c_1 (nI_pos (by omega))
  · refine lv_iload_n hx hb dX2_rowAt_4 rfl (lv_at hl 1 rfl) ?_
    refine lv_aload_n hx hb dX2_rowAt_5 rfl (lv_at hl 0 rfl) ?_
    refine va_get (D := (dC, dI)) (ci := 2) (v := .int (nI n)) (C := RX2) (T := TX2) (N := 8) hx hb hts iX2_rowAt_X2 hown hK hP 0 rfl rfl 7 (by decide) (hts (.fieldLink RX2 35 "JoinBench$Side" "count" "I") (by decide +kernel)) (fun _ h9 => h9) rfl dX2_rowAt_6 ?_
    refine lv_icmp_lt (tgt := 16) hx hb dX2_rowAt_9 (by decide) (fun c_9 => ?_) (fun c_9 => ?_)
    · refine lv_aload_n hx hb dX2_rowAt_16 rfl (lv_at hl 0 rfl) ?_
      refine va_get (D := (dC, dI)) (ci := 2) (v := .ref oA) (C := RX2) (T := TX2) (N := 8) hx hb hts iX2_rowAt_X2 hown hK hP 0 rfl rfl 4 (by decide) (hts (.fieldLink RX2 26 "JoinBench$Side" "order" "[I") (by decide +kernel)) (fun _ h9 => h9) rfl dX2_rowAt_17 ?_
      refine lv_iload_n hx hb dX2_rowAt_20 rfl (lv_at hl 1 rfl) ?_
      refine va_iald hx hb hK hP 3 0 rfl rfl (i := nI j) (vp_in_nI (n := j) (by omega) (by decide)) dX2_rowAt_21 ?_
      refine lv_topi (fun v_1 ev_1 => ?_)
      have hv_1 : v_1 = (nI (o j)) := ev_1.trans (congrArg _ (nI_clamp (by omega)))
      clear ev_1; subst hv_1
      exact W.iret (v := (nI (o j))) hx hb hr (fun t ht hW => ⟨_, rfl, rfl, ht⟩) (fun _ h => by cases h) dX2_rowAt_22
    · exact absurd (nI_lt hj (by omega)) c_9
theorem iX2_keyAt_X2 : ∀ w ∈ wsX20, w ∈ wsX2_keyAt := by decide +kernel
set_option maxHeartbeats 1000000 in
set_option maxRecDepth 100000 in
/-- Side.keyAt(place), in range -/
theorem c_keyAt (l : Launch) (dC : Nat → ClassId) (dI : Nat → Nat → Nat) (cI : ClassId) (hL aS kA vA oA sA eA : Nat) (b : Int32) (K V : Nat → Int32) (o : Nat → Nat) (Sp Pe : Nat → Int32) (n : Nat) (j : Nat) (hj : j < n) (hn : n ≤ 500) (ho : o j < 500) : Met l yX2_keyAt wsX2_keyAt ({ frames := 1, cells := 0, slots := 0, locals := 40 } : Room) (va_Pc [.ref hL, .int (nI j)] (jb_R dC dI cI [(hL, .inr (2, [.ref aS, .int b, .ref kA, .ref vA, .ref oA, .ref sA, .ref eA, .int (nI n)])), (kA, .inl (cI, 500, .inl K)), (vA, .inl (cI, 500, .inl V)), (oA, .inl (cI, 500, .inl (jb_O o))), (sA, .inl (cI, 500, .inl Sp)), (eA, .inl (cI, 152, .inl Pe))])) (vp_Si (fun r => r = K (o j))) 0 0 (fun _ => False) := by
  refine Met.ofW (cc := cX2_keyAt) (maxL := 2) (ret := (some .int)) (by decide) rfl ?_
  intro p e s m args below meth c s₁ B hml hv
  obtain ⟨rfl, hP, hK, hNw⟩ := hv
  have hx := B.exec
  have hb := B.bytes
  have hr := B.returns
  have hts := atoms_spec (ws := wsX2_keyAt) B.pre
  have hown : s.vm.findClass RX2 = some m.cls := findClass_of_methodNamed B.named
  have hlocks := B.notSynchronized
  have hl := lv_entry ([.ref hL, .int (nI j)]) (n := 2) (Nat.le_of_ble_eq_true rfl)
  rw [lg_entry_eq]
  generalize (lg_sl ([.ref hL, .int (nI j)]) ++ List.replicate (2 - (lg_sl ([.ref hL, .int (nI j)])).length) Slot.unset).toArray = ls at hl ⊢
  have hl : lv_has ls 2 [(0, .ref hL), (1, .int (nI j))] := hl
  refine lv_iload_n hx hb dX2_keyAt_0 rfl (lv_at hl 1 rfl) ?_
  refine lv_if_lt (tgt := 12) hx hb dX2_keyAt_1 (by decide) (fun c_1 => ?_) (fun c_1 => ?_)
  · exact absurd c_1 (nI_pos (by omega))
  · refine lv_iload_n hx hb dX2_keyAt_4 rfl (lv_at hl 1 rfl) ?_
    refine lv_aload_n hx hb dX2_keyAt_5 rfl (lv_at hl 0 rfl) ?_
    refine va_get (D := (dC, dI)) (ci := 2) (v := .int (nI n)) (C := RX2) (T := TX2) (N := 8) hx hb hts iX2_keyAt_X2 hown hK hP 0 rfl rfl 7 (by decide) (hts (.fieldLink RX2 35 "JoinBench$Side" "count" "I") (by decide +kernel)) (fun _ h9 => h9) rfl dX2_keyAt_6 ?_
    refine lv_icmp_lt (tgt := 16) hx hb dX2_keyAt_9 (by decide) (fun c_9 => ?_) (fun c_9 => ?_)
    · refine lv_aload_n hx hb dX2_keyAt_16 rfl (lv_at hl 0 rfl) ?_
      refine va_get (D := (dC, dI)) (ci := 2) (v := .ref kA) (C := RX2) (T := TX2) (N := 8) hx hb hts iX2_keyAt_X2 hown hK hP 0 rfl rfl 2 (by decide) (hts (.fieldLink RX2 19 "JoinBench$Side" "keys" "[I") (by decide +kernel)) (fun _ h9 => h9) rfl dX2_keyAt_17 ?_
      refine lv_aload_n hx hb dX2_keyAt_20 rfl (lv_at hl 0 rfl) ?_
      refine va_get (D := (dC, dI)) (ci := 2) (v := .ref oA) (C := RX2) (T := TX2) (N := 8) hx hb hts iX2_keyAt_X2 hown hK hP 0 rfl rfl 4 (by decide) (hts (.fieldLink RX2 26 "JoinBench$Side" "order" "[I") (by decide +kernel)) (fun _ h9 => h9) rfl dX2_keyAt_21 ?_
      refine lv_iload_n hx hb dX2_keyAt_24 rfl (lv_at hl 1 rfl) ?_
      refine va_iald hx hb hK hP 3 0 rfl rfl (i := nI j) (vp_in_nI (n := j) (by omega) (by decide)) dX2_keyAt_25 ?_
      refine lv_topi (fun v_1 ev_1 => ?_)
      have hv_1 : v_1 = nI (o j) := ev_1.trans (congrArg (jb_O o) (nI_clamp (by omega)))
      clear ev_1; subst hv_1
      refine va_iald hx hb hK hP 1 0 rfl rfl (i := nI (o j)) (vp_in_nI (n := o j) ho (by decide)) dX2_keyAt_26 ?_
      refine lv_topi (fun v_2 ev_2 => ?_)
      have hv_2 : v_2 = (K (o j)) := ev_2.trans (congrArg _ (nI_clamp (by omega)))
      clear ev_2; subst hv_2
      exact W.iret (v := (K (o j))) hx hb hr (fun t ht hW => ⟨_, rfl, rfl, ht⟩) (fun _ h => by cases h) dX2_keyAt_27
    · exact absurd (nI_lt hj (by omega)) c_9
theorem iX2_partEnd_X2 : ∀ w ∈ wsX20, w ∈ wsX2_partEnd := by decide +kernel
set_option maxHeartbeats 1000000 in
set_option maxRecDepth 100000 in
/-- Side.partEnd(level, p) -/
theorem c_partEnd (l : Launch) (dC : Nat → ClassId) (dI : Nat → Nat → Nat) (cI : ClassId) (hL aS kA vA oA sA eA : Nat) (b : Int32) (K V : Nat → Int32) (o : Nat → Nat) (Sp Pe : Nat → Int32) (n : Nat) (lv q : Nat) (hlv : lv < 8) (hq : q < 19) : Met l yX2_partEnd wsX2_partEnd ({ frames := 1, cells := 0, slots := 0, locals := 40 } : Room) (va_Pc [.ref hL, .int (nI lv), .int (nI q)] (jb_R dC dI cI [(hL, .inr (2, [.ref aS, .int b, .ref kA, .ref vA, .ref oA, .ref sA, .ref eA, .int (nI n)])), (kA, .inl (cI, 500, .inl K)), (vA, .inl (cI, 500, .inl V)), (oA, .inl (cI, 500, .inl (jb_O o))), (sA, .inl (cI, 500, .inl Sp)), (eA, .inl (cI, 152, .inl Pe))])) (vp_Si (fun r => r = Pe (lv * 19 + q))) 0 0 (fun _ => False) := by
  refine Met.ofW (cc := cX2_partEnd) (maxL := 3) (ret := (some .int)) (by decide) rfl ?_
  intro p e s m args below meth c s₁ B hml hv
  obtain ⟨rfl, hP, hK, hNw⟩ := hv
  have hx := B.exec
  have hb := B.bytes
  have hr := B.returns
  have hts := atoms_spec (ws := wsX2_partEnd) B.pre
  have hown : s.vm.findClass RX2 = some m.cls := findClass_of_methodNamed B.named
  have hlocks := B.notSynchronized
  have hl := lv_entry ([.ref hL, .int (nI lv), .int (nI q)]) (n := 3) (Nat.le_of_ble_eq_true rfl)
  rw [lg_entry_eq]
  generalize (lg_sl ([.ref hL, .int (nI lv), .int (nI q)]) ++ List.replicate (3 - (lg_sl ([.ref hL, .int (nI lv), .int (nI q)])).length) Slot.unset).toArray = ls at hl ⊢
  have hl : lv_has ls 3 [(0, .ref hL), (1, .int (nI lv)), (2, .int (nI q))] := hl
  refine lv_iload_n hx hb dX2_partEnd_0 rfl (lv_at hl 1 rfl) ?_
  refine lv_if_lt (tgt := 20) hx hb dX2_partEnd_1 (by decide) (fun c_1 => ?_) (fun c_1 => ?_)
  · exact absurd c_1 (nI_pos (by omega))
  · refine lv_iload_n hx hb dX2_partEnd_4 rfl (lv_at hl 1 rfl) ?_
    refine lv_bipush (v := 8) hx hb dX2_partEnd_5 (by decide) ?_
    refine lv_icmp_ge (tgt := 20) hx hb dX2_partEnd_7 (by decide) (fun c_7 => ?_) (fun c_7 => ?_)
    · exact absurd c_7 (nI_ge (a := lv) (b := 8) hlv (by decide))
    · refine lv_iload_n hx hb dX2_partEnd_10 rfl (lv_at hl 2 rfl) ?_
      refine lv_if_lt (tgt := 20) hx hb dX2_partEnd_11 (by decide) (fun c_11 => ?_) (fun c_11 => ?_)
      · exact absurd c_11 (nI_pos (by omega))
      · refine lv_iload_n hx hb dX2_partEnd_14 rfl (lv_at hl 2 rfl) ?_
        refine lv_bipush (v := 19) hx hb dX2_partEnd_15 (by decide) ?_
        refine lv_icmp_lt (tgt := 22) hx hb dX2_partEnd_17 (by decide) (fun c_17 => ?_) (fun c_17 => ?_)
        · refine lv_aload_n hx hb dX2_partEnd_22 rfl (lv_at hl 0 rfl) ?_
          refine va_get (D := (dC, dI)) (ci := 2) (v := .ref eA) (C := RX2) (T := TX2) (N := 8) hx hb hts iX2_partEnd_X2 hown hK hP 0 rfl rfl 6 (by decide) (hts (.fieldLink RX2 32 "JoinBench$Side" "partEnds" "[I") (by decide +kernel)) (fun _ h9 => h9) rfl dX2_partEnd_23 ?_
          refine lv_iload_n hx hb dX2_partEnd_26 rfl (lv_at hl 1 rfl) ?_
          refine lv_bipush (v := 19) hx hb dX2_partEnd_27 (by decide) ?_
          refine lv_imul hx hb dX2_partEnd_29 ?_
          refine lv_topi (fun v_1 ev_1 => ?_)
          have hv_1 : v_1 = nI (lv * 19) := ev_1.trans (jb_nmul lv 19)
          clear ev_1; subst hv_1
          refine lv_iload_n hx hb dX2_partEnd_30 rfl (lv_at hl 2 rfl) ?_
          refine lv_iadd hx hb dX2_partEnd_31 ?_
          refine lv_topi (fun v_2 ev_2 => ?_)
          have hv_2 : v_2 = nI (lv * 19 + q) := ev_2.trans (nI_add (lv * 19) q)
          clear ev_2; subst hv_2
          refine va_iald hx hb hK hP 5 0 rfl rfl (i := nI (lv * 19 + q)) (vp_in_nI (n := lv * 19 + q) (by omega) (by decide)) dX2_partEnd_32 ?_
          refine lv_topi (fun v_3 ev_3 => ?_)
          have hv_3 : v_3 = (Pe (lv * 19 + q)) := ev_3.trans (congrArg _ (nI_clamp (by omega)))
          clear ev_3; subst hv_3
          exact W.iret (v := (Pe (lv * 19 + q))) hx hb hr (fun t ht hW => ⟨_, rfl, rfl, ht⟩) (fun _ h => by cases h) dX2_partEnd_33
        · exact absurd (nI_lt (a := q) (b := 19) hq (by decide)) c_17
/-- is it the key of all of them? -/
def jb_only (K : Nat → Int32) (key : Int32) (la : List Nat) : Prop := ∀ r ∈ la, K r = key
noncomputable def jb_onlyR (K : Nat → Int32) (key : Int32) (la : List Nat) : Int32 := if la.all (fun r => K r == key) then 1 else 0
theorem jb_only_no {K : Nat → Int32} {key : Int32} {la : List Nat} {i : Nat} (h : i < la.length) (hk : ¬ K (la.getD i 0) = key) : jb_onlyR K key la = 0 := by
  unfold jb_onlyR
  rw [if_neg]
  intro ha
  rw [List.all_eq_true] at ha
  have := ha _ (jb_getD_mem h)
  exact hk (by simpa using this)
theorem jb_only_yes {K : Nat → Int32} {key : Int32} {la : List Nat} (h : ∀ i, i < la.length → K (la.getD i 0) = key) : jb_onlyR K key la = 1 := by
  unfold jb_onlyR
  rw [if_pos]
  rw [List.all_eq_true]
  intro r hr
  obtain ⟨i, hi, rfl⟩ := List.getElem_of_mem hr
  have := h i hi
  simp only [List.getD, List.getElem?_eq_getElem hi, Option.getD_some] at this
  simpa using this
set_option maxHeartbeats 1000000 in
set_option maxRecDepth 100000 in
/-- Side.hasOnlyKey(key, from, to) -/
theorem c_hasOnlyKey (l : Launch) (dC : Nat → ClassId) (dI : Nat → Nat → Nat) (cI : ClassId) (hL aS kA vA oA sA eA : Nat) (b : Int32) (K V : Nat → Int32) (o : Nat → Nat) (Sp Pe : Nat → Int32) (n : Nat) (key : Int32) (fr : Nat) (la : List Nat) (hin : jb_in o fr la) (hb5 : ∀ r ∈ la, r < 500) (hto : fr + la.length ≤ n) (hn : n ≤ 500) : Met l yX2_hasOnlyKey wsX2_hasOnlyKey ({ frames := 2, cells := 0, slots := 0, locals := 80 } : Room) (va_Pc [.ref hL, .int key, .int (nI fr), .int (nI (fr + la.length))] (jb_R dC dI cI [(hL, .inr (2, [.ref aS, .int b, .ref kA, .ref vA, .ref oA, .ref sA, .ref eA, .int (nI n)])), (kA, .inl (cI, 500, .inl K)), (vA, .inl (cI, 500, .inl V)), (oA, .inl (cI, 500, .inl (jb_O o))), (sA, .inl (cI, 500, .inl Sp)), (eA, .inl (cI, 152, .inl Pe))])) (vp_Si (fun r => r = jb_onlyR K key la)) 0 0 (fun _ => False) := by
  refine Met.ofW (cc := cX2_hasOnlyKey) (maxL := 5) (ret := (some .boolean)) (by decide) rfl ?_
  intro p e s m args below meth c s₁ B hml hv
  obtain ⟨rfl, hP, hK, hNw⟩ := hv
  have hx := B.exec
  have hb := B.bytes
  have hr := B.returns
  have hts := atoms_spec (ws := wsX2_hasOnlyKey) B.pre
  have hown : s.vm.findClass RX2 = some m.cls := findClass_of_methodNamed B.named
  have hlocks := B.notSynchronized
  have hl := lv_entry ([.ref hL, .int key, .int (nI fr), .int (nI (fr + la.length))]) (n := 5) (Nat.le_of_ble_eq_true rfl)
  rw [lg_entry_eq]
  generalize (lg_sl ([.ref hL, .int key, .int (nI fr), .int (nI (fr + la.length))]) ++ List.replicate (5 - (lg_sl ([.ref hL, .int key, .int (nI fr), .int (nI (fr + la.length))])).length) Slot.unset).toArray = ls at hl ⊢
  have hl : lv_has ls 5 [(0, .ref hL), (1, .int key), (2, .int (nI fr)), (3, .int (nI (fr + la.length)))] := hl
  refine lv_iload_n hx hb dX2_hasOnlyKey_0 rfl (lv_at hl 2 rfl) ?_
  refine lv_istore (lv' := [(4, .int (nI fr)), (0, .ref hL), (1, .int key), (2, .int (nI fr)), (3, .int (nI (fr + la.length)))]) hx hb dX2_hasOnlyKey_1 hl (by decide) rfl (fun ls hl => ?_)
  have hl_a : ∀ (k_a : Nat) (i : Nat), la.length - i < k_a → (i ≤ la.length) → (∀ j, j < i → K (la.getD j 0) = key) → ∀ ls : Array Slot, lv_has ls 5 [(0, .ref hL), (1, .int key), (3, .int (nI (fr + la.length))), (4, .int (nI (fr + i)))] → W p l e ({ frames := 2, cells := 0, slots := 0, locals := 80 } : Room) s m ([.ref hL, .int key, .int (nI fr), .int (nI (fr + la.length))] : List Value).toArray below meth c s.heap [] 0 0 (MQ below (vp_Si (fun r => r = jb_onlyR K key la)) ([.ref hL, .int key, .int (nI fr), .int (nI (fr + la.length))] : List Value).toArray s 0 0 (fun _ => False)) (F0 m 3 ls []) := by
    intro k_a
    induction k_a with
    | zero => intro i hk; exact absurd hk (Nat.not_lt_zero _)
    | succ k_a ih_a =>
      intro i hk_a hi hall ls hl
      refine lv_iload hx hb dX2_hasOnlyKey_3 (lv_at hl 3 rfl) ?_
      refine lv_iload_n hx hb dX2_hasOnlyKey_5 rfl (lv_at hl 2 rfl) ?_
      refine lv_icmp_ge (tgt := 27) hx hb dX2_hasOnlyKey_6 (by decide) (fun c_6 => ?_) (fun c_6 => ?_)
      · have hge : i = la.length := by have := (nI_leI (a := fr + la.length) (b := fr + i) (by omega) (by omega)).mp c_6; omega
        refine lv_iconst (v := 1) hx hb dX2_hasOnlyKey_27 (by decide) ?_
        exact W.zret (v := 1) hx hb hr (by first | rfl | decide | (split <;> rfl)) (fun t ht hW => ⟨_, rfl, (jb_only_yes (by rw [← hge]; exact hall)).symm, ht⟩) (fun _ h => by cases h) dX2_hasOnlyKey_28
      · have hlt : i < la.length := by have := (jb_nle (a := fr + la.length) (b := fr + i) (by omega) (by omega)).mp c_6; omega
        refine lv_aload_n hx hb dX2_hasOnlyKey_9 rfl (lv_at hl 0 rfl) ?_
        refine lv_iload hx hb dX2_hasOnlyKey_10 (lv_at hl 3 rfl) ?_
        refine vp_callSi (va_runV (As := [.int (nI (fr + i))]) (rest := []) ⟨hx, hb, hml, hown, hts⟩ (c_keyAt l dC dI cI hL aS kA vA oA sA eA b K V o Sp Pe n (fr + i) (by omega) hn (by rw [hin i hlt]; exact hb5 _ (jb_getD_mem hlt))) (cwV 1 hts gX2_hasOnlyKey_X2_keyAt rfl rfl rfl (by decide +kernel) ⟨(by decide +kernel), (by decide +kernel)⟩)  ⟨jb_R_blind, va_recv hK hP (ci := 2) (q0 := 0) rfl rfl, jb_R_pre (hP.sub (ws' := [(hL, .inr (2, [.ref aS, .int b, .ref kA, .ref vA, .ref oA, .ref sA, .ref eA, .int (nI n)])), (kA, .inl (cI, 500, .inl K)), (vA, .inl (cI, 500, .inl V)), (oA, .inl (cI, 500, .inl (jb_O o))), (sA, .inl (cI, 500, .inl Sp)), (eA, .inl (cI, 152, .inl Pe))]) [0, 1, 2, 3, 4, 5] rfl) hK hNw⟩ rfl rfl hl.1 rfl (lv_room (Nat.le_of_ble_eq_true rfl)) dX2_hasOnlyKey_12 ⟨by decide +kernel, by decide +kernel⟩).run (fun r_1 hr_1 => ?_)
        subst hr_1
        refine lv_topi (fun v_2 ev_2 => ?_)
        have hv_2 : v_2 = K (la.getD i 0) := ev_2.trans (congrArg K (hin i hlt))
        clear ev_2; subst hv_2
        refine lv_iload_n hx hb dX2_hasOnlyKey_15 rfl (lv_at hl 1 rfl) ?_
        refine lv_icmp_eq (tgt := 21) hx hb dX2_hasOnlyKey_16 (by decide) (fun c_16 => ?_) (fun c_16 => ?_)
        · refine lv_iinc (v := nI (fr + i + 1)) (lv' := [(4, .int (nI (fr + i + 1))), (0, .ref hL), (1, .int key), (3, .int (nI (fr + la.length)))]) hx hb dX2_hasOnlyKey_21 hl (k := 3) rfl (nI_1 _) (by decide) rfl (fun ls hl => ?_)
          refine lv_goto (tgt := 3) hx hb dX2_hasOnlyKey_24 (by decide) ?_
          exact ih_a (i + 1) (by omega) hlt (lt_s hall c_16) ls (lv_sub hl [1, 2, 3, 0] rfl)
        · refine lv_iconst (v := 0) hx hb dX2_hasOnlyKey_19 (by decide) ?_
          exact W.zret (v := 0) hx hb hr (by first | rfl | decide | (split <;> rfl)) (fun t ht hW => ⟨_, rfl, (jb_only_no hlt c_16).symm, ht⟩) (fun _ h => by cases h) dX2_hasOnlyKey_20
  exact hl_a (la.length - 0 + 1) 0 (by omega) (Nat.zero_le _) (fun j h => absurd h (Nat.not_lt_zero j)) ls (lv_sub hl [1, 2, 4, 0] rfl)
end
section
/-! JoinBench$Side: made, copied, laid in parts -/
def jb_idn (o : Nat → Nat) (m : Nat) : Nat → Nat := fun j => if j < m then j else o j
theorem jb_idn_0 (o : Nat → Nat) : jb_idn o 0 = o := by funext j; simp [jb_idn]
theorem jb_idn_s (o : Nat → Nat) (i : Nat) : upd (jb_O (jb_idn o i)) i (nI i) = jb_O (jb_idn o (i + 1)) := by
  rw [jb_O_set]
  congr 1
  funext j
  simp only [va_up, jb_idn]
  by_cases h : j = i
  · subst h; simp
  · rw [if_neg h]
    by_cases h2 : j < i
    · rw [if_pos h2, if_pos (by omega)]
    · rw [if_neg h2, if_neg (by omega)]
def jb_pf (mem : Nat) (K : Nat → Int32) (lv : Nat) : Nat → Nat := fun r => jb_pt mem (K r) (nI lv)
theorem jb_pf_lt {mem lv r : Nat} {K : Nat → Int32} (h : 3 ≤ mem) : jb_pf mem K lv r < mem - 1 := Nat.mod_lt _ (by omega)
theorem jb_fill_s {S g : Nat → Int32} {fr i : Nat} (h : ∀ t, t < i → S (fr + t) = g t) : ∀ t, t < i + 1 → upd S (fr + i) (g i) (fr + t) = g t := by
  intro t ht
  by_cases he : t = i
  · subst he; simp [upd]
  · rw [pk_un (by omega)]; exact h t (by omega)
def jb_lay (per mem : Nat) (K : Nat → Int32) (lv fr : Nat) (la : List Nat) (o : Nat → Nat) (Pe : Nat → Int32) (r : Int32) (o' : Nat → Nat) (Pe' : Nat → Int32) : Prop := r = nI (jb_pgs per (fun t => (jb_fp (jb_pf mem K lv) la t).length) (mem - 1)) ∧ (∀ j, j < fr ∨ fr + la.length ≤ j → o' j = o j) ∧ jb_in o' fr (jb_cat (jb_pf mem K lv) la (mem - 1)) ∧ (∀ t, t < mem - 1 → Pe' (lv * 19 + t) = nI (fr + (jb_cat (jb_pf mem K lv) la (t + 1)).length)) ∧ (∀ j, j < lv * 19 → Pe' j = Pe j)
theorem iX2_init_X2 : ∀ w ∈ wsX20, w ∈ wsX2_init := by decide +kernel
set_option maxHeartbeats 1000000 in
set_option maxRecDepth 100000 in
/-- Side(sizes, isLeft) -/
theorem c_Side_init (l : Launch) (dC : Nat → ClassId) (dI : Nat → Nat → Nat) (cI : ClassId) (sz : Nat) (hL aS : Nat) (b : Int32) (hb1 : narrow .boolean (.int b) = .int b ∧ fits .boolean (.int b) = true) : Met l yX2_init wsX2_init ({ frames := 1, cells := 5, slots := 2152, locals := 40 } : Room) (va_Pc [.ref hL, .ref aS, .int b] (jb_M dC dI cI sz [(hL, .inr (2, [.null, .int 0, .null, .null, .null, .null, .null, .int 0]))])) (va_Qv (fun (_ : Nat × Nat × Nat × Nat × Nat) => True) (jb_B dC dI (va_A [(hL, .inr (2, [.null, .int 0, .null, .null, .null, .null, .null, .int 0]))] sz) (fun u => [(hL, .inr (2, [.ref aS, .int b, .ref u.1, .ref u.2.1, .ref u.2.2.1, .ref u.2.2.2.1, .ref u.2.2.2.2, .int (nI 0)])), (u.1, .inl (cI, 500, .inl (fun _ => 0))), (u.2.1, .inl (cI, 500, .inl (fun _ => 0))), (u.2.2.1, .inl (cI, 500, .inl (jb_O (fun _ => 0)))), (u.2.2.2.1, .inl (cI, 500, .inl (fun _ => 0))), (u.2.2.2.2, .inl (cI, 152, .inl (fun _ => 0)))])) (va_A [(hL, .inr (2, [.null, .int 0, .null, .null, .null, .null, .null, .int 0]))] sz)) 5 2152 (va_A [(hL, .inr (2, [.null, .int 0, .null, .null, .null, .null, .null, .int 0]))] sz) := by
  refine Met.ofW (cc := cX2_init) (maxL := 3) (ret := none) (by decide) rfl ?_
  intro p e s m args below meth c s₁ B hml hv
  obtain ⟨rfl, hsz, hP, hK, hNw, hD0⟩ := hv
  have hx := B.exec
  have hb := B.bytes
  have hr := B.returns
  have hts := atoms_spec (ws := wsX2_init) B.pre
  have hown : s.vm.findClass RX2 = some m.cls := findClass_of_methodNamed B.named
  have hlocks := B.notSynchronized
  have hin : meth.name = "<init>" := (name_of_methodNamed B.named B.method).1
  subst hsz
  have hD := hD0.self (sz := s.heap.size)
  generalize hAe : va_A [(hL, .inr (2, [.null, .int 0, .null, .null, .null, .null, .null, .int 0]))] s.heap.size = A at hD ⊢
  have hA : ∀ q : Nat, s.heap.size ≤ q → A q := fun q h => by rw [← hAe]; exact Or.inr h
  have hS : va_S A s.heap s.heap [] := va_S.rf
  have hP : va_P (dC, dI) vwCl [(hL, .inr (2, [.null, .int 0, .null, .null, .null, .null, .null, .int 0]))] s.heap := hP
  have hl := lv_entry ([.ref hL, .ref aS, .int b]) (n := 3) (Nat.le_of_ble_eq_true rfl)
  rw [lg_entry_eq]
  generalize (lg_sl ([.ref hL, .ref aS, .int b]) ++ List.replicate (3 - (lg_sl ([.ref hL, .ref aS, .int b])).length) Slot.unset).toArray = ls at hl ⊢
  have hl : lv_has ls 3 [(0, .ref hL), (1, .ref aS), (2, .int b)] := hl
  refine lv_aload_n hx hb dX2_init_0 rfl (lv_at hl 0 rfl) ?_
  refine W.objInit hx hb hown (hts (.methodLink RX2 3 objectInit) (by decide +kernel)) (hts (.instanceMethod objectInit) (by decide +kernel)) (hts (.code objectInit ⟨#[0xb1]⟩ 1 none) (by decide +kernel)) rfl (by rw [hml]; exact hl.1) rfl dX2_init_1 (Nat.le_of_ble_eq_true rfl) (Nat.le_of_ble_eq_true rfl) ?_
  refine W.eq (g2 := F0 m 4 ls []) rfl ?_
  refine lv_aload_n hx hb dX2_init_4 rfl (lv_at hl 0 rfl) ?_
  refine lv_aload_n hx hb dX2_init_5 rfl (lv_at hl 1 rfl) ?_
  refine va_putF (D := (dC, dI)) (ci := 2) (v := .ref aS) (ty := (.object "JoinBench$Sizes")) (C := RX2) (T := TX2) (N := 8) hx hb hts iX2_init_X2 tyX2 tyX2_ok nmX2 hown hK hP hD hS 0 rfl rfl 0 (by decide) (hts (.fieldLink RX2 9 "JoinBench$Side" "sizes" "LJoinBench$Sizes;") (by decide +kernel)) (fun _ h9 => h9) rfl hin rfl (by decide +kernel) rfl rfl (Nat.le_of_ble_eq_true rfl) dX2_init_6 (fun H locs hP hD hS => ?_)
  have hP : va_P (dC, dI) vwCl [(hL, .inr (2, [.ref aS, .int 0, .null, .null, .null, .null, .null, .int 0]))] H := hP
  have hD : va_D A [(hL, .inr (2, [.ref aS, .int 0, .null, .null, .null, .null, .null, .int 0]))] := hD
  refine lv_aload_n hx hb dX2_init_9 rfl (lv_at hl 0 rfl) ?_
  refine lv_iload_n hx hb dX2_init_10 rfl (lv_at hl 2 rfl) ?_
  refine va_putF (D := (dC, dI)) (ci := 2) (v := .int b) (ty := .boolean) (C := RX2) (T := TX2) (N := 8) hx hb hts iX2_init_X2 tyX2 tyX2_ok nmX2 hown hK hP hD hS 0 rfl rfl 1 (by decide) (hts (.fieldLink RX2 15 "JoinBench$Side" "isLeft" "Z") (by decide +kernel)) (fun _ h9 => h9) rfl hin rfl (by decide +kernel) hb1.1 hb1.2 (Nat.le_of_ble_eq_true rfl) dX2_init_11 (fun H locs hP hD hS => ?_)
  have hP : va_P (dC, dI) vwCl [(hL, .inr (2, [.ref aS, .int b, .null, .null, .null, .null, .null, .int 0]))] H := hP
  have hD : va_D A [(hL, .inr (2, [.ref aS, .int b, .null, .null, .null, .null, .null, .int 0]))] := hD
  refine lv_aload_n hx hb dX2_init_14 rfl (lv_at hl 0 rfl) ?_
  refine lv_sipush (v := 500) hx hb dX2_init_15 (by decide) ?_
  refine va_newa (atype := .int) hx hb (hts (.arrayClass .int) (by decide +kernel)) (ty := .int) rfl hK hP hD hS hA (N' := 500) (a0 := (500, .inl (fun _ => 0))) (jb_arr0 500) (by decide +kernel) (by decide +kernel) (by decide +kernel) (by decide +kernel) (by decide +kernel) dX2_init_18 (fun q_1 cJ H hK2 hP hD hS => ?_)
  have hcj : cJ = cI := jb_cI hK2 hK
  clear hK2; subst cJ
  have hP : va_P (dC, dI) vwCl [(hL, .inr (2, [.ref aS, .int b, .null, .null, .null, .null, .null, .int 0])), (q_1, .inl (cI, 500, .inl (fun _ => 0)))] H := hP
  have hD : va_D A [(hL, .inr (2, [.ref aS, .int b, .null, .null, .null, .null, .null, .int 0])), (q_1, .inl (cI, 500, .inl (fun _ => 0)))] := hD
  refine W.widen (k := 1) (n := 500) (by decide +kernel) (by decide +kernel) ?_
  refine va_putF (D := (dC, dI)) (ci := 2) (v := .ref q_1) (ty := (.array .int)) (C := RX2) (T := TX2) (N := 8) hx hb hts iX2_init_X2 tyX2 tyX2_ok nmX2 hown hK hP hD hS 0 rfl rfl 2 (by decide) (hts (.fieldLink RX2 19 "JoinBench$Side" "keys" "[I") (by decide +kernel)) (fun _ h9 => h9) rfl hin rfl (by decide +kernel) rfl rfl (Nat.le_of_ble_eq_true rfl) dX2_init_20 (fun H locs hP hD hS => ?_)
  have hP : va_P (dC, dI) vwCl [(hL, .inr (2, [.ref aS, .int b, .ref q_1, .null, .null, .null, .null, .int 0])), (q_1, .inl (cI, 500, .inl (fun _ => 0)))] H := hP
  have hD : va_D A [(hL, .inr (2, [.ref aS, .int b, .ref q_1, .null, .null, .null, .null, .int 0])), (q_1, .inl (cI, 500, .inl (fun _ => 0)))] := hD
  refine lv_aload_n hx hb dX2_init_23 rfl (lv_at hl 0 rfl) ?_
  refine lv_sipush (v := 500) hx hb dX2_init_24 (by decide) ?_
  refine va_newa (atype := .int) hx hb (hts (.arrayClass .int) (by decide +kernel)) (ty := .int) rfl hK hP hD hS hA (N' := 500) (a0 := (500, .inl (fun _ => 0))) (jb_arr0 500) (by decide +kernel) (by decide +kernel) (by decide +kernel) (by decide +kernel) (by decide +kernel) dX2_init_27 (fun q_2 cJ H hK2 hP hD hS => ?_)
  have hcj : cJ = cI := jb_cI hK2 hK
  clear hK2; subst cJ
  have hP : va_P (dC, dI) vwCl [(hL, .inr (2, [.ref aS, .int b, .ref q_1, .null, .null, .null, .null, .int 0])), (q_1, .inl (cI, 500, .inl (fun _ => 0))), (q_2, .inl (cI, 500, .inl (fun _ => 0)))] H := hP
  have hD : va_D A [(hL, .inr (2, [.ref aS, .int b, .ref q_1, .null, .null, .null, .null, .int 0])), (q_1, .inl (cI, 500, .inl (fun _ => 0))), (q_2, .inl (cI, 500, .inl (fun _ => 0)))] := hD
  refine W.widen (k := 2) (n := 1000) (by decide +kernel) (by decide +kernel) ?_
  refine va_putF (D := (dC, dI)) (ci := 2) (v := .ref q_2) (ty := (.array .int)) (C := RX2) (T := TX2) (N := 8) hx hb hts iX2_init_X2 tyX2 tyX2_ok nmX2 hown hK hP hD hS 0 rfl rfl 3 (by decide) (hts (.fieldLink RX2 23 "JoinBench$Side" "values" "[I") (by decide +kernel)) (fun _ h9 => h9) rfl hin rfl (by decide +kernel) rfl rfl (Nat.le_of_ble_eq_true rfl) dX2_init_29 (fun H locs hP hD hS => ?_)
  have hP : va_P (dC, dI) vwCl [(hL, .inr (2, [.ref aS, .int b, .ref q_1, .ref q_2, .null, .null, .null, .int 0])), (q_1, .inl (cI, 500, .inl (fun _ => 0))), (q_2, .inl (cI, 500, .inl (fun _ => 0)))] H := hP
  have hD : va_D A [(hL, .inr (2, [.ref aS, .int b, .ref q_1, .ref q_2, .null, .null, .null, .int 0])), (q_1, .inl (cI, 500, .inl (fun _ => 0))), (q_2, .inl (cI, 500, .inl (fun _ => 0)))] := hD
  refine lv_aload_n hx hb dX2_init_32 rfl (lv_at hl 0 rfl) ?_
  refine lv_sipush (v := 500) hx hb dX2_init_33 (by decide) ?_
  refine va_newa (atype := .int) hx hb (hts (.arrayClass .int) (by decide +kernel)) (ty := .int) rfl hK hP hD hS hA (N' := 500) (a0 := (500, .inl (fun _ => 0))) (jb_arr0 500) (by decide +kernel) (by decide +kernel) (by decide +kernel) (by decide +kernel) (by decide +kernel) dX2_init_36 (fun q_3 cJ H hK2 hP hD hS => ?_)
  have hcj : cJ = cI := jb_cI hK2 hK
  clear hK2; subst cJ
  have hP : va_P (dC, dI) vwCl [(hL, .inr (2, [.ref aS, .int b, .ref q_1, .ref q_2, .null, .null, .null, .int 0])), (q_1, .inl (cI, 500, .inl (fun _ => 0))), (q_2, .inl (cI, 500, .inl (fun _ => 0))), (q_3, .inl (cI, 500, .inl (fun _ => 0)))] H := hP
  have hD : va_D A [(hL, .inr (2, [.ref aS, .int b, .ref q_1, .ref q_2, .null, .null, .null, .int 0])), (q_1, .inl (cI, 500, .inl (fun _ => 0))), (q_2, .inl (cI, 500, .inl (fun _ => 0))), (q_3, .inl (cI, 500, .inl (fun _ => 0)))] := hD
  refine W.widen (k := 3) (n := 1500) (by decide +kernel) (by decide +kernel) ?_
  refine va_putF (D := (dC, dI)) (ci := 2) (v := .ref q_3) (ty := (.array .int)) (C := RX2) (T := TX2) (N := 8) hx hb hts iX2_init_X2 tyX2 tyX2_ok nmX2 hown hK hP hD hS 0 rfl rfl 4 (by decide) (hts (.fieldLink RX2 26 "JoinBench$Side" "order" "[I") (by decide +kernel)) (fun _ h9 => h9) rfl hin rfl (by decide +kernel) rfl rfl (Nat.le_of_ble_eq_true rfl) dX2_init_38 (fun H locs hP hD hS => ?_)
  have hP : va_P (dC, dI) vwCl [(hL, .inr (2, [.ref aS, .int b, .ref q_1, .ref q_2, .ref q_3, .null, .null, .int 0])), (q_1, .inl (cI, 500, .inl (fun _ => 0))), (q_2, .inl (cI, 500, .inl (fun _ => 0))), (q_3, .inl (cI, 500, .inl (fun _ => 0)))] H := hP
  have hD : va_D A [(hL, .inr (2, [.ref aS, .int b, .ref q_1, .ref q_2, .ref q_3, .null, .null, .int 0])), (q_1, .inl (cI, 500, .inl (fun _ => 0))), (q_2, .inl (cI, 500, .inl (fun _ => 0))), (q_3, .inl (cI, 500, .inl (fun _ => 0)))] := hD
  refine lv_aload_n hx hb dX2_init_41 rfl (lv_at hl 0 rfl) ?_
  refine lv_sipush (v := 500) hx hb dX2_init_42 (by decide) ?_
  refine va_newa (atype := .int) hx hb (hts (.arrayClass .int) (by decide +kernel)) (ty := .int) rfl hK hP hD hS hA (N' := 500) (a0 := (500, .inl (fun _ => 0))) (jb_arr0 500) (by decide +kernel) (by decide +kernel) (by decide +kernel) (by decide +kernel) (by decide +kernel) dX2_init_45 (fun q_4 cJ H hK2 hP hD hS => ?_)
  have hcj : cJ = cI := jb_cI hK2 hK
  clear hK2; subst cJ
  have hP : va_P (dC, dI) vwCl [(hL, .inr (2, [.ref aS, .int b, .ref q_1, .ref q_2, .ref q_3, .null, .null, .int 0])), (q_1, .inl (cI, 500, .inl (fun _ => 0))), (q_2, .inl (cI, 500, .inl (fun _ => 0))), (q_3, .inl (cI, 500, .inl (fun _ => 0))), (q_4, .inl (cI, 500, .inl (fun _ => 0)))] H := hP
  have hD : va_D A [(hL, .inr (2, [.ref aS, .int b, .ref q_1, .ref q_2, .ref q_3, .null, .null, .int 0])), (q_1, .inl (cI, 500, .inl (fun _ => 0))), (q_2, .inl (cI, 500, .inl (fun _ => 0))), (q_3, .inl (cI, 500, .inl (fun _ => 0))), (q_4, .inl (cI, 500, .inl (fun _ => 0)))] := hD
  refine W.widen (k := 4) (n := 2000) (by decide +kernel) (by decide +kernel) ?_
  refine va_putF (D := (dC, dI)) (ci := 2) (v := .ref q_4) (ty := (.array .int)) (C := RX2) (T := TX2) (N := 8) hx hb hts iX2_init_X2 tyX2 tyX2_ok nmX2 hown hK hP hD hS 0 rfl rfl 5 (by decide) (hts (.fieldLink RX2 29 "JoinBench$Side" "spare" "[I") (by decide +kernel)) (fun _ h9 => h9) rfl hin rfl (by decide +kernel) rfl rfl (Nat.le_of_ble_eq_true rfl) dX2_init_47 (fun H locs hP hD hS => ?_)
  have hP : va_P (dC, dI) vwCl [(hL, .inr (2, [.ref aS, .int b, .ref q_1, .ref q_2, .ref q_3, .ref q_4, .null, .int 0])), (q_1, .inl (cI, 500, .inl (fun _ => 0))), (q_2, .inl (cI, 500, .inl (fun _ => 0))), (q_3, .inl (cI, 500, .inl (fun _ => 0))), (q_4, .inl (cI, 500, .inl (fun _ => 0)))] H := hP
  have hD : va_D A [(hL, .inr (2, [.ref aS, .int b, .ref q_1, .ref q_2, .ref q_3, .ref q_4, .null, .int 0])), (q_1, .inl (cI, 500, .inl (fun _ => 0))), (q_2, .inl (cI, 500, .inl (fun _ => 0))), (q_3, .inl (cI, 500, .inl (fun _ => 0))), (q_4, .inl (cI, 500, .inl (fun _ => 0)))] := hD
  refine lv_aload_n hx hb dX2_init_50 rfl (lv_at hl 0 rfl) ?_
  refine lv_sipush (v := 152) hx hb dX2_init_51 (by decide) ?_
  refine va_newa (atype := .int) hx hb (hts (.arrayClass .int) (by decide +kernel)) (ty := .int) rfl hK hP hD hS hA (N' := 152) (a0 := (152, .inl (fun _ => 0))) (jb_arr0 152) (by decide +kernel) (by decide +kernel) (by decide +kernel) (by decide +kernel) (by decide +kernel) dX2_init_54 (fun q_5 cJ H hK2 hP hD hS => ?_)
  have hcj : cJ = cI := jb_cI hK2 hK
  clear hK2; subst cJ
  have hP : va_P (dC, dI) vwCl [(hL, .inr (2, [.ref aS, .int b, .ref q_1, .ref q_2, .ref q_3, .ref q_4, .null, .int 0])), (q_1, .inl (cI, 500, .inl (fun _ => 0))), (q_2, .inl (cI, 500, .inl (fun _ => 0))), (q_3, .inl (cI, 500, .inl (fun _ => 0))), (q_4, .inl (cI, 500, .inl (fun _ => 0))), (q_5, .inl (cI, 152, .inl (fun _ => 0)))] H := hP
  have hD : va_D A [(hL, .inr (2, [.ref aS, .int b, .ref q_1, .ref q_2, .ref q_3, .ref q_4, .null, .int 0])), (q_1, .inl (cI, 500, .inl (fun _ => 0))), (q_2, .inl (cI, 500, .inl (fun _ => 0))), (q_3, .inl (cI, 500, .inl (fun _ => 0))), (q_4, .inl (cI, 500, .inl (fun _ => 0))), (q_5, .inl (cI, 152, .inl (fun _ => 0)))] := hD
  refine W.widen (k := 5) (n := 2152) (by decide +kernel) (by decide +kernel) ?_
  refine va_putF (D := (dC, dI)) (ci := 2) (v := .ref q_5) (ty := (.array .int)) (C := RX2) (T := TX2) (N := 8) hx hb hts iX2_init_X2 tyX2 tyX2_ok nmX2 hown hK hP hD hS 0 rfl rfl 6 (by decide) (hts (.fieldLink RX2 32 "JoinBench$Side" "partEnds" "[I") (by decide +kernel)) (fun _ h9 => h9) rfl hin rfl (by decide +kernel) rfl rfl (Nat.le_of_ble_eq_true rfl) dX2_init_56 (fun H locs hP hD hS => ?_)
  have hP : va_P (dC, dI) vwCl [(hL, .inr (2, [.ref aS, .int b, .ref q_1, .ref q_2, .ref q_3, .ref q_4, .ref q_5, .int 0])), (q_1, .inl (cI, 500, .inl (fun _ => 0))), (q_2, .inl (cI, 500, .inl (fun _ => 0))), (q_3, .inl (cI, 500, .inl (fun _ => 0))), (q_4, .inl (cI, 500, .inl (fun _ => 0))), (q_5, .inl (cI, 152, .inl (fun _ => 0)))] H := hP
  have hD : va_D A [(hL, .inr (2, [.ref aS, .int b, .ref q_1, .ref q_2, .ref q_3, .ref q_4, .ref q_5, .int 0])), (q_1, .inl (cI, 500, .inl (fun _ => 0))), (q_2, .inl (cI, 500, .inl (fun _ => 0))), (q_3, .inl (cI, 500, .inl (fun _ => 0))), (q_4, .inl (cI, 500, .inl (fun _ => 0))), (q_5, .inl (cI, 152, .inl (fun _ => 0)))] := hD
  refine lv_aload_n hx hb dX2_init_59 rfl (lv_at hl 0 rfl) ?_
  refine lv_iconst (v := 0) hx hb dX2_init_60 (by decide) ?_
  refine va_put (D := (dC, dI)) (ci := 2) (v := .int 0) (ty := .int) (C := RX2) (T := TX2) (N := 8) hx hb hts iX2_init_X2 tyX2 tyX2_ok nmX2 hown hK hP hD hS 0 rfl rfl 7 (by decide) (hts (.fieldLink RX2 35 "JoinBench$Side" "count" "I") (by decide +kernel)) (fun _ h9 => h9) rfl (by decide +kernel) rfl rfl (Nat.le_of_ble_eq_true rfl) dX2_init_61 (fun H locs hP hD hS => ?_)
  have hP : va_P (dC, dI) vwCl [(hL, .inr (2, [.ref aS, .int b, .ref q_1, .ref q_2, .ref q_3, .ref q_4, .ref q_5, .int 0])), (q_1, .inl (cI, 500, .inl (fun _ => 0))), (q_2, .inl (cI, 500, .inl (fun _ => 0))), (q_3, .inl (cI, 500, .inl (fun _ => 0))), (q_4, .inl (cI, 500, .inl (fun _ => 0))), (q_5, .inl (cI, 152, .inl (fun _ => 0)))] H := hP
  have hD : va_D A [(hL, .inr (2, [.ref aS, .int b, .ref q_1, .ref q_2, .ref q_3, .ref q_4, .ref q_5, .int 0])), (q_1, .inl (cI, 500, .inl (fun _ => 0))), (q_2, .inl (cI, 500, .inl (fun _ => 0))), (q_3, .inl (cI, 500, .inl (fun _ => 0))), (q_4, .inl (cI, 500, .inl (fun _ => 0))), (q_5, .inl (cI, 152, .inl (fun _ => 0)))] := hD
  have hP9 : va_P (dC, dI) vwCl [(hL, .inr (2, [.ref aS, .int b, .ref q_1, .ref q_2, .ref q_3, .ref q_4, .ref q_5, .int (nI 0)])), (q_1, .inl (cI, 500, .inl (fun _ => 0))), (q_2, .inl (cI, 500, .inl (fun _ => 0))), (q_3, .inl (cI, 500, .inl (jb_O (fun _ => 0)))), (q_4, .inl (cI, 500, .inl (fun _ => 0))), (q_5, .inl (cI, 152, .inl (fun _ => 0)))] H := hP.sub [0, 1, 2, 3, 4, 5] rfl
  have hD9 : va_D A [(hL, .inr (2, [.ref aS, .int b, .ref q_1, .ref q_2, .ref q_3, .ref q_4, .ref q_5, .int (nI 0)])), (q_1, .inl (cI, 500, .inl (fun _ => 0))), (q_2, .inl (cI, 500, .inl (fun _ => 0))), (q_3, .inl (cI, 500, .inl (jb_O (fun _ => 0)))), (q_4, .inl (cI, 500, .inl (fun _ => 0))), (q_5, .inl (cI, 152, .inl (fun _ => 0)))] := hD.sub [0, 1, 2, 3, 4, 5] (by decide) rfl
  exact W.vret hx hb hr (fun t ht hW => ⟨⟨(q_1, q_2, q_3, q_4, q_5), rfl, trivial, by rw [ht]; exact hP9, hD9⟩, hS.F ht⟩) hS.2.2 dX2_init_64
theorem iX2_copyOf_X2 : ∀ w ∈ wsX20, w ∈ wsX2_copyOf := by decide +kernel
theorem iX2_copyOf_X4 : ∀ w ∈ wsX40, w ∈ wsX2_copyOf := by decide +kernel
set_option maxHeartbeats 1000000 in
set_option maxRecDepth 100000 in
/-- Side.copyOf(table) -/
theorem c_copyOf (l : Launch) (dC : Nat → ClassId) (dI : Nat → Nat → Nat) (cI : ClassId) (sz : Nat) (hL aS kA vA oA sA eA hT hK1 hV1 : Nat) (b : Int32) (K V : Nat → Int32) (o : Nat → Nat) (Sp Pe : Nat → Int32) (n : Nat) (K1 V1 : Nat → Int32) (m0 : Nat) (hm0 : m0 ≤ 500) : Met l yX2_copyOf wsX2_copyOf ({ frames := 2, cells := 0, slots := 0, locals := 80 } : Room) (va_Pc [.ref hL, .ref hT] (jb_M dC dI cI sz [(hL, .inr (2, [.ref aS, .int b, .ref kA, .ref vA, .ref oA, .ref sA, .ref eA, .int (nI n)])), (kA, .inl (cI, 500, .inl K)), (vA, .inl (cI, 500, .inl V)), (oA, .inl (cI, 500, .inl (jb_O o))), (sA, .inl (cI, 500, .inl Sp)), (eA, .inl (cI, 152, .inl Pe)), (hT, .inr (4, [.ref hK1, .ref hV1, .int (nI m0)])), (hK1, .inl (cI, 500, .inl K1)), (hV1, .inl (cI, 500, .inl V1))])) (va_Qv (fun (_ : Unit) => True) (jb_B dC dI (va_A [(hL, .inr (2, [.ref aS, .int b, .ref kA, .ref vA, .ref oA, .ref sA, .ref eA, .int (nI n)])), (kA, .inl (cI, 500, .inl K)), (vA, .inl (cI, 500, .inl V)), (oA, .inl (cI, 500, .inl (jb_O o))), (sA, .inl (cI, 500, .inl Sp)), (eA, .inl (cI, 152, .inl Pe)), (hT, .inr (4, [.ref hK1, .ref hV1, .int (nI m0)])), (hK1, .inl (cI, 500, .inl K1)), (hV1, .inl (cI, 500, .inl V1))] sz) (fun _ => [(hL, .inr (2, [.ref aS, .int b, .ref kA, .ref vA, .ref oA, .ref sA, .ref eA, .int (nI m0)])), (kA, .inl (cI, 500, .inl (va_cpy K1 K 0 0 m0))), (vA, .inl (cI, 500, .inl (va_cpy V1 V 0 0 m0))), (oA, .inl (cI, 500, .inl (jb_O (jb_idn o m0)))), (sA, .inl (cI, 500, .inl Sp)), (eA, .inl (cI, 152, .inl Pe)), (hT, .inr (4, [.ref hK1, .ref hV1, .int (nI m0)])), (hK1, .inl (cI, 500, .inl K1)), (hV1, .inl (cI, 500, .inl V1))])) (va_A [(hL, .inr (2, [.ref aS, .int b, .ref kA, .ref vA, .ref oA, .ref sA, .ref eA, .int (nI n)])), (kA, .inl (cI, 500, .inl K)), (vA, .inl (cI, 500, .inl V)), (oA, .inl (cI, 500, .inl (jb_O o))), (sA, .inl (cI, 500, .inl Sp)), (eA, .inl (cI, 152, .inl Pe)), (hT, .inr (4, [.ref hK1, .ref hV1, .int (nI m0)])), (hK1, .inl (cI, 500, .inl K1)), (hV1, .inl (cI, 500, .inl V1))] sz)) 0 0 (va_A [(hL, .inr (2, [.ref aS, .int b, .ref kA, .ref vA, .ref oA, .ref sA, .ref eA, .int (nI n)])), (kA, .inl (cI, 500, .inl K)), (vA, .inl (cI, 500, .inl V)), (oA, .inl (cI, 500, .inl (jb_O o))), (sA, .inl (cI, 500, .inl Sp)), (eA, .inl (cI, 152, .inl Pe)), (hT, .inr (4, [.ref hK1, .ref hV1, .int (nI m0)])), (hK1, .inl (cI, 500, .inl K1)), (hV1, .inl (cI, 500, .inl V1))] sz) := by
  refine Met.ofW (cc := cX2_copyOf) (maxL := 3) (ret := none) (by decide) rfl ?_
  intro p e s m args below meth c s₁ B hml hv
  obtain ⟨rfl, hsz, hP, hK, hNw, hD0⟩ := hv
  have hx := B.exec
  have hb := B.bytes
  have hr := B.returns
  have hts := atoms_spec (ws := wsX2_copyOf) B.pre
  have hown : s.vm.findClass RX2 = some m.cls := findClass_of_methodNamed B.named
  have hlocks := B.notSynchronized
  subst hsz
  have hD := hD0.self (sz := s.heap.size)
  generalize hAe : va_A [(hL, .inr (2, [.ref aS, .int b, .ref kA, .ref vA, .ref oA, .ref sA, .ref eA, .int (nI n)])), (kA, .inl (cI, 500, .inl K)), (vA, .inl (cI, 500, .inl V)), (oA, .inl (cI, 500, .inl (jb_O o))), (sA, .inl (cI, 500, .inl Sp)), (eA, .inl (cI, 152, .inl Pe)), (hT, .inr (4, [.ref hK1, .ref hV1, .int (nI m0)])), (hK1, .inl (cI, 500, .inl K1)), (hV1, .inl (cI, 500, .inl V1))] s.heap.size = A at hD ⊢
  have hA : ∀ q : Nat, s.heap.size ≤ q → A q := fun q h => by rw [← hAe]; exact Or.inr h
  have hS : va_S A s.heap s.heap [] := va_S.rf
  have hP : va_P (dC, dI) vwCl [(hL, .inr (2, [.ref aS, .int b, .ref kA, .ref vA, .ref oA, .ref sA, .ref eA, .int (nI n)])), (kA, .inl (cI, 500, .inl K)), (vA, .inl (cI, 500, .inl V)), (oA, .inl (cI, 500, .inl (jb_O o))), (sA, .inl (cI, 500, .inl Sp)), (eA, .inl (cI, 152, .inl Pe)), (hT, .inr (4, [.ref hK1, .ref hV1, .int (nI m0)])), (hK1, .inl (cI, 500, .inl K1)), (hV1, .inl (cI, 500, .inl V1))] s.heap := hP
  have hl := lv_entry ([.ref hL, .ref hT]) (n := 3) (Nat.le_of_ble_eq_true rfl)
  rw [lg_entry_eq]
  generalize (lg_sl ([.ref hL, .ref hT]) ++ List.replicate (3 - (lg_sl ([.ref hL, .ref hT])).length) Slot.unset).toArray = ls at hl ⊢
  have hl : lv_has ls 3 [(0, .ref hL), (1, .ref hT)] := hl
  refine lv_aload_n hx hb dX2_copyOf_0 rfl (lv_at hl 0 rfl) ?_
  refine lv_aload_n hx hb dX2_copyOf_1 rfl (lv_at hl 1 rfl) ?_
  refine va_getN (D := (dC, dI)) (ci := 4) (v := .int (nI m0)) (C := RX4) (T := TX4) (N := 3) hx hb hts iX2_copyOf_X4 hown hK hP 6 rfl rfl 2 (by decide) (hNw.use (q := (RX2, 39, "JoinBench$Table", "count", "I")) (by decide +kernel)) (fun _ h9 => h9) rfl dX2_copyOf_2 ?_
  refine va_put (D := (dC, dI)) (ci := 2) (v := .int (nI m0)) (ty := .int) (C := RX2) (T := TX2) (N := 8) hx hb hts iX2_copyOf_X2 tyX2 tyX2_ok nmX2 hown hK hP hD hS 0 rfl rfl 7 (by decide) (hts (.fieldLink RX2 35 "JoinBench$Side" "count" "I") (by decide +kernel)) (fun _ h9 => h9) rfl (by decide +kernel) rfl rfl (Nat.le_of_ble_eq_true rfl) dX2_copyOf_5 (fun H locs hP hD hS => ?_)
  have hP : va_P (dC, dI) vwCl [(hL, .inr (2, [.ref aS, .int b, .ref kA, .ref vA, .ref oA, .ref sA, .ref eA, .int (nI m0)])), (kA, .inl (cI, 500, .inl K)), (vA, .inl (cI, 500, .inl V)), (oA, .inl (cI, 500, .inl (jb_O o))), (sA, .inl (cI, 500, .inl Sp)), (eA, .inl (cI, 152, .inl Pe)), (hT, .inr (4, [.ref hK1, .ref hV1, .int (nI m0)])), (hK1, .inl (cI, 500, .inl K1)), (hV1, .inl (cI, 500, .inl V1))] H := hP
  have hD : va_D A [(hL, .inr (2, [.ref aS, .int b, .ref kA, .ref vA, .ref oA, .ref sA, .ref eA, .int (nI m0)])), (kA, .inl (cI, 500, .inl K)), (vA, .inl (cI, 500, .inl V)), (oA, .inl (cI, 500, .inl (jb_O o))), (sA, .inl (cI, 500, .inl Sp)), (eA, .inl (cI, 152, .inl Pe)), (hT, .inr (4, [.ref hK1, .ref hV1, .int (nI m0)])), (hK1, .inl (cI, 500, .inl K1)), (hV1, .inl (cI, 500, .inl V1))] := hD
  refine lv_aload_n hx hb dX2_copyOf_8 rfl (lv_at hl 1 rfl) ?_
  refine va_getN (D := (dC, dI)) (ci := 4) (v := .ref hK1) (C := RX4) (T := TX4) (N := 3) hx hb hts iX2_copyOf_X4 hown hK hP 6 rfl rfl 0 (by decide) (hNw.use (q := (RX2, 42, "JoinBench$Table", "keys", "[I")) (by decide +kernel)) (fun _ h9 => h9) rfl dX2_copyOf_9 ?_
  refine lv_iconst (v := 0) hx hb dX2_copyOf_12 (by decide) ?_
  refine lv_aload_n hx hb dX2_copyOf_13 rfl (lv_at hl 0 rfl) ?_
  refine va_get (D := (dC, dI)) (ci := 2) (v := .ref kA) (C := RX2) (T := TX2) (N := 8) hx hb hts iX2_copyOf_X2 hown hK hP 0 rfl rfl 2 (by decide) (hts (.fieldLink RX2 19 "JoinBench$Side" "keys" "[I") (by decide +kernel)) (fun _ h9 => h9) rfl dX2_copyOf_14 ?_
  refine lv_iconst (v := 0) hx hb dX2_copyOf_17 (by decide) ?_
  refine lv_aload_n hx hb dX2_copyOf_18 rfl (lv_at hl 0 rfl) ?_
  refine va_get (D := (dC, dI)) (ci := 2) (v := .int (nI m0)) (C := RX2) (T := TX2) (N := 8) hx hb hts iX2_copyOf_X2 hown hK hP 0 rfl rfl 7 (by decide) (hts (.fieldLink RX2 35 "JoinBench$Side" "count" "I") (by decide +kernel)) (fun _ h9 => h9) rfl dX2_copyOf_19 ?_
  refine va_copyi hx hb (by rw [hml]; exact hl.1.symm) hown (hts (.methodLink RX2 43 arraycopyName) (by decide +kernel)) (hts (.native arraycopyName) (by decide +kernel)) (hts (.static arraycopyName) (by decide +kernel)) (hts (.initialized "java/lang/System") (by decide +kernel)) hK hP hD hS 7 1 0 0 rfl rfl rfl rfl rfl (sp := 0) (dp := 0) (n := nI m0) (by decide) (by decide) (nI_pos (by omega)) (by rw [nI_clamp (by omega)]; show 0 + m0 ≤ 500; omega) (by rw [nI_clamp (by omega)]; show 0 + m0 ≤ 500; omega) (fun i _ => rfl) (by decide +kernel) (Nat.le_of_ble_eq_true rfl) dX2_copyOf_22 (fun H locs hP hD hS => ?_)
  rw [show (nI m0).toNatClampNeg = m0 from nI_clamp (by omega)] at hP hD
  have hP : va_P (dC, dI) vwCl [(hL, .inr (2, [.ref aS, .int b, .ref kA, .ref vA, .ref oA, .ref sA, .ref eA, .int (nI m0)])), (kA, .inl (cI, 500, .inl (va_cpy K1 K 0 0 m0))), (vA, .inl (cI, 500, .inl V)), (oA, .inl (cI, 500, .inl (jb_O o))), (sA, .inl (cI, 500, .inl Sp)), (eA, .inl (cI, 152, .inl Pe)), (hT, .inr (4, [.ref hK1, .ref hV1, .int (nI m0)])), (hK1, .inl (cI, 500, .inl K1)), (hV1, .inl (cI, 500, .inl V1))] H := hP
  have hD : va_D A [(hL, .inr (2, [.ref aS, .int b, .ref kA, .ref vA, .ref oA, .ref sA, .ref eA, .int (nI m0)])), (kA, .inl (cI, 500, .inl (va_cpy K1 K 0 0 m0))), (vA, .inl (cI, 500, .inl V)), (oA, .inl (cI, 500, .inl (jb_O o))), (sA, .inl (cI, 500, .inl Sp)), (eA, .inl (cI, 152, .inl Pe)), (hT, .inr (4, [.ref hK1, .ref hV1, .int (nI m0)])), (hK1, .inl (cI, 500, .inl K1)), (hV1, .inl (cI, 500, .inl V1))] := hD
  refine lv_aload_n hx hb dX2_copyOf_25 rfl (lv_at hl 1 rfl) ?_
  refine va_getN (D := (dC, dI)) (ci := 4) (v := .ref hV1) (C := RX4) (T := TX4) (N := 3) hx hb hts iX2_copyOf_X4 hown hK hP 6 rfl rfl 1 (by decide) (hNw.use (q := (RX2, 49, "JoinBench$Table", "values", "[I")) (by decide +kernel)) (fun _ h9 => h9) rfl dX2_copyOf_26 ?_
  refine lv_iconst (v := 0) hx hb dX2_copyOf_29 (by decide) ?_
  refine lv_aload_n hx hb dX2_copyOf_30 rfl (lv_at hl 0 rfl) ?_
  refine va_get (D := (dC, dI)) (ci := 2) (v := .ref vA) (C := RX2) (T := TX2) (N := 8) hx hb hts iX2_copyOf_X2 hown hK hP 0 rfl rfl 3 (by decide) (hts (.fieldLink RX2 23 "JoinBench$Side" "values" "[I") (by decide +kernel)) (fun _ h9 => h9) rfl dX2_copyOf_31 ?_
  refine lv_iconst (v := 0) hx hb dX2_copyOf_34 (by decide) ?_
  refine lv_aload_n hx hb dX2_copyOf_35 rfl (lv_at hl 0 rfl) ?_
  refine va_get (D := (dC, dI)) (ci := 2) (v := .int (nI m0)) (C := RX2) (T := TX2) (N := 8) hx hb hts iX2_copyOf_X2 hown hK hP 0 rfl rfl 7 (by decide) (hts (.fieldLink RX2 35 "JoinBench$Side" "count" "I") (by decide +kernel)) (fun _ h9 => h9) rfl dX2_copyOf_36 ?_
  refine va_copyi hx hb (by rw [hml]; exact hl.1.symm) hown (hts (.methodLink RX2 43 arraycopyName) (by decide +kernel)) (hts (.native arraycopyName) (by decide +kernel)) (hts (.static arraycopyName) (by decide +kernel)) (hts (.initialized "java/lang/System") (by decide +kernel)) hK hP hD hS 8 2 0 0 rfl rfl rfl rfl rfl (sp := 0) (dp := 0) (n := nI m0) (by decide) (by decide) (nI_pos (by omega)) (by rw [nI_clamp (by omega)]; show 0 + m0 ≤ 500; omega) (by rw [nI_clamp (by omega)]; show 0 + m0 ≤ 500; omega) (fun i _ => rfl) (by decide +kernel) (Nat.le_of_ble_eq_true rfl) dX2_copyOf_39 (fun H locs hP hD hS => ?_)
  rw [show (nI m0).toNatClampNeg = m0 from nI_clamp (by omega)] at hP hD
  have hP : va_P (dC, dI) vwCl [(hL, .inr (2, [.ref aS, .int b, .ref kA, .ref vA, .ref oA, .ref sA, .ref eA, .int (nI m0)])), (kA, .inl (cI, 500, .inl (va_cpy K1 K 0 0 m0))), (vA, .inl (cI, 500, .inl (va_cpy V1 V 0 0 m0))), (oA, .inl (cI, 500, .inl (jb_O o))), (sA, .inl (cI, 500, .inl Sp)), (eA, .inl (cI, 152, .inl Pe)), (hT, .inr (4, [.ref hK1, .ref hV1, .int (nI m0)])), (hK1, .inl (cI, 500, .inl K1)), (hV1, .inl (cI, 500, .inl V1))] H := hP
  have hD : va_D A [(hL, .inr (2, [.ref aS, .int b, .ref kA, .ref vA, .ref oA, .ref sA, .ref eA, .int (nI m0)])), (kA, .inl (cI, 500, .inl (va_cpy K1 K 0 0 m0))), (vA, .inl (cI, 500, .inl (va_cpy V1 V 0 0 m0))), (oA, .inl (cI, 500, .inl (jb_O o))), (sA, .inl (cI, 500, .inl Sp)), (eA, .inl (cI, 152, .inl Pe)), (hT, .inr (4, [.ref hK1, .ref hV1, .int (nI m0)])), (hK1, .inl (cI, 500, .inl K1)), (hV1, .inl (cI, 500, .inl V1))] := hD
  refine lv_iconst (v := 0) hx hb dX2_copyOf_42 (by decide) ?_
  refine lv_istore_n (lv' := [(2, .int 0), (0, .ref hL), (1, .ref hT)]) hx hb dX2_copyOf_43 rfl hl (by decide) rfl (fun ls hl => ?_)
  rw [← jb_idn_0 o] at hP hD
  have hl_a : ∀ (k_a : Nat) (i : Nat), m0 - i < k_a → (i ≤ m0) → ∀ (H : Heap) (locs : List Loc), va_P (dC, dI) vwCl [(hL, .inr (2, [.ref aS, .int b, .ref kA, .ref vA, .ref oA, .ref sA, .ref eA, .int (nI m0)])), (kA, .inl (cI, 500, .inl (va_cpy K1 K 0 0 m0))), (vA, .inl (cI, 500, .inl (va_cpy V1 V 0 0 m0))), (oA, .inl (cI, 500, .inl (jb_O (jb_idn o i)))), (sA, .inl (cI, 500, .inl Sp)), (eA, .inl (cI, 152, .inl Pe)), (hT, .inr (4, [.ref hK1, .ref hV1, .int (nI m0)])), (hK1, .inl (cI, 500, .inl K1)), (hV1, .inl (cI, 500, .inl V1))] H → va_D A [(hL, .inr (2, [.ref aS, .int b, .ref kA, .ref vA, .ref oA, .ref sA, .ref eA, .int (nI m0)])), (kA, .inl (cI, 500, .inl (va_cpy K1 K 0 0 m0))), (vA, .inl (cI, 500, .inl (va_cpy V1 V 0 0 m0))), (oA, .inl (cI, 500, .inl (jb_O (jb_idn o i)))), (sA, .inl (cI, 500, .inl Sp)), (eA, .inl (cI, 152, .inl Pe)), (hT, .inr (4, [.ref hK1, .ref hV1, .int (nI m0)])), (hK1, .inl (cI, 500, .inl K1)), (hV1, .inl (cI, 500, .inl V1))] → va_S A s.heap H locs → ∀ ls : Array Slot, lv_has ls 3 [(0, .ref hL), (1, .ref hT), (2, .int (nI i))] → W p l e ({ frames := 2, cells := 0, slots := 0, locals := 80 } : Room) s m ([.ref hL, .ref hT] : List Value).toArray below meth c H locs 0 0 (MQ below (va_Qv (fun (_ : Unit) => True) (jb_B dC dI A (fun _ => [(hL, .inr (2, [.ref aS, .int b, .ref kA, .ref vA, .ref oA, .ref sA, .ref eA, .int (nI m0)])), (kA, .inl (cI, 500, .inl (va_cpy K1 K 0 0 m0))), (vA, .inl (cI, 500, .inl (va_cpy V1 V 0 0 m0))), (oA, .inl (cI, 500, .inl (jb_O (jb_idn o m0)))), (sA, .inl (cI, 500, .inl Sp)), (eA, .inl (cI, 152, .inl Pe)), (hT, .inr (4, [.ref hK1, .ref hV1, .int (nI m0)])), (hK1, .inl (cI, 500, .inl K1)), (hV1, .inl (cI, 500, .inl V1))])) A) ([.ref hL, .ref hT] : List Value).toArray s 0 0 (A)) (F0 m 44 ls []) := by
    intro k_a
    induction k_a with
    | zero => intro i hk; exact absurd hk (Nat.not_lt_zero _)
    | succ k_a ih_a =>
      intro i hk_a hi H locs hP hD hS ls hl
      refine lv_iload_n hx hb dX2_copyOf_44 rfl (lv_at hl 2 rfl) ?_
      refine lv_aload_n hx hb dX2_copyOf_45 rfl (lv_at hl 0 rfl) ?_
      refine va_get (D := (dC, dI)) (ci := 2) (v := .int (nI m0)) (C := RX2) (T := TX2) (N := 8) hx hb hts iX2_copyOf_X2 hown hK hP 0 rfl rfl 7 (by decide) (hts (.fieldLink RX2 35 "JoinBench$Side" "count" "I") (by decide +kernel)) (fun _ h9 => h9) rfl dX2_copyOf_46 ?_
      refine lv_icmp_ge (tgt := 65) hx hb dX2_copyOf_49 (by decide) (fun c_49 => ?_) (fun c_49 => ?_)
      · have hge : i = m0 := by have := (nI_leI (a := m0) (b := i) (by omega) (by omega)).mp c_49; omega
        rw [hge] at hP hD
        have hP9 : va_P (dC, dI) vwCl [(hL, .inr (2, [.ref aS, .int b, .ref kA, .ref vA, .ref oA, .ref sA, .ref eA, .int (nI m0)])), (kA, .inl (cI, 500, .inl (va_cpy K1 K 0 0 m0))), (vA, .inl (cI, 500, .inl (va_cpy V1 V 0 0 m0))), (oA, .inl (cI, 500, .inl (jb_O (jb_idn o m0)))), (sA, .inl (cI, 500, .inl Sp)), (eA, .inl (cI, 152, .inl Pe)), (hT, .inr (4, [.ref hK1, .ref hV1, .int (nI m0)])), (hK1, .inl (cI, 500, .inl K1)), (hV1, .inl (cI, 500, .inl V1))] H := hP.sub [0, 1, 2, 3, 4, 5, 6, 7, 8] rfl
        have hD9 : va_D A [(hL, .inr (2, [.ref aS, .int b, .ref kA, .ref vA, .ref oA, .ref sA, .ref eA, .int (nI m0)])), (kA, .inl (cI, 500, .inl (va_cpy K1 K 0 0 m0))), (vA, .inl (cI, 500, .inl (va_cpy V1 V 0 0 m0))), (oA, .inl (cI, 500, .inl (jb_O (jb_idn o m0)))), (sA, .inl (cI, 500, .inl Sp)), (eA, .inl (cI, 152, .inl Pe)), (hT, .inr (4, [.ref hK1, .ref hV1, .int (nI m0)])), (hK1, .inl (cI, 500, .inl K1)), (hV1, .inl (cI, 500, .inl V1))] := hD.sub [0, 1, 2, 3, 4, 5, 6, 7, 8] (by decide) rfl
        exact W.vret hx hb hr (fun t ht hW => ⟨⟨(), rfl, trivial, by rw [ht]; exact hP9, hD9⟩, hS.F ht⟩) hS.2.2 dX2_copyOf_65
      · have hlt : i < m0 := (jb_nle (a := m0) (b := i) (by omega) (by omega)).mp c_49
        refine lv_aload_n hx hb dX2_copyOf_52 rfl (lv_at hl 0 rfl) ?_
        refine va_get (D := (dC, dI)) (ci := 2) (v := .ref oA) (C := RX2) (T := TX2) (N := 8) hx hb hts iX2_copyOf_X2 hown hK hP 0 rfl rfl 4 (by decide) (hts (.fieldLink RX2 26 "JoinBench$Side" "order" "[I") (by decide +kernel)) (fun _ h9 => h9) rfl dX2_copyOf_53 ?_
        refine lv_iload_n hx hb dX2_copyOf_56 rfl (lv_at hl 2 rfl) ?_
        refine lv_iload_n hx hb dX2_copyOf_57 rfl (lv_at hl 2 rfl) ?_
        refine va_iast hx hb hK hP hD hS 3 0 rfl rfl (i := nI i) (x := nI i) (vp_in_nI (n := i) (by omega) (by decide)) dX2_copyOf_58 (fun H locs hP hD hS => ?_)
        rw [show (nI i : Int32).toNatClampNeg = i from nI_clamp (by omega)] at hP hD
        have hP : va_P (dC, dI) vwCl [(hL, .inr (2, [.ref aS, .int b, .ref kA, .ref vA, .ref oA, .ref sA, .ref eA, .int (nI m0)])), (kA, .inl (cI, 500, .inl (va_cpy K1 K 0 0 m0))), (vA, .inl (cI, 500, .inl (va_cpy V1 V 0 0 m0))), (oA, .inl (cI, 500, .inl (upd (jb_O (jb_idn o i)) i (nI i)))), (sA, .inl (cI, 500, .inl Sp)), (eA, .inl (cI, 152, .inl Pe)), (hT, .inr (4, [.ref hK1, .ref hV1, .int (nI m0)])), (hK1, .inl (cI, 500, .inl K1)), (hV1, .inl (cI, 500, .inl V1))] H := hP
        have hD : va_D A [(hL, .inr (2, [.ref aS, .int b, .ref kA, .ref vA, .ref oA, .ref sA, .ref eA, .int (nI m0)])), (kA, .inl (cI, 500, .inl (va_cpy K1 K 0 0 m0))), (vA, .inl (cI, 500, .inl (va_cpy V1 V 0 0 m0))), (oA, .inl (cI, 500, .inl (upd (jb_O (jb_idn o i)) i (nI i)))), (sA, .inl (cI, 500, .inl Sp)), (eA, .inl (cI, 152, .inl Pe)), (hT, .inr (4, [.ref hK1, .ref hV1, .int (nI m0)])), (hK1, .inl (cI, 500, .inl K1)), (hV1, .inl (cI, 500, .inl V1))] := hD
        rw [jb_idn_s] at hP hD
        refine lv_iinc (v := nI (i + 1)) (lv' := [(2, .int (nI (i + 1))), (0, .ref hL), (1, .ref hT)]) hx hb dX2_copyOf_59 hl (k := 2) rfl (nI_1 i) (by decide) rfl (fun ls hl => ?_)
        refine lv_goto (tgt := 44) hx hb dX2_copyOf_62 (by decide) ?_
        exact ih_a (i + 1) (by omega) hlt H locs hP hD hS ls (lv_sub hl [1, 2, 0] rfl)
  exact hl_a (m0 - 0 + 1) 0 (by omega) (Nat.zero_le _) H locs hP hD hS ls (lv_sub hl [1, 2, 0] rfl)
theorem iX2_layInParts_X2 : ∀ w ∈ wsX20, w ∈ wsX2_layInParts := by decide +kernel
set_option maxHeartbeats 1000000 in
set_option maxRecDepth 100000 in
/-- Side.layInParts(from, to, level) -/
theorem c_layInParts (l : Launch) (dC : Nat → ClassId) (dI : Nat → Nat → Nat) (cI : ClassId) (sz : Nat) (hL aS aN kA vA oA sA eA per mem par : Nat) (b : Int32) (K V : Nat → Int32) (o : Nat → Nat) (Sp Pe : Nat → Int32) (n fr lv : Nat) (la : List Nat) (hin : jb_in o fr la) (hb5 : ∀ r ∈ la, r < 500) (hto : fr + la.length ≤ n) (hn : n ≤ 500) (hlv : lv < 8) (h1 : 1 ≤ per) (hp : per ≤ 16) (hm : 3 ≤ mem) (hm2 : mem ≤ 20) : Met l yX2_layInParts wsX2_layInParts ({ frames := 5, cells := 0, slots := 0, locals := 200 } : Room) (va_Pc [.ref hL, .int (nI fr), .int (nI (fr + la.length)), .int (nI lv)] (jb_M dC dI cI sz [(aS, .inr (3, [.ref aN])), (aN, .inl (cI, 3, .inl (jb_now per mem par))), (hL, .inr (2, [.ref aS, .int b, .ref kA, .ref vA, .ref oA, .ref sA, .ref eA, .int (nI n)])), (kA, .inl (cI, 500, .inl K)), (vA, .inl (cI, 500, .inl V)), (oA, .inl (cI, 500, .inl (jb_O o))), (sA, .inl (cI, 500, .inl Sp)), (eA, .inl (cI, 152, .inl Pe))])) (va_Qi (fun r (u : (Nat → Nat) × (Nat → Int32) × (Nat → Int32)) => jb_lay per mem K lv fr la o Pe r u.1 u.2.2) (jb_B dC dI (va_A [(aS, .inr (3, [.ref aN])), (aN, .inl (cI, 3, .inl (jb_now per mem par))), (hL, .inr (2, [.ref aS, .int b, .ref kA, .ref vA, .ref oA, .ref sA, .ref eA, .int (nI n)])), (kA, .inl (cI, 500, .inl K)), (vA, .inl (cI, 500, .inl V)), (oA, .inl (cI, 500, .inl (jb_O o))), (sA, .inl (cI, 500, .inl Sp)), (eA, .inl (cI, 152, .inl Pe))] sz) (fun u => [(aS, .inr (3, [.ref aN])), (aN, .inl (cI, 3, .inl (jb_now per mem par))), (hL, .inr (2, [.ref aS, .int b, .ref kA, .ref vA, .ref oA, .ref sA, .ref eA, .int (nI n)])), (kA, .inl (cI, 500, .inl K)), (vA, .inl (cI, 500, .inl V)), (oA, .inl (cI, 500, .inl (jb_O u.1))), (sA, .inl (cI, 500, .inl u.2.1)), (eA, .inl (cI, 152, .inl u.2.2))])) (va_A [(aS, .inr (3, [.ref aN])), (aN, .inl (cI, 3, .inl (jb_now per mem par))), (hL, .inr (2, [.ref aS, .int b, .ref kA, .ref vA, .ref oA, .ref sA, .ref eA, .int (nI n)])), (kA, .inl (cI, 500, .inl K)), (vA, .inl (cI, 500, .inl V)), (oA, .inl (cI, 500, .inl (jb_O o))), (sA, .inl (cI, 500, .inl Sp)), (eA, .inl (cI, 152, .inl Pe))] sz)) 0 0 (va_A [(aS, .inr (3, [.ref aN])), (aN, .inl (cI, 3, .inl (jb_now per mem par))), (hL, .inr (2, [.ref aS, .int b, .ref kA, .ref vA, .ref oA, .ref sA, .ref eA, .int (nI n)])), (kA, .inl (cI, 500, .inl K)), (vA, .inl (cI, 500, .inl V)), (oA, .inl (cI, 500, .inl (jb_O o))), (sA, .inl (cI, 500, .inl Sp)), (eA, .inl (cI, 152, .inl Pe))] sz) := by
  refine Met.ofW (cc := cX2_layInParts) (maxL := 9) (ret := (some .int)) (by decide) rfl ?_
  intro p e s m args below meth c s₁ B hml hv
  obtain ⟨rfl, hsz, hP, hK, hNw, hD0⟩ := hv
  have hx := B.exec
  have hb := B.bytes
  have hr := B.returns
  have hts := atoms_spec (ws := wsX2_layInParts) B.pre
  have hown : s.vm.findClass RX2 = some m.cls := findClass_of_methodNamed B.named
  have hlocks := B.notSynchronized
  subst hsz
  have hD := hD0.self (sz := s.heap.size)
  generalize hAe : va_A [(aS, .inr (3, [.ref aN])), (aN, .inl (cI, 3, .inl (jb_now per mem par))), (hL, .inr (2, [.ref aS, .int b, .ref kA, .ref vA, .ref oA, .ref sA, .ref eA, .int (nI n)])), (kA, .inl (cI, 500, .inl K)), (vA, .inl (cI, 500, .inl V)), (oA, .inl (cI, 500, .inl (jb_O o))), (sA, .inl (cI, 500, .inl Sp)), (eA, .inl (cI, 152, .inl Pe))] s.heap.size = A at hD ⊢
  have hA : ∀ q : Nat, s.heap.size ≤ q → A q := fun q h => by rw [← hAe]; exact Or.inr h
  have hS : va_S A s.heap s.heap [] := va_S.rf
  have hP : va_P (dC, dI) vwCl [(aS, .inr (3, [.ref aN])), (aN, .inl (cI, 3, .inl (jb_now per mem par))), (hL, .inr (2, [.ref aS, .int b, .ref kA, .ref vA, .ref oA, .ref sA, .ref eA, .int (nI n)])), (kA, .inl (cI, 500, .inl K)), (vA, .inl (cI, 500, .inl V)), (oA, .inl (cI, 500, .inl (jb_O o))), (sA, .inl (cI, 500, .inl Sp)), (eA, .inl (cI, 152, .inl Pe))] s.heap := hP
  have hl := lv_entry ([.ref hL, .int (nI fr), .int (nI (fr + la.length)), .int (nI lv)]) (n := 9) (Nat.le_of_ble_eq_true rfl)
  rw [lg_entry_eq]
  generalize (lg_sl ([.ref hL, .int (nI fr), .int (nI (fr + la.length)), .int (nI lv)]) ++ List.replicate (9 - (lg_sl ([.ref hL, .int (nI fr), .int (nI (fr + la.length)), .int (nI lv)])).length) Slot.unset).toArray = ls at hl ⊢
  have hl : lv_has ls 9 [(0, .ref hL), (1, .int (nI fr)), (2, .int (nI (fr + la.length))), (3, .int (nI lv))] := hl
  refine lv_iload_n hx hb dX2_layInParts_0 rfl (lv_at hl 1 rfl) ?_
  refine lv_if_lt (tgt := 22) hx hb dX2_layInParts_1 (by decide) (fun c_1 => ?_) (fun c_1 => ?_)
  · exact absurd c_1 (nI_pos (by omega))
  · refine lv_iload_n hx hb dX2_layInParts_4 rfl (lv_at hl 2 rfl) ?_
    refine lv_aload_n hx hb dX2_layInParts_5 rfl (lv_at hl 0 rfl) ?_
    refine va_get (D := (dC, dI)) (ci := 2) (v := .int (nI n)) (C := RX2) (T := TX2) (N := 8) hx hb hts iX2_layInParts_X2 hown hK hP 2 rfl rfl 7 (by decide) (hts (.fieldLink RX2 35 "JoinBench$Side" "count" "I") (by decide +kernel)) (fun _ h9 => h9) rfl dX2_layInParts_6 ?_
    refine lv_icmp_gt (tgt := 22) hx hb dX2_layInParts_9 (by decide) (fun c_9 => ?_) (fun c_9 => ?_)
    · exact absurd c_9 (nI_nlt (a := n) (b := fr + la.length) hto (by omega))
    · refine lv_iload_n hx hb dX2_layInParts_12 rfl (lv_at hl 3 rfl) ?_
      refine lv_if_lt (tgt := 22) hx hb dX2_layInParts_13 (by decide) (fun c_13 => ?_) (fun c_13 => ?_)
      · exact absurd c_13 (nI_pos (by omega))
      · refine lv_iload_n hx hb dX2_layInParts_16 rfl (lv_at hl 3 rfl) ?_
        refine lv_bipush (v := 8) hx hb dX2_layInParts_17 (by decide) ?_
        refine lv_icmp_lt (tgt := 24) hx hb dX2_layInParts_19 (by decide) (fun c_19 => ?_) (fun c_19 => ?_)
        · refine lv_iload_n hx hb dX2_layInParts_24 rfl (lv_at hl 1 rfl) ?_
          refine lv_istore (lv' := [(4, .int (nI fr)), (0, .ref hL), (1, .int (nI fr)), (2, .int (nI (fr + la.length))), (3, .int (nI lv))]) hx hb dX2_layInParts_25 hl (by decide) rfl (fun ls hl => ?_)
          have hl_a : ∀ (k_a : Nat) (i : Nat) (Sp1 : Nat → Int32), la.length - i < k_a → (i ≤ la.length) → (∀ t, t < i → Sp1 (fr + t) = nI (jb_pf mem K lv (la.getD t 0) * 512 + la.getD t 0)) → ∀ (H : Heap) (locs : List Loc), va_P (dC, dI) vwCl [(aS, .inr (3, [.ref aN])), (aN, .inl (cI, 3, .inl (jb_now per mem par))), (hL, .inr (2, [.ref aS, .int b, .ref kA, .ref vA, .ref oA, .ref sA, .ref eA, .int (nI n)])), (kA, .inl (cI, 500, .inl K)), (vA, .inl (cI, 500, .inl V)), (oA, .inl (cI, 500, .inl (jb_O o))), (sA, .inl (cI, 500, .inl Sp1)), (eA, .inl (cI, 152, .inl Pe))] H → va_D A [(aS, .inr (3, [.ref aN])), (aN, .inl (cI, 3, .inl (jb_now per mem par))), (hL, .inr (2, [.ref aS, .int b, .ref kA, .ref vA, .ref oA, .ref sA, .ref eA, .int (nI n)])), (kA, .inl (cI, 500, .inl K)), (vA, .inl (cI, 500, .inl V)), (oA, .inl (cI, 500, .inl (jb_O o))), (sA, .inl (cI, 500, .inl Sp1)), (eA, .inl (cI, 152, .inl Pe))] → va_S A s.heap H locs → ∀ ls : Array Slot, lv_has ls 9 [(0, .ref hL), (1, .int (nI fr)), (2, .int (nI (fr + la.length))), (3, .int (nI lv)), (4, .int (nI (fr + i)))] → W p l e ({ frames := 5, cells := 0, slots := 0, locals := 200 } : Room) s m ([.ref hL, .int (nI fr), .int (nI (fr + la.length)), .int (nI lv)] : List Value).toArray below meth c H locs 0 0 (MQ below (va_Qi (fun r (u : (Nat → Nat) × (Nat → Int32) × (Nat → Int32)) => jb_lay per mem K lv fr la o Pe r u.1 u.2.2) (jb_B dC dI A (fun u => [(aS, .inr (3, [.ref aN])), (aN, .inl (cI, 3, .inl (jb_now per mem par))), (hL, .inr (2, [.ref aS, .int b, .ref kA, .ref vA, .ref oA, .ref sA, .ref eA, .int (nI n)])), (kA, .inl (cI, 500, .inl K)), (vA, .inl (cI, 500, .inl V)), (oA, .inl (cI, 500, .inl (jb_O u.1))), (sA, .inl (cI, 500, .inl u.2.1)), (eA, .inl (cI, 152, .inl u.2.2))])) A) ([.ref hL, .int (nI fr), .int (nI (fr + la.length)), .int (nI lv)] : List Value).toArray s 0 0 (A)) (F0 m 27 ls []) := by
            intro k_a
            induction k_a with
            | zero => intro i Sp1 hk; exact absurd hk (Nat.not_lt_zero _)
            | succ k_a ih_a =>
              intro i Sp1 hk_a hi hSp H locs hP hD hS ls hl
              refine lv_iload hx hb dX2_layInParts_27 (lv_at hl 4 rfl) ?_
              refine lv_iload_n hx hb dX2_layInParts_29 rfl (lv_at hl 2 rfl) ?_
              refine lv_icmp_ge (tgt := 71) hx hb dX2_layInParts_30 (by decide) (fun c_30 => ?_) (fun c_30 => ?_)
              · have hge : i = la.length := by have := (nI_leI (a := fr + la.length) (b := fr + i) (by omega) (by omega)).mp c_30; omega
                have hSp : ∀ t, t < la.length → Sp1 (fr + t) = nI (jb_pf mem K lv (la.getD t 0) * 512 + la.getD t 0) := by rw [← hge]; exact hSp
                refine lv_iconst (v := 0) hx hb dX2_layInParts_71 (by decide) ?_
                refine lv_istore (lv' := [(4, .int 0), (0, .ref hL), (1, .int (nI fr)), (2, .int (nI (fr + la.length))), (3, .int (nI lv))]) hx hb dX2_layInParts_72 hl (by decide) rfl (fun ls hl => ?_)
                refine lv_iload_n hx hb dX2_layInParts_74 rfl (lv_at hl 2 rfl) ?_
                refine lv_istore (lv' := [(5, .int (nI fr)), (4, .int 0), (0, .ref hL), (1, .int (nI fr)), (2, .int (nI (fr + la.length))), (3, .int (nI lv))]) hx hb dX2_layInParts_75 hl (by decide) rfl (fun ls hl => ?_)
                refine lv_iconst (v := 0) hx hb dX2_layInParts_77 (by decide) ?_
                refine lv_istore (lv' := [(6, .int 0), (5, .int (nI fr)), (4, .int 0), (0, .ref hL), (1, .int (nI fr)), (2, .int (nI (fr + la.length))), (3, .int (nI lv))]) hx hb dX2_layInParts_78 hl (by decide) rfl (fun ls hl => ?_)
                have hl_b : ∀ (k_b : Nat) (q : Nat) (o1 : Nat → Nat) (Pe1 : Nat → Int32), mem - 1 - q < k_b → (q ≤ mem - 1) → (∀ j, j < fr ∨ fr + la.length ≤ j → o1 j = o j) → (jb_in o1 fr (jb_cat (jb_pf mem K lv) la q)) → (∀ t, t < q → Pe1 (lv * 19 + t) = nI (fr + (jb_cat (jb_pf mem K lv) la (t + 1)).length)) → (∀ j, j < lv * 19 → Pe1 j = Pe j) → ∀ (H : Heap) (locs : List Loc), va_P (dC, dI) vwCl [(aS, .inr (3, [.ref aN])), (aN, .inl (cI, 3, .inl (jb_now per mem par))), (hL, .inr (2, [.ref aS, .int b, .ref kA, .ref vA, .ref oA, .ref sA, .ref eA, .int (nI n)])), (kA, .inl (cI, 500, .inl K)), (vA, .inl (cI, 500, .inl V)), (oA, .inl (cI, 500, .inl (jb_O o1))), (sA, .inl (cI, 500, .inl Sp1)), (eA, .inl (cI, 152, .inl Pe1))] H → va_D A [(aS, .inr (3, [.ref aN])), (aN, .inl (cI, 3, .inl (jb_now per mem par))), (hL, .inr (2, [.ref aS, .int b, .ref kA, .ref vA, .ref oA, .ref sA, .ref eA, .int (nI n)])), (kA, .inl (cI, 500, .inl K)), (vA, .inl (cI, 500, .inl V)), (oA, .inl (cI, 500, .inl (jb_O o1))), (sA, .inl (cI, 500, .inl Sp1)), (eA, .inl (cI, 152, .inl Pe1))] → va_S A s.heap H locs → ∀ ls : Array Slot, lv_has ls 9 [(0, .ref hL), (1, .int (nI fr)), (2, .int (nI (fr + la.length))), (3, .int (nI lv)), (4, .int (nI (jb_pgs per (fun t => (jb_fp (jb_pf mem K lv) la t).length) q))), (5, .int (nI (fr + (jb_cat (jb_pf mem K lv) la q).length))), (6, .int (nI q))] → W p l e ({ frames := 5, cells := 0, slots := 0, locals := 200 } : Room) s m ([.ref hL, .int (nI fr), .int (nI (fr + la.length)), .int (nI lv)] : List Value).toArray below meth c H locs 0 0 (MQ below (va_Qi (fun r (u : (Nat → Nat) × (Nat → Int32) × (Nat → Int32)) => jb_lay per mem K lv fr la o Pe r u.1 u.2.2) (jb_B dC dI A (fun u => [(aS, .inr (3, [.ref aN])), (aN, .inl (cI, 3, .inl (jb_now per mem par))), (hL, .inr (2, [.ref aS, .int b, .ref kA, .ref vA, .ref oA, .ref sA, .ref eA, .int (nI n)])), (kA, .inl (cI, 500, .inl K)), (vA, .inl (cI, 500, .inl V)), (oA, .inl (cI, 500, .inl (jb_O u.1))), (sA, .inl (cI, 500, .inl u.2.1)), (eA, .inl (cI, 152, .inl u.2.2))])) A) ([.ref hL, .int (nI fr), .int (nI (fr + la.length)), .int (nI lv)] : List Value).toArray s 0 0 (A)) (F0 m 80 ls []) := by
                  intro k_b
                  induction k_b with
                  | zero => intro q o1 Pe1 hk; exact absurd hk (Nat.not_lt_zero _)
                  | succ k_b ih_b =>
                    intro q o1 Pe1 hk_b hq hout hcat hPe hPl H locs hP hD hS ls hl
                    refine lv_iload hx hb dX2_layInParts_80 (lv_at hl 6 rfl) ?_
                    refine lv_aload_n hx hb dX2_layInParts_82 rfl (lv_at hl 0 rfl) ?_
                    refine va_get (D := (dC, dI)) (ci := 2) (v := .ref aS) (C := RX2) (T := TX2) (N := 8) hx hb hts iX2_layInParts_X2 hown hK hP 2 rfl rfl 0 (by decide) (hts (.fieldLink RX2 9 "JoinBench$Side" "sizes" "LJoinBench$Sizes;") (by decide +kernel)) (fun _ h9 => h9) rfl dX2_layInParts_83 ?_
                    refine vp_callSi (va_runV (As := []) (rest := [.int (nI q)]) ⟨hx, hb, hml, hown, hts⟩ (c_parts l dC dI cI aS aN per mem par hm) (cwV 0 hts gX2_layInParts_X3_parts rfl rfl rfl (by decide +kernel) ⟨(by decide +kernel), (by decide +kernel)⟩)  ⟨jb_R_blind, va_recv hK hP (ci := 3) (q0 := 0) rfl rfl, jb_R_pre (hP.sub (ws' := [(aS, .inr (3, [.ref aN])), (aN, .inl (cI, 3, .inl (jb_now per mem par)))]) [0, 1] rfl) hK hNw⟩ rfl rfl hl.1 rfl (lv_room (Nat.le_of_ble_eq_true rfl)) dX2_layInParts_86 ⟨by decide +kernel, by decide +kernel⟩).run (fun r_1 hr_1 => ?_)
                    subst hr_1
                    refine lv_icmp_ge (tgt := 190) hx hb dX2_layInParts_89 (by decide) (fun c_89 => ?_) (fun c_89 => ?_)
                    · have hqe : q = mem - 1 := by have := (nI_leI (a := mem - 1) (b := q) (by omega) (by omega)).mp c_89; omega
                      rw [hqe] at hl hcat hPe
                      refine lv_iload hx hb dX2_layInParts_190 (lv_at hl 4 rfl) ?_
                      have hP9 : va_P (dC, dI) vwCl [(aS, .inr (3, [.ref aN])), (aN, .inl (cI, 3, .inl (jb_now per mem par))), (hL, .inr (2, [.ref aS, .int b, .ref kA, .ref vA, .ref oA, .ref sA, .ref eA, .int (nI n)])), (kA, .inl (cI, 500, .inl K)), (vA, .inl (cI, 500, .inl V)), (oA, .inl (cI, 500, .inl (jb_O o1))), (sA, .inl (cI, 500, .inl Sp1)), (eA, .inl (cI, 152, .inl Pe1))] H := hP.sub [0, 1, 2, 3, 4, 5, 6, 7] rfl
                      have hD9 : va_D A [(aS, .inr (3, [.ref aN])), (aN, .inl (cI, 3, .inl (jb_now per mem par))), (hL, .inr (2, [.ref aS, .int b, .ref kA, .ref vA, .ref oA, .ref sA, .ref eA, .int (nI n)])), (kA, .inl (cI, 500, .inl K)), (vA, .inl (cI, 500, .inl V)), (oA, .inl (cI, 500, .inl (jb_O o1))), (sA, .inl (cI, 500, .inl Sp1)), (eA, .inl (cI, 152, .inl Pe1))] := hD.sub [0, 1, 2, 3, 4, 5, 6, 7] (by decide) rfl
                      exact W.iret (v := nI (jb_pgs per (fun t => (jb_fp (jb_pf mem K lv) la t).length) (mem - 1))) hx hb hr (fun t ht hW => ⟨⟨_, (o1, Sp1, Pe1), rfl, ⟨rfl, hout, hcat, hPe, hPl⟩, by rw [ht]; exact hP9, hD9⟩, hS.F ht⟩) hS.2.2 dX2_layInParts_192
                    · have hqlt : q < mem - 1 := (jb_nle (a := mem - 1) (b := q) (by omega) (by omega)).mp c_89
                      refine lv_iload hx hb dX2_layInParts_92 (lv_at hl 5 rfl) ?_
                      refine lv_istore (lv' := [(7, .int (nI (fr + (jb_cat (jb_pf mem K lv) la q).length))), (0, .ref hL), (1, .int (nI fr)), (2, .int (nI (fr + la.length))), (3, .int (nI lv)), (4, .int (nI (jb_pgs per (fun t => (jb_fp (jb_pf mem K lv) la t).length) q))), (5, .int (nI (fr + (jb_cat (jb_pf mem K lv) la q).length))), (6, .int (nI q))]) hx hb dX2_layInParts_94 hl (by decide) rfl (fun ls hl => ?_)
                      refine lv_iload_n hx hb dX2_layInParts_96 rfl (lv_at hl 2 rfl) ?_
                      refine lv_istore (lv' := [(8, .int (nI fr)), (7, .int (nI (fr + (jb_cat (jb_pf mem K lv) la q).length))), (0, .ref hL), (1, .int (nI fr)), (2, .int (nI (fr + la.length))), (3, .int (nI lv)), (4, .int (nI (jb_pgs per (fun t => (jb_fp (jb_pf mem K lv) la t).length) q))), (5, .int (nI (fr + (jb_cat (jb_pf mem K lv) la q).length))), (6, .int (nI q))]) hx hb dX2_layInParts_97 hl (by decide) rfl (fun ls hl => ?_)
                      have e0 : (jb_cat (jb_pf mem K lv) la q ++ jb_fp (jb_pf mem K lv) (la.take 0) q) = jb_cat (jb_pf mem K lv) la q := by rw [jb_fp_take_0, List.append_nil]
                      have hl : lv_has ls 9 [(8, .int (nI fr)), (7, .int (nI (fr + (jb_cat (jb_pf mem K lv) la q).length))), (0, .ref hL), (1, .int (nI fr)), (2, .int (nI (fr + la.length))), (3, .int (nI lv)), (4, .int (nI (jb_pgs per (fun t => (jb_fp (jb_pf mem K lv) la t).length) q))), (5, .int (nI (fr + (jb_cat (jb_pf mem K lv) la q ++ jb_fp (jb_pf mem K lv) (la.take 0) q).length))), (6, .int (nI q))] := by rw [e0]; exact hl
                      have hl_c : ∀ (k_c : Nat) (i : Nat) (o2 : Nat → Nat), la.length - i < k_c → (i ≤ la.length) → (∀ j, j < fr ∨ fr + la.length ≤ j → o2 j = o j) → (jb_in o2 fr (jb_cat (jb_pf mem K lv) la q ++ jb_fp (jb_pf mem K lv) (la.take i) q)) → ∀ (H : Heap) (locs : List Loc), va_P (dC, dI) vwCl [(aS, .inr (3, [.ref aN])), (aN, .inl (cI, 3, .inl (jb_now per mem par))), (hL, .inr (2, [.ref aS, .int b, .ref kA, .ref vA, .ref oA, .ref sA, .ref eA, .int (nI n)])), (kA, .inl (cI, 500, .inl K)), (vA, .inl (cI, 500, .inl V)), (oA, .inl (cI, 500, .inl (jb_O o2))), (sA, .inl (cI, 500, .inl Sp1)), (eA, .inl (cI, 152, .inl Pe1))] H → va_D A [(aS, .inr (3, [.ref aN])), (aN, .inl (cI, 3, .inl (jb_now per mem par))), (hL, .inr (2, [.ref aS, .int b, .ref kA, .ref vA, .ref oA, .ref sA, .ref eA, .int (nI n)])), (kA, .inl (cI, 500, .inl K)), (vA, .inl (cI, 500, .inl V)), (oA, .inl (cI, 500, .inl (jb_O o2))), (sA, .inl (cI, 500, .inl Sp1)), (eA, .inl (cI, 152, .inl Pe1))] → va_S A s.heap H locs → ∀ ls : Array Slot, lv_has ls 9 [(0, .ref hL), (1, .int (nI fr)), (2, .int (nI (fr + la.length))), (3, .int (nI lv)), (4, .int (nI (jb_pgs per (fun t => (jb_fp (jb_pf mem K lv) la t).length) q))), (5, .int (nI (fr + (jb_cat (jb_pf mem K lv) la q ++ jb_fp (jb_pf mem K lv) (la.take i) q).length))), (6, .int (nI q)), (7, .int (nI (fr + (jb_cat (jb_pf mem K lv) la q).length))), (8, .int (nI (fr + i)))] → W p l e ({ frames := 5, cells := 0, slots := 0, locals := 200 } : Room) s m ([.ref hL, .int (nI fr), .int (nI (fr + la.length)), .int (nI lv)] : List Value).toArray below meth c H locs 0 0 (MQ below (va_Qi (fun r (u : (Nat → Nat) × (Nat → Int32) × (Nat → Int32)) => jb_lay per mem K lv fr la o Pe r u.1 u.2.2) (jb_B dC dI A (fun u => [(aS, .inr (3, [.ref aN])), (aN, .inl (cI, 3, .inl (jb_now per mem par))), (hL, .inr (2, [.ref aS, .int b, .ref kA, .ref vA, .ref oA, .ref sA, .ref eA, .int (nI n)])), (kA, .inl (cI, 500, .inl K)), (vA, .inl (cI, 500, .inl V)), (oA, .inl (cI, 500, .inl (jb_O u.1))), (sA, .inl (cI, 500, .inl u.2.1)), (eA, .inl (cI, 152, .inl u.2.2))])) A) ([.ref hL, .int (nI fr), .int (nI (fr + la.length)), .int (nI lv)] : List Value).toArray s 0 0 (A)) (F0 m 99 ls []) := by
                        intro k_c
                        induction k_c with
                        | zero => intro i o2 hk; exact absurd hk (Nat.not_lt_zero _)
                        | succ k_c ih_c =>
                          intro i o2 hk_c hi hout2 hcur H locs hP hD hS ls hl
                          refine lv_iload hx hb dX2_layInParts_99 (lv_at hl 8 rfl) ?_
                          refine lv_iload_n hx hb dX2_layInParts_101 rfl (lv_at hl 2 rfl) ?_
                          refine lv_icmp_ge (tgt := 153) hx hb dX2_layInParts_102 (by decide) (fun c_102 => ?_) (fun c_102 => ?_)
                          · have hge : i = la.length := by have := (nI_leI (a := fr + la.length) (b := fr + i) (by omega) (by omega)).mp c_102; omega
                            have ec : (jb_cat (jb_pf mem K lv) la q ++ jb_fp (jb_pf mem K lv) (la.take i) q) = jb_cat (jb_pf mem K lv) la (q + 1) := by rw [hge, jb_fp_take_all]; rfl
                            rw [ec] at hl hcur
                            refine lv_aload_n hx hb dX2_layInParts_153 rfl (lv_at hl 0 rfl) ?_
                            refine va_get (D := (dC, dI)) (ci := 2) (v := .ref eA) (C := RX2) (T := TX2) (N := 8) hx hb hts iX2_layInParts_X2 hown hK hP 2 rfl rfl 6 (by decide) (hts (.fieldLink RX2 32 "JoinBench$Side" "partEnds" "[I") (by decide +kernel)) (fun _ h9 => h9) rfl dX2_layInParts_154 ?_
                            refine lv_iload_n hx hb dX2_layInParts_157 rfl (lv_at hl 3 rfl) ?_
                            refine lv_bipush (v := 19) hx hb dX2_layInParts_158 (by decide) ?_
                            refine lv_imul hx hb dX2_layInParts_160 ?_
                            refine lv_topi (fun v_2 ev_2 => ?_)
                            have hv_2 : v_2 = nI (lv * 19) := ev_2.trans (jb_nmul lv 19)
                            clear ev_2; subst hv_2
                            refine lv_iload hx hb dX2_layInParts_161 (lv_at hl 6 rfl) ?_
                            refine lv_iadd hx hb dX2_layInParts_163 ?_
                            refine lv_topi (fun v_3 ev_3 => ?_)
                            have hv_3 : v_3 = nI (lv * 19 + q) := ev_3.trans (nI_add (lv * 19) q)
                            clear ev_3; subst hv_3
                            refine lv_iload hx hb dX2_layInParts_164 (lv_at hl 5 rfl) ?_
                            refine va_iast hx hb hK hP hD hS 7 0 rfl rfl (i := nI (lv * 19 + q)) (x := nI (fr + (jb_cat (jb_pf mem K lv) la (q + 1)).length)) (vp_in_nI (n := lv * 19 + q) (by omega) (by decide)) dX2_layInParts_166 (fun H locs hP hD hS => ?_)
                            rw [show (nI (lv * 19 + q) : Int32).toNatClampNeg = (lv * 19 + q) from nI_clamp (by omega)] at hP hD
                            have hP : va_P (dC, dI) vwCl [(aS, .inr (3, [.ref aN])), (aN, .inl (cI, 3, .inl (jb_now per mem par))), (hL, .inr (2, [.ref aS, .int b, .ref kA, .ref vA, .ref oA, .ref sA, .ref eA, .int (nI n)])), (kA, .inl (cI, 500, .inl K)), (vA, .inl (cI, 500, .inl V)), (oA, .inl (cI, 500, .inl (jb_O o2))), (sA, .inl (cI, 500, .inl Sp1)), (eA, .inl (cI, 152, .inl (upd Pe1 (lv * 19 + q) (nI (fr + (jb_cat (jb_pf mem K lv) la (q + 1)).length)))))] H := hP
                            have hD : va_D A [(aS, .inr (3, [.ref aN])), (aN, .inl (cI, 3, .inl (jb_now per mem par))), (hL, .inr (2, [.ref aS, .int b, .ref kA, .ref vA, .ref oA, .ref sA, .ref eA, .int (nI n)])), (kA, .inl (cI, 500, .inl K)), (vA, .inl (cI, 500, .inl V)), (oA, .inl (cI, 500, .inl (jb_O o2))), (sA, .inl (cI, 500, .inl Sp1)), (eA, .inl (cI, 152, .inl (upd Pe1 (lv * 19 + q) (nI (fr + (jb_cat (jb_pf mem K lv) la (q + 1)).length)))))] := hD
                            refine lv_iload hx hb dX2_layInParts_167 (lv_at hl 4 rfl) ?_
                            refine lv_aload_n hx hb dX2_layInParts_169 rfl (lv_at hl 0 rfl) ?_
                            refine va_get (D := (dC, dI)) (ci := 2) (v := .ref aS) (C := RX2) (T := TX2) (N := 8) hx hb hts iX2_layInParts_X2 hown hK hP 2 rfl rfl 0 (by decide) (hts (.fieldLink RX2 9 "JoinBench$Side" "sizes" "LJoinBench$Sizes;") (by decide +kernel)) (fun _ h9 => h9) rfl dX2_layInParts_170 ?_
                            refine lv_iload hx hb dX2_layInParts_173 (lv_at hl 5 rfl) ?_
                            refine lv_iload hx hb dX2_layInParts_175 (lv_at hl 7 rfl) ?_
                            refine lv_isub hx hb dX2_layInParts_177 ?_
                            refine lv_topi (fun v_4 ev_4 => ?_)
                            have hv_4 : v_4 = nI (jb_fp (jb_pf mem K lv) la q).length := ev_4.trans ((pk_sub (by rw [jb_cat, List.length_append]; omega)).trans (congrArg nI (by rw [jb_cat, List.length_append]; omega)))
                            clear ev_4; subst hv_4
                            refine vp_callSi (va_runV (As := [.int (nI (jb_fp (jb_pf mem K lv) la q).length)]) (rest := [.int (nI (jb_pgs per (fun t => (jb_fp (jb_pf mem K lv) la t).length) q))]) ⟨hx, hb, hml, hown, hts⟩ (c_pagesFor l dC dI cI aS aN per mem par (jb_fp (jb_pf mem K lv) la q).length h1 (by have := jb_cat_le (jb_pf mem K lv) la (q + 1); rw [jb_cat, List.length_append] at this; omega) hp) (cwV 1 hts gX2_layInParts_X3_pagesFor rfl rfl rfl (by decide +kernel) ⟨(by decide +kernel), (by decide +kernel)⟩)  ⟨jb_R_blind, va_recv hK hP (ci := 3) (q0 := 0) rfl rfl, jb_R_pre (hP.sub (ws' := [(aS, .inr (3, [.ref aN])), (aN, .inl (cI, 3, .inl (jb_now per mem par)))]) [0, 1] rfl) hK hNw⟩ rfl rfl hl.1 rfl (lv_room (Nat.le_of_ble_eq_true rfl)) dX2_layInParts_178 ⟨by decide +kernel, by decide +kernel⟩).run (fun r_5 hr_5 => ?_)
                            subst hr_5
                            refine lv_iadd hx hb dX2_layInParts_181 ?_
                            refine lv_topi (fun v_6 ev_6 => ?_)
                            have hv_6 : v_6 = nI (jb_pgs per (fun t => (jb_fp (jb_pf mem K lv) la t).length) (q + 1)) := ev_6.trans (nI_add _ _)
                            clear ev_6; subst hv_6
                            refine lv_istore (lv' := [(4, .int (nI (jb_pgs per (fun t => (jb_fp (jb_pf mem K lv) la t).length) (q + 1)))), (0, .ref hL), (1, .int (nI fr)), (2, .int (nI (fr + la.length))), (3, .int (nI lv)), (5, .int (nI (fr + (jb_cat (jb_pf mem K lv) la (q + 1)).length))), (6, .int (nI q)), (7, .int (nI (fr + (jb_cat (jb_pf mem K lv) la q).length))), (8, .int (nI (fr + i)))]) hx hb dX2_layInParts_182 hl (by decide) rfl (fun ls hl => ?_)
                            refine lv_iinc (v := nI (q + 1)) (lv' := [(6, .int (nI (q + 1))), (4, .int (nI (jb_pgs per (fun t => (jb_fp (jb_pf mem K lv) la t).length) (q + 1)))), (0, .ref hL), (1, .int (nI fr)), (2, .int (nI (fr + la.length))), (3, .int (nI lv)), (5, .int (nI (fr + (jb_cat (jb_pf mem K lv) la (q + 1)).length))), (7, .int (nI (fr + (jb_cat (jb_pf mem K lv) la q).length))), (8, .int (nI (fr + i)))]) hx hb dX2_layInParts_184 hl (k := 6) rfl (nI_1 q) (by decide) rfl (fun ls hl => ?_)
                            refine lv_goto (tgt := 80) hx hb dX2_layInParts_187 (by decide) ?_
                            exact ih_b (q + 1) o2 (upd Pe1 (lv * 19 + q) (nI (fr + (jb_cat (jb_pf mem K lv) la (q + 1)).length))) (by omega) (by omega) hout2 hcur (jb_fill_s (g := fun t => nI (fr + (jb_cat (jb_pf mem K lv) la (t + 1)).length)) hPe) (fun j hj => (pk_un (by omega)).trans (hPl j hj)) H locs hP hD hS ls (lv_sub hl [2, 3, 4, 5, 1, 6, 0] rfl)
                          · have hlt : i < la.length := by have := (jb_nle (a := fr + la.length) (b := fr + i) (by omega) (by omega)).mp c_102; omega
                            have hr5 := hb5 _ (jb_getD_mem hlt)
                            have hpf : jb_pf mem K lv (la.getD i 0) < mem - 1 := jb_pf_lt hm
                            refine lv_aload_n hx hb dX2_layInParts_105 rfl (lv_at hl 0 rfl) ?_
                            refine va_get (D := (dC, dI)) (ci := 2) (v := .ref sA) (C := RX2) (T := TX2) (N := 8) hx hb hts iX2_layInParts_X2 hown hK hP 2 rfl rfl 5 (by decide) (hts (.fieldLink RX2 29 "JoinBench$Side" "spare" "[I") (by decide +kernel)) (fun _ h9 => h9) rfl dX2_layInParts_106 ?_
                            refine lv_iload hx hb dX2_layInParts_109 (lv_at hl 8 rfl) ?_
                            refine va_iald hx hb hK hP 6 0 rfl rfl (i := nI (fr + i)) (vp_in_nI (n := fr + i) (by omega) (by decide)) dX2_layInParts_111 ?_
                            refine lv_topi (fun v_7 ev_7 => ?_)
                            have hv_7 : v_7 = nI (jb_pf mem K lv (la.getD i 0) * 512 + la.getD i 0) := ev_7.trans ((congrArg Sp1 (nI_clamp (by omega))).trans (hSp i hlt))
                            clear ev_7; subst hv_7
                            refine lv_bipush (v := 9) hx hb dX2_layInParts_112 (by decide) ?_
                            refine lv_ishr hx hb dX2_layInParts_114 ?_
                            refine lv_topi (fun v_8 ev_8 => ?_)
                            have hv_8 : v_8 = nI (jb_pf mem K lv (la.getD i 0)) := ev_8.trans (jb_unp1 (by omega) (by omega))
                            clear ev_8; subst hv_8
                            refine lv_iload hx hb dX2_layInParts_115 (lv_at hl 6 rfl) ?_
                            refine lv_icmp_ne (tgt := 147) hx hb dX2_layInParts_117 (by decide) (fun c_117 => ?_) (fun c_117 => ?_)
                            · have hne : ¬ jb_pf mem K lv (la.getD i 0) = q := fun h => c_117 (by rw [h])
                              rw [← jb_fp_take_ne hlt hne] at hl hcur
                              refine lv_iinc (v := nI (fr + i + 1)) (lv' := [(8, .int (nI (fr + i + 1))), (0, .ref hL), (1, .int (nI fr)), (2, .int (nI (fr + la.length))), (3, .int (nI lv)), (4, .int (nI (jb_pgs per (fun t => (jb_fp (jb_pf mem K lv) la t).length) q))), (5, .int (nI (fr + (jb_cat (jb_pf mem K lv) la q ++ jb_fp (jb_pf mem K lv) (la.take (i + 1)) q).length))), (6, .int (nI q)), (7, .int (nI (fr + (jb_cat (jb_pf mem K lv) la q).length)))]) hx hb dX2_layInParts_147 hl (k := 8) rfl (nI_1 _) (by decide) rfl (fun ls hl => ?_)
                              refine lv_goto (tgt := 99) hx hb dX2_layInParts_150 (by decide) ?_
                              exact ih_c (i + 1) o2 (by omega) hlt hout2 hcur H locs hP hD hS ls (lv_sub hl [1, 2, 3, 4, 5, 6, 7, 8, 0] rfl)
                            · have heq : jb_pf mem K lv (la.getD i 0) = q := (nI_eq (by omega) (by omega)).mp c_117
                              have hrm := jb_room (f := jb_pf mem K lv) hlt heq
                              refine lv_iload hx hb dX2_layInParts_120 (lv_at hl 5 rfl) ?_
                              refine lv_iload_n hx hb dX2_layInParts_122 rfl (lv_at hl 2 rfl) ?_
                              refine lv_icmp_ge (tgt := 147) hx hb dX2_layInParts_123 (by decide) (fun c_123 => ?_) (fun c_123 => ?_)
                              · exact absurd c_123 (nI_ge (a := fr + (jb_cat (jb_pf mem K lv) la q ++ jb_fp (jb_pf mem K lv) (la.take i) q).length) (b := fr + la.length) (by omega) (by omega))
                              · refine lv_aload_n hx hb dX2_layInParts_126 rfl (lv_at hl 0 rfl) ?_
                                refine va_get (D := (dC, dI)) (ci := 2) (v := .ref oA) (C := RX2) (T := TX2) (N := 8) hx hb hts iX2_layInParts_X2 hown hK hP 2 rfl rfl 4 (by decide) (hts (.fieldLink RX2 26 "JoinBench$Side" "order" "[I") (by decide +kernel)) (fun _ h9 => h9) rfl dX2_layInParts_127 ?_
                                refine lv_iload hx hb dX2_layInParts_130 (lv_at hl 5 rfl) ?_
                                refine lv_aload_n hx hb dX2_layInParts_132 rfl (lv_at hl 0 rfl) ?_
                                refine va_get (D := (dC, dI)) (ci := 2) (v := .ref sA) (C := RX2) (T := TX2) (N := 8) hx hb hts iX2_layInParts_X2 hown hK hP 2 rfl rfl 5 (by decide) (hts (.fieldLink RX2 29 "JoinBench$Side" "spare" "[I") (by decide +kernel)) (fun _ h9 => h9) rfl dX2_layInParts_133 ?_
                                refine lv_iload hx hb dX2_layInParts_136 (lv_at hl 8 rfl) ?_
                                refine va_iald hx hb hK hP 6 0 rfl rfl (i := nI (fr + i)) (vp_in_nI (n := fr + i) (by omega) (by decide)) dX2_layInParts_138 ?_
                                refine lv_topi (fun v_9 ev_9 => ?_)
                                have hv_9 : v_9 = nI (jb_pf mem K lv (la.getD i 0) * 512 + la.getD i 0) := ev_9.trans ((congrArg Sp1 (nI_clamp (by omega))).trans (hSp i hlt))
                                clear ev_9; subst hv_9
                                refine lv_sipush (v := 511) hx hb dX2_layInParts_139 (by decide) ?_
                                refine lv_iand hx hb dX2_layInParts_142 ?_
                                refine lv_topi (fun v_10 ev_10 => ?_)
                                have hv_10 : v_10 = nI (la.getD i 0) := ev_10.trans (jb_unp2 (by omega) (by omega))
                                clear ev_10; subst hv_10
                                refine va_iast hx hb hK hP hD hS 5 0 rfl rfl (i := nI (fr + (jb_cat (jb_pf mem K lv) la q ++ jb_fp (jb_pf mem K lv) (la.take i) q).length)) (x := nI (la.getD i 0)) (vp_in_nI (n := fr + (jb_cat (jb_pf mem K lv) la q ++ jb_fp (jb_pf mem K lv) (la.take i) q).length) (by omega) (by decide)) dX2_layInParts_143 (fun H locs hP hD hS => ?_)
                                rw [show (nI (fr + (jb_cat (jb_pf mem K lv) la q ++ jb_fp (jb_pf mem K lv) (la.take i) q).length) : Int32).toNatClampNeg = (fr + (jb_cat (jb_pf mem K lv) la q ++ jb_fp (jb_pf mem K lv) (la.take i) q).length) from nI_clamp (by omega)] at hP hD
                                have hP : va_P (dC, dI) vwCl [(aS, .inr (3, [.ref aN])), (aN, .inl (cI, 3, .inl (jb_now per mem par))), (hL, .inr (2, [.ref aS, .int b, .ref kA, .ref vA, .ref oA, .ref sA, .ref eA, .int (nI n)])), (kA, .inl (cI, 500, .inl K)), (vA, .inl (cI, 500, .inl V)), (oA, .inl (cI, 500, .inl (upd (jb_O o2) (fr + (jb_cat (jb_pf mem K lv) la q ++ jb_fp (jb_pf mem K lv) (la.take i) q).length) (nI (la.getD i 0))))), (sA, .inl (cI, 500, .inl Sp1)), (eA, .inl (cI, 152, .inl Pe1))] H := hP
                                have hD : va_D A [(aS, .inr (3, [.ref aN])), (aN, .inl (cI, 3, .inl (jb_now per mem par))), (hL, .inr (2, [.ref aS, .int b, .ref kA, .ref vA, .ref oA, .ref sA, .ref eA, .int (nI n)])), (kA, .inl (cI, 500, .inl K)), (vA, .inl (cI, 500, .inl V)), (oA, .inl (cI, 500, .inl (upd (jb_O o2) (fr + (jb_cat (jb_pf mem K lv) la q ++ jb_fp (jb_pf mem K lv) (la.take i) q).length) (nI (la.getD i 0))))), (sA, .inl (cI, 500, .inl Sp1)), (eA, .inl (cI, 152, .inl Pe1))] := hD
                                rw [jb_O_set] at hP hD
                                refine lv_iinc (v := nI (fr + (jb_cat (jb_pf mem K lv) la q ++ jb_fp (jb_pf mem K lv) (la.take (i + 1)) q).length)) (lv' := [(5, .int (nI (fr + (jb_cat (jb_pf mem K lv) la q ++ jb_fp (jb_pf mem K lv) (la.take (i + 1)) q).length))), (0, .ref hL), (1, .int (nI fr)), (2, .int (nI (fr + la.length))), (3, .int (nI lv)), (4, .int (nI (jb_pgs per (fun t => (jb_fp (jb_pf mem K lv) la t).length) q))), (6, .int (nI q)), (7, .int (nI (fr + (jb_cat (jb_pf mem K lv) la q).length))), (8, .int (nI (fr + i)))]) hx hb dX2_layInParts_144 hl (k := 5) rfl ((nI_1 _).trans (congrArg nI (by rw [jb_fp_take_eq hlt heq, ← List.append_assoc, List.length_append (as := (jb_cat (jb_pf mem K lv) la q ++ jb_fp (jb_pf mem K lv) (la.take i) q)), List.length_singleton, Nat.add_assoc]))) (by decide) rfl (fun ls hl => ?_)
                                refine lv_iinc (v := nI (fr + i + 1)) (lv' := [(8, .int (nI (fr + i + 1))), (5, .int (nI (fr + (jb_cat (jb_pf mem K lv) la q ++ jb_fp (jb_pf mem K lv) (la.take (i + 1)) q).length))), (0, .ref hL), (1, .int (nI fr)), (2, .int (nI (fr + la.length))), (3, .int (nI lv)), (4, .int (nI (jb_pgs per (fun t => (jb_fp (jb_pf mem K lv) la t).length) q))), (6, .int (nI q)), (7, .int (nI (fr + (jb_cat (jb_pf mem K lv) la q).length)))]) hx hb dX2_layInParts_147 hl (k := 8) rfl (nI_1 _) (by decide) rfl (fun ls hl => ?_)
                                refine lv_goto (tgt := 99) hx hb dX2_layInParts_150 (by decide) ?_
                                exact ih_c (i + 1) (va_up o2 (fr + (jb_cat (jb_pf mem K lv) la q ++ jb_fp (jb_pf mem K lv) (la.take i) q).length) (la.getD i 0)) (by omega) hlt (fun j hj => (va_up_ne _ _ (by omega)).trans (hout2 j hj)) (by rw [jb_fp_take_eq hlt heq, ← List.append_assoc]; exact jb_in_push hcur) H locs hP hD hS ls (lv_sub hl [2, 3, 4, 5, 6, 1, 7, 8, 0] rfl)
                      exact hl_c (la.length - 0 + 1) 0 o1 (by omega) (Nat.zero_le _) hout (by rw [jb_fp_take_0, List.append_nil]; exact hcat) H locs hP hD hS ls (lv_sub hl [2, 3, 4, 5, 6, 7, 8, 1, 0] rfl)
                exact hl_b (mem - 1 - 0 + 1) 0 o Pe (by omega) (Nat.zero_le _) (fun _ _ => rfl) (jb_in_nil o fr) (fun t h => absurd h (Nat.not_lt_zero t)) (fun _ _ => rfl) H locs hP hD hS ls (lv_sub hl [3, 4, 5, 6, 2, 1, 0] rfl)
              · have hlt : i < la.length := by have := (jb_nle (a := fr + la.length) (b := fr + i) (by omega) (by omega)).mp c_30; omega
                have hr5 := hb5 _ (jb_getD_mem hlt)
                have hpf : jb_pf mem K lv (la.getD i 0) < mem - 1 := jb_pf_lt hm
                refine lv_aload_n hx hb dX2_layInParts_33 rfl (lv_at hl 0 rfl) ?_
                refine va_get (D := (dC, dI)) (ci := 2) (v := .ref sA) (C := RX2) (T := TX2) (N := 8) hx hb hts iX2_layInParts_X2 hown hK hP 2 rfl rfl 5 (by decide) (hts (.fieldLink RX2 29 "JoinBench$Side" "spare" "[I") (by decide +kernel)) (fun _ h9 => h9) rfl dX2_layInParts_34 ?_
                refine lv_iload hx hb dX2_layInParts_37 (lv_at hl 4 rfl) ?_
                refine lv_aload_n hx hb dX2_layInParts_39 rfl (lv_at hl 0 rfl) ?_
                refine va_get (D := (dC, dI)) (ci := 2) (v := .ref aS) (C := RX2) (T := TX2) (N := 8) hx hb hts iX2_layInParts_X2 hown hK hP 2 rfl rfl 0 (by decide) (hts (.fieldLink RX2 9 "JoinBench$Side" "sizes" "LJoinBench$Sizes;") (by decide +kernel)) (fun _ h9 => h9) rfl dX2_layInParts_40 ?_
                refine lv_aload_n hx hb dX2_layInParts_43 rfl (lv_at hl 0 rfl) ?_
                refine lv_iload hx hb dX2_layInParts_44 (lv_at hl 4 rfl) ?_
                refine vp_callSi (va_runV (As := [.int (nI (fr + i))]) (rest := [.ref aS, .int (nI (fr + i)), .ref sA]) ⟨hx, hb, hml, hown, hts⟩ (c_keyAt l dC dI cI hL aS kA vA oA sA eA b K V o Sp1 Pe n (fr + i) (by omega) hn (by rw [hin i hlt]; exact hr5)) (cwV 1 hts gX2_layInParts_X2_keyAt rfl rfl rfl (by decide +kernel) ⟨(by decide +kernel), (by decide +kernel)⟩)  ⟨jb_R_blind, va_recv hK hP (ci := 2) (q0 := 2) rfl rfl, jb_R_pre (hP.sub (ws' := [(hL, .inr (2, [.ref aS, .int b, .ref kA, .ref vA, .ref oA, .ref sA, .ref eA, .int (nI n)])), (kA, .inl (cI, 500, .inl K)), (vA, .inl (cI, 500, .inl V)), (oA, .inl (cI, 500, .inl (jb_O o))), (sA, .inl (cI, 500, .inl Sp1)), (eA, .inl (cI, 152, .inl Pe))]) [2, 3, 4, 5, 6, 7] rfl) hK hNw⟩ rfl rfl hl.1 rfl (lv_room (Nat.le_of_ble_eq_true rfl)) dX2_layInParts_46 ⟨by decide +kernel, by decide +kernel⟩).run (fun r_11 hr_11 => ?_)
                subst hr_11
                refine lv_topi (fun v_12 ev_12 => ?_)
                have hv_12 : v_12 = K (la.getD i 0) := ev_12.trans (congrArg K (hin i hlt))
                clear ev_12; subst hv_12
                refine lv_iload_n hx hb dX2_layInParts_49 rfl (lv_at hl 3 rfl) ?_
                refine vp_callSi (va_runV (As := [.int (K (la.getD i 0)), .int (nI lv)]) (rest := [.int (nI (fr + i)), .ref sA]) ⟨hx, hb, hml, hown, hts⟩ (c_partOf l dC dI cI aS aN per mem par (K (la.getD i 0)) (nI lv) hm hm2) (cwV 2 hts gX2_layInParts_X3_partOf rfl rfl rfl (by decide +kernel) ⟨(by decide +kernel), (by decide +kernel)⟩)  ⟨jb_R_blind, va_recv hK hP (ci := 3) (q0 := 0) rfl rfl, jb_R_pre (hP.sub (ws' := [(aS, .inr (3, [.ref aN])), (aN, .inl (cI, 3, .inl (jb_now per mem par)))]) [0, 1] rfl) hK hNw⟩ rfl rfl hl.1 rfl (lv_room (Nat.le_of_ble_eq_true rfl)) dX2_layInParts_50 ⟨by decide +kernel, by decide +kernel⟩).run (fun r_13 hr_13 => ?_)
                subst hr_13
                refine lv_topi (fun v_14 ev_14 => ?_)
                have hv_14 : v_14 = nI (jb_pf mem K lv (la.getD i 0)) := ev_14.trans (rfl)
                clear ev_14; subst hv_14
                refine lv_bipush (v := 9) hx hb dX2_layInParts_53 (by decide) ?_
                refine lv_ishl hx hb dX2_layInParts_55 ?_
                refine lv_aload_n hx hb dX2_layInParts_56 rfl (lv_at hl 0 rfl) ?_
                refine va_get (D := (dC, dI)) (ci := 2) (v := .ref oA) (C := RX2) (T := TX2) (N := 8) hx hb hts iX2_layInParts_X2 hown hK hP 2 rfl rfl 4 (by decide) (hts (.fieldLink RX2 26 "JoinBench$Side" "order" "[I") (by decide +kernel)) (fun _ h9 => h9) rfl dX2_layInParts_57 ?_
                refine lv_iload hx hb dX2_layInParts_60 (lv_at hl 4 rfl) ?_
                refine va_iald hx hb hK hP 5 0 rfl rfl (i := nI (fr + i)) (vp_in_nI (n := fr + i) (by omega) (by decide)) dX2_layInParts_62 ?_
                refine lv_topi (fun v_15 ev_15 => ?_)
                have hv_15 : v_15 = nI (la.getD i 0) := ev_15.trans ((congrArg (jb_O o) (nI_clamp (by omega))).trans (congrArg nI (hin i hlt)))
                clear ev_15; subst hv_15
                refine lv_ior hx hb dX2_layInParts_63 ?_
                refine lv_topi (fun v_16 ev_16 => ?_)
                have hv_16 : v_16 = nI (jb_pf mem K lv (la.getD i 0) * 512 + la.getD i 0) := ev_16.trans (jb_pack (by omega) (by omega))
                clear ev_16; subst hv_16
                refine va_iast hx hb hK hP hD hS 6 0 rfl rfl (i := nI (fr + i)) (x := nI (jb_pf mem K lv (la.getD i 0) * 512 + la.getD i 0)) (vp_in_nI (n := fr + i) (by omega) (by decide)) dX2_layInParts_64 (fun H locs hP hD hS => ?_)
                rw [show (nI (fr + i) : Int32).toNatClampNeg = (fr + i) from nI_clamp (by omega)] at hP hD
                have hP : va_P (dC, dI) vwCl [(aS, .inr (3, [.ref aN])), (aN, .inl (cI, 3, .inl (jb_now per mem par))), (hL, .inr (2, [.ref aS, .int b, .ref kA, .ref vA, .ref oA, .ref sA, .ref eA, .int (nI n)])), (kA, .inl (cI, 500, .inl K)), (vA, .inl (cI, 500, .inl V)), (oA, .inl (cI, 500, .inl (jb_O o))), (sA, .inl (cI, 500, .inl (upd Sp1 (fr + i) (nI (jb_pf mem K lv (la.getD i 0) * 512 + la.getD i 0))))), (eA, .inl (cI, 152, .inl Pe))] H := hP
                have hD : va_D A [(aS, .inr (3, [.ref aN])), (aN, .inl (cI, 3, .inl (jb_now per mem par))), (hL, .inr (2, [.ref aS, .int b, .ref kA, .ref vA, .ref oA, .ref sA, .ref eA, .int (nI n)])), (kA, .inl (cI, 500, .inl K)), (vA, .inl (cI, 500, .inl V)), (oA, .inl (cI, 500, .inl (jb_O o))), (sA, .inl (cI, 500, .inl (upd Sp1 (fr + i) (nI (jb_pf mem K lv (la.getD i 0) * 512 + la.getD i 0))))), (eA, .inl (cI, 152, .inl Pe))] := hD
                refine lv_iinc (v := nI (fr + i + 1)) (lv' := [(4, .int (nI (fr + i + 1))), (0, .ref hL), (1, .int (nI fr)), (2, .int (nI (fr + la.length))), (3, .int (nI lv))]) hx hb dX2_layInParts_65 hl (k := 4) rfl (nI_1 _) (by decide) rfl (fun ls hl => ?_)
                refine lv_goto (tgt := 27) hx hb dX2_layInParts_68 (by decide) ?_
                exact ih_a (i + 1) (upd Sp1 (fr + i) (nI (jb_pf mem K lv (la.getD i 0) * 512 + la.getD i 0))) (by omega) hlt (jb_fill_s (g := fun t => nI (jb_pf mem K lv (la.getD t 0) * 512 + la.getD t 0)) hSp) H locs hP hD hS ls (lv_sub hl [1, 2, 3, 4, 0] rfl)
          exact hl_a (la.length - 0 + 1) 0 Sp (by omega) (Nat.zero_le _) (fun t h => absurd h (Nat.not_lt_zero t)) s.heap [] hP hD hS ls (lv_sub hl [1, 2, 3, 4, 0] rfl)
        · exact absurd (nI_lt (a := lv) (b := 8) hlv (by decide)) c_19
end
section
/-! THE JOIN as a function of lists: jb_J, over operations on a report; the class's own operations (jc_) -/
/-- pairs that one row b of the other side makes with the held rows, in order -/
def jb_mt (isL : Bool) (kh ko : Nat → Int32) (hs : List Nat) (b : Nat) : List (Nat × Nat) := (hs.filter (fun a => kh a == ko b)).map (fun a => if isL then (a, b) else (b, a))
def jb_meet (isL : Bool) (kh ko : Nat → Int32) (hs os : List Nat) : List (Nat × Nat) := os.flatMap (jb_mt isL kh ko hs)
/-- block number b of the held rows -/
def jb_blk (step : Nat) (hs : List Nat) (b : Nat) : List Nat := (hs.drop (b * step)).take step
/-- how many blocks -/
def jb_nb (step n : Nat) : Nat := (n + step - 1) / step
/-- pairs of the blocks 0 .. k - 1 -/
def jb_bps (isL : Bool) (kh ko : Nat → Int32) (step : Nat) (hs os : List Nat) : Nat → List (Nat × Nat)
  | 0 => []
  | k + 1 => jb_bps isL kh ko step hs os k ++ jb_meet isL kh ko (jb_blk step hs k) os
def jb_one (kL kR : Nat → Int32) (la lb : List Nat) : Bool := la.all (fun r => kL r == kL (la.getD 0 0)) && lb.all (fun r => kR r == kL (la.getD 0 0))
/-- the kind of an event; d: how many levels are left to part -/
def jb_kind (per mem : Nat) (kL kR : Nat → Int32) (d : Nat) (la lb : List Nat) : Nat :=
  if min la.length lb.length = 0 then 0
  else if jb_pg per (min la.length lb.length) ≤ mem - 2 then 1
  else if d = 0 then 2
  else if jb_one kL kR la lb then 2 else 3
/-- pages read by a join by blocks -/
def jb_rd (per mem nl nr : Nat) : Nat := if jb_pg per nl ≤ jb_pg per nr then jb_pg per nl + jb_nb ((mem - 2) * per) nl * jb_pg per nr else jb_pg per nr + jb_nb ((mem - 2) * per) nr * jb_pg per nl
/-- pages of memory that it takes -/
def jb_tk (per mem nl nr : Nat) : Nat := min (mem - 2) (min (jb_pg per nl) (jb_pg per nr)) + 2
/-- its pairs -/
def jb_ps (per mem : Nat) (kL kR : Nat → Int32) (la lb : List Nat) : List (Nat × Nat) :=
  if jb_pg per la.length ≤ jb_pg per lb.length then jb_bps true kL kR ((mem - 2) * per) la lb (jb_nb ((mem - 2) * per) la.length)
  else jb_bps false kR kL ((mem - 2) * per) lb la (jb_nb ((mem - 2) * per) lb.length)
/-- pages of part p of both -/
def jb_pp (per : Nat) (fa fb : Nat → Nat) (la lb : List Nat) (p : Nat) : Nat := jb_pg per (jb_fp fa la p).length + jb_pg per (jb_fp fb lb p).length
/-- pages of all parts of both -/
def jb_ww (per : Nat) (fa fb : Nat → Nat) (la lb : List Nat) (P : Nat) : Nat := jb_pgs per (fun t => (jb_fp fa la t).length) P + jb_pgs per (fun t => (jb_fp fb lb t).length) P
section JBJ
variable {ρ : Type} (opN : Nat → Nat → Nat → ρ → ρ) (opL : Nat → Nat → Nat → Nat → Nat → Nat → List (Nat × Nat) → ρ → ρ) (opS : Nat → Nat → Nat → Nat → Nat → Nat → ρ → ρ) (opF : Nat → ρ → ρ)
/-- nothing to part: kinds 0, 1, 2 -/
def jb_leaf (per mem : Nat) (kL kR : Nat → Int32) (kd lv : Nat) (la lb : List Nat) (x : ρ) : ρ :=
  if kd = 0 then opN lv la.length lb.length x
  else opL kd lv la.length lb.length (jb_rd per mem la.length lb.length) (jb_tk per mem la.length lb.length) (jb_ps per mem kL kR la lb) x
def jb_J (per mem : Nat) (kL kR : Nat → Int32) : Nat → Nat → List Nat → List Nat → ρ → ρ
  | 0, lv, la, lb, x => jb_leaf opN opL per mem kL kR (jb_kind per mem kL kR 0 la lb) lv la lb x
  | d + 1, lv, la, lb, x =>
    if jb_kind per mem kL kR (d + 1) la lb = 3 then
      (List.range (mem - 1)).foldl (fun y p => opF (jb_pp per (jb_pf mem kL lv) (jb_pf mem kR lv) la lb p) (jb_J per mem kL kR d (lv + 1) (jb_fp (jb_pf mem kL lv) la p) (jb_fp (jb_pf mem kR lv) lb p) y))
        (opS lv la.length lb.length (jb_pg per la.length + jb_pg per lb.length) mem (jb_ww per (jb_pf mem kL lv) (jb_pf mem kR lv) la lb (mem - 1)) x)
    else jb_leaf opN opL per mem kL kR (jb_kind per mem kL kR (d + 1) la lb) lv la lb x
end JBJ
-- the class's report: figures, events, pairs, on the disk
abbrev jbR : Type := (Nat → Int32) × (Nat → Int32) × (Nat → Int32) × Int32
def jc_ev (kd lv nl nr rd : Nat) (x : jbR) : jbR := (jb_evF x.1 kd (nI lv) (nI rd), jb_evE x.2.1 (x.1 5).toNatClampNeg (nI kd) (nI lv) (nI nl) (nI nr) (nI rd), x.2.2.1, x.2.2.2)
def jc_mem (t : Nat) (x : jbR) : jbR := (upd x.1 2 (if x.1 2 < nI t then nI t else x.1 2), x.2.1, x.2.2.1, x.2.2.2)
def jc_pair (x : jbR) (q : Nat × Nat) : jbR := (upd x.1 10 (x.1 10 + 1), x.2.1, jb_adP x.2.2.1 (x.1 10).toNatClampNeg (nI q.1) (nI q.2), x.2.2.2)
def jc_pairs (ps : List (Nat × Nat)) (x : jbR) : jbR := ps.foldl jc_pair x
def jc_wr (w : Nat) (x : jbR) : jbR := (jb_wdF x.1 x.2.2.2 (nI w), x.2.1, x.2.2.1, x.2.2.2 + nI w)
def jc_fr (w : Nat) (x : jbR) : jbR := (x.1, x.2.1, x.2.2.1, x.2.2.2 - nI w)
def jcN (lv nl nr : Nat) (x : jbR) : jbR := jc_ev 0 lv nl nr 0 x
def jcL (kd lv nl nr rd tk : Nat) (ps : List (Nat × Nat)) (x : jbR) : jbR := jc_ev kd lv nl nr rd (jc_pairs ps (jc_mem tk x))
def jcS (lv nl nr rd tk w : Nat) (x : jbR) : jbR := jc_wr w (jc_mem tk (jc_ev 3 lv nl nr rd x))
/-- the join, on the class's report -/
def jc_J (per mem : Nat) (kL kR : Nat → Int32) : Nat → Nat → List Nat → List Nat → jbR → jbR := jb_J jcN jcL jcS jc_fr per mem kL kR
/-- parts 0 .. p - 1, each joined and taken off the disk -/
def jc_Jp (per mem : Nat) (kL kR : Nat → Int32) (d lv : Nat) (la lb : List Nat) (x : jbR) (p : Nat) : jbR :=
  (List.range p).foldl (fun y p => jc_fr (jb_pp per (jb_pf mem kL lv) (jb_pf mem kR lv) la lb p) (jc_J per mem kL kR d (lv + 1) (jb_fp (jb_pf mem kL lv) la p) (jb_fp (jb_pf mem kR lv) lb p) y)) x
theorem jc_Jp_0 (per mem : Nat) (kL kR : Nat → Int32) (d lv : Nat) (la lb : List Nat) (x : jbR) : jc_Jp per mem kL kR d lv la lb x 0 = x := rfl
theorem jc_Jp_s (per mem : Nat) (kL kR : Nat → Int32) (d lv : Nat) (la lb : List Nat) (x : jbR) (p : Nat) : jc_Jp per mem kL kR d lv la lb x (p + 1) = jc_fr (jb_pp per (jb_pf mem kL lv) (jb_pf mem kR lv) la lb p) (jc_J per mem kL kR d (lv + 1) (jb_fp (jb_pf mem kL lv) la p) (jb_fp (jb_pf mem kR lv) lb p) (jc_Jp per mem kL kR d lv la lb x p)) := by
  unfold jc_Jp
  rw [List.range_succ, List.foldl_append]
  rfl
theorem jc_J_part {per mem : Nat} {kL kR : Nat → Int32} {d lv : Nat} {la lb : List Nat} (h : jb_kind per mem kL kR (d + 1) la lb = 3) (x : jbR) : jc_J per mem kL kR (d + 1) lv la lb x = jc_Jp per mem kL kR d lv la lb (jcS lv la.length lb.length (jb_pg per la.length + jb_pg per lb.length) mem (jb_ww per (jb_pf mem kL lv) (jb_pf mem kR lv) la lb (mem - 1)) x) (mem - 1) := by
  unfold jc_J
  rw [jb_J, if_pos h]
  rfl
theorem jc_J_leaf {per mem : Nat} {kL kR : Nat → Int32} {d lv : Nat} {la lb : List Nat} (h : ¬ jb_kind per mem kL kR d la lb = 3) (x : jbR) : jc_J per mem kL kR d lv la lb x = jb_leaf jcN jcL per mem kL kR (jb_kind per mem kL kR d la lb) lv la lb x := by
  unfold jc_J
  cases d with
  | zero => rw [jb_J]
  | succ d => rw [jb_J, if_neg h]
theorem jb_kind_0 {per mem : Nat} {kL kR : Nat → Int32} {la lb : List Nat} : ¬ jb_kind per mem kL kR 0 la lb = 3 := by
  unfold jb_kind
  split
  · decide
  · split
    · decide
    · simp
theorem jb_kind_lt {per mem d : Nat} {kL kR : Nat → Int32} {la lb : List Nat} : jb_kind per mem kL kR d la lb < 4 := by
  unfold jb_kind
  split
  · decide
  · split
    · decide
    · split
      · decide
      · split <;> decide
-- how many pairs and events there are
theorem jc_pairs_app (xs ys : List (Nat × Nat)) (x : jbR) : jc_pairs (xs ++ ys) x = jc_pairs ys (jc_pairs xs x) := List.foldl_append
theorem jc_pairs_snoc (xs : List (Nat × Nat)) (q : Nat × Nat) (x : jbR) : jc_pairs (xs ++ [q]) x = jc_pair (jc_pairs xs x) q := by rw [jc_pairs_app]; rfl
theorem jc_pairs_n {np : Nat} : ∀ (ps : List (Nat × Nat)) {x : jbR}, x.1 10 = nI np → (jc_pairs ps x).1 10 = nI (np + ps.length) := by
  intro ps
  induction ps generalizing np with
  | nil => intro x h; exact h
  | cons q l ih =>
    intro x h
    have h1 : (jc_pair x q).1 10 = nI (np + 1) := by
      show upd x.1 10 (x.1 10 + 1) 10 = _
      rw [pk_us, h, nI_1]
    have h2 := ih (np := np + 1) (x := jc_pair x q) h1
    rw [List.length_cons, show np + (l.length + 1) = np + 1 + l.length by omega]
    exact h2
theorem jc_pairs_5 : ∀ (ps : List (Nat × Nat)) (x : jbR), (jc_pairs ps x).1 5 = x.1 5 := by
  intro ps
  induction ps with
  | nil => intro x; rfl
  | cons q l ih =>
    intro x
    show (jc_pairs l (jc_pair x q)).1 5 = _
    rw [ih]
    show upd x.1 10 (x.1 10 + 1) 5 = x.1 5
    exact pk_un (by decide)
theorem jc_mem_o {t : Nat} {x : jbR} {j : Nat} (h : j ≠ 2) : (jc_mem t x).1 j = x.1 j := pk_un (k := 2) h
theorem jc_wr_o {w : Nat} {x : jbR} {j : Nat} (h1 : j ≠ 1) (h3 : j ≠ 3) : (jc_wr w x).1 j = x.1 j := by
  show jb_wdF x.1 x.2.2.2 (nI w) j = x.1 j
  simp only [jb_wdF]
  rw [pk_un h3, pk_un h1]
theorem jc_ev_n {kd lv nl nr rd : Nat} (x : jbR) (hk : kd < 4) : (jc_ev kd lv nl nr rd x).1 10 = x.1 10 := by
  show jb_evF x.1 kd (nI lv) (nI rd) 10 = _
  simp only [jb_evF]
  rw [pk_un (by decide), pk_un (by decide), pk_un (by omega), pk_un (by decide)]
theorem jc_ev_5 {kd lv nl nr rd ev : Nat} {x : jbR} (hk : kd < 4) (h : x.1 5 = nI ev) : (jc_ev kd lv nl nr rd x).1 5 = nI (ev + 1) := by
  show jb_evF x.1 kd (nI lv) (nI rd) 5 = _
  simp only [jb_evF]
  rw [pk_un (by decide), pk_un (by decide), pk_un (by omega), pk_us, h, nI_1]
theorem jb_mt_len (isL : Bool) (kh ko : Nat → Int32) (hs : List Nat) (b : Nat) : (jb_mt isL kh ko hs b).length ≤ hs.length := by
  unfold jb_mt
  rw [List.length_map]
  exact List.length_filter_le _ _
theorem jb_meet_len (isL : Bool) (kh ko : Nat → Int32) (hs os : List Nat) : (jb_meet isL kh ko hs os).length ≤ hs.length * os.length := by
  unfold jb_meet
  induction os with
  | nil => simp
  | cons b l ih =>
    rw [List.flatMap_cons, List.length_append, List.length_cons, Nat.mul_succ]
    have := jb_mt_len isL kh ko hs b
    omega
theorem jb_blk_cat (step : Nat) (hs : List Nat) : ∀ k, hs.take (k * step) ++ jb_blk step hs k = hs.take ((k + 1) * step) := by
  intro k
  unfold jb_blk
  rw [Nat.succ_mul, List.take_add]
theorem jb_bps_len (isL : Bool) (kh ko : Nat → Int32) (step : Nat) (hs os : List Nat) : ∀ k, (jb_bps isL kh ko step hs os k).length ≤ (hs.take (k * step)).length * os.length := by
  intro k
  induction k with
  | zero => simp [jb_bps]
  | succ k ih =>
    rw [jb_bps, List.length_append, ← jb_blk_cat, List.length_append, Nat.add_mul]
    have := jb_meet_len isL kh ko (jb_blk step hs k) os
    omega
theorem jb_bps_le (isL : Bool) (kh ko : Nat → Int32) (step : Nat) (hs os : List Nat) (k : Nat) : (jb_bps isL kh ko step hs os k).length ≤ hs.length * os.length := by
  refine Nat.le_trans (jb_bps_len isL kh ko step hs os k) (Nat.mul_le_mul_right _ ?_)
  exact List.length_take_le' _ _
theorem jb_ps_le (per mem : Nat) (kL kR : Nat → Int32) (la lb : List Nat) : (jb_ps per mem kL kR la lb).length ≤ la.length * lb.length := by
  unfold jb_ps
  split
  · exact jb_bps_le _ _ _ _ _ _ _
  · rw [Nat.mul_comm la.length]; exact jb_bps_le _ _ _ _ _ _ _
/-- np pairs and ev events are counted -/
def jb_cn (x : jbR) (np ev : Nat) : Prop := x.1 10 = nI np ∧ x.1 5 = nI ev
theorem jc_leaf_cn {per mem kd lv : Nat} {kL kR : Nat → Int32} {la lb : List Nat} {x : jbR} {np ev : Nat} (hk : kd < 4) (h : jb_cn x np ev) : ∃ np', jb_cn (jb_leaf jcN jcL per mem kL kR kd lv la lb x) np' (ev + 1) ∧ np' ≤ np + la.length * lb.length := by
  unfold jb_leaf
  split
  · exact ⟨np, ⟨(jc_ev_n x (by decide)).trans h.1, jc_ev_5 (by decide) h.2⟩, by omega⟩
  · refine ⟨np + (jb_ps per mem kL kR la lb).length, ⟨?_, ?_⟩, ?_⟩
    · refine (jc_ev_n _ hk).trans (jc_pairs_n _ ?_)
      exact (jc_mem_o (by decide)).trans h.1
    · refine jc_ev_5 hk ?_
      rw [jc_pairs_5]
      exact (jc_mem_o (by decide)).trans h.2
    · have := jb_ps_le per mem kL kR la lb
      omega
theorem jcS_cn {lv nl nr rd tk w : Nat} {x : jbR} {np ev : Nat} (h : jb_cn x np ev) : jb_cn (jcS lv nl nr rd tk w x) np (ev + 1) := by
  have e10 : (jcS lv nl nr rd tk w x).1 10 = x.1 10 := by
    exact (jc_wr_o (by decide) (by decide)).trans ((jc_mem_o (by decide)).trans (jc_ev_n x (by decide)))
  have e5 : (jcS lv nl nr rd tk w x).1 5 = (jc_ev 3 lv nl nr rd x).1 5 := by
    exact (jc_wr_o (by decide) (by decide)).trans (jc_mem_o (by decide))
  exact ⟨e10.trans h.1, e5.trans (jc_ev_5 (by decide) h.2)⟩
theorem jb_mulb {a b c e : Nat} (h1 : a + b ≤ c) : a * e + b * e ≤ c * e := by rw [← Nat.add_mul]; exact Nat.mul_le_mul_right e h1
theorem jc_J_cn {per mem : Nat} {kL kR : Nat → Int32} (hm2 : mem ≤ 20) : ∀ (d lv : Nat) (la lb : List Nat) (x : jbR) (np ev : Nat), jb_cn x np ev → ∃ np' ev', jb_cn (jc_J per mem kL kR d lv la lb x) np' ev' ∧ np' ≤ np + la.length * lb.length ∧ ev' ≤ ev + (1 + 19 * (la.length * d)) := by
  intro d
  induction d with
  | zero =>
    intro lv la lb x np ev h
    rw [jc_J_leaf jb_kind_0]
    obtain ⟨np', h1, h2⟩ := jc_leaf_cn (per := per) (mem := mem) (lv := lv) (kL := kL) (kR := kR) (la := la) (lb := lb) jb_kind_lt h
    exact ⟨np', ev + 1, h1, h2, by omega⟩
  | succ d ih =>
    intro lv la lb x np ev h
    by_cases hk : jb_kind per mem kL kR (d + 1) la lb = 3
    · rw [jc_J_part hk]
      have h0 := jcS_cn (lv := lv) (nl := la.length) (nr := lb.length) (rd := jb_pg per la.length + jb_pg per lb.length) (tk := mem) (w := jb_ww per (jb_pf mem kL lv) (jb_pf mem kR lv) la lb (mem - 1)) h
      generalize jcS lv la.length lb.length (jb_pg per la.length + jb_pg per lb.length) mem (jb_ww per (jb_pf mem kL lv) (jb_pf mem kR lv) la lb (mem - 1)) x = x0 at h0
      have key : ∀ p, ∃ np' ev', jb_cn (jc_Jp per mem kL kR d lv la lb x0 p) np' ev' ∧ np' ≤ np + (jb_cat (jb_pf mem kL lv) la p).length * lb.length ∧ ev' ≤ ev + 1 + p + 19 * ((jb_cat (jb_pf mem kL lv) la p).length * d) := by
        intro p
        induction p with
        | zero => exact ⟨np, ev + 1, h0, by omega, by omega⟩
        | succ p ih2 =>
          obtain ⟨n1, e1, c1, b1, b2⟩ := ih2
          rw [jc_Jp_s]
          obtain ⟨n2, e2, c2, b3, b4⟩ := ih (lv + 1) (jb_fp (jb_pf mem kL lv) la p) (jb_fp (jb_pf mem kR lv) lb p) _ n1 e1 c1
          refine ⟨n2, e2, c2, ?_, ?_⟩
          · rw [jb_cat, List.length_append, Nat.add_mul]
            have h5 : (jb_fp (jb_pf mem kL lv) la p).length * (jb_fp (jb_pf mem kR lv) lb p).length ≤ (jb_fp (jb_pf mem kL lv) la p).length * lb.length := Nat.mul_le_mul_left _ (List.length_filter_le _ _)
            omega
          · rw [jb_cat, List.length_append, Nat.add_mul]
            omega
      obtain ⟨n1, e1, c1, b1, b2⟩ := key (mem - 1)
      have hl := jb_cat_le (jb_pf mem kL lv) la (mem - 1)
      have hpos : 1 ≤ la.length := by
        rcases Nat.eq_zero_or_pos la.length with hz | hz
        · exfalso
          unfold jb_kind at hk
          rw [if_pos (by omega)] at hk
          omega
        · exact hz
      refine ⟨n1, e1, c1, ?_, ?_⟩
      · have := Nat.mul_le_mul_right lb.length hl
        omega
      · have h7 := Nat.mul_le_mul_right d hl
        rw [Nat.mul_succ]
        omega
    · rw [jc_J_leaf hk]
      obtain ⟨np', h1, h2⟩ := jc_leaf_cn (per := per) (mem := mem) (lv := lv) (kL := kL) (kR := kR) (la := la) (lb := lb) jb_kind_lt h
      exact ⟨np', ev + 1, h1, h2, by omega⟩
end
section
/-! the class JoinBench$Joiner (X0): kindOf, matchRows, passBlocks, joinBlocks -/
theorem jb_imin {a b : Nat} (ha : a < 1000000) (hb : b < 1000000) : (if nI b < nI a then nI b else nI a) = nI (min a b) := by
  by_cases h : b < a
  · rw [if_pos ((nI_ltI (by omega) (by omega)).mpr h), Nat.min_eq_right (by omega)]
  · rw [if_neg (fun q => h ((nI_ltI (by omega) (by omega)).mp q)), Nat.min_eq_left (by omega)]
theorem jb_k0 {per mem d : Nat} {kL kR : Nat → Int32} {la lb : List Nat} (h : min la.length lb.length = 0) : jb_kind per mem kL kR d la lb = 0 := if_pos h
theorem jb_k1 {per mem d : Nat} {kL kR : Nat → Int32} {la lb : List Nat} (h : ¬ min la.length lb.length = 0) (h1 : jb_pg per (min la.length lb.length) ≤ mem - 2) : jb_kind per mem kL kR d la lb = 1 := by
  unfold jb_kind; rw [if_neg h, if_pos h1]
theorem jb_k2 {per mem d : Nat} {kL kR : Nat → Int32} {la lb : List Nat} (h : ¬ min la.length lb.length = 0) (h1 : ¬ jb_pg per (min la.length lb.length) ≤ mem - 2) (hd : d = 0) : jb_kind per mem kL kR d la lb = 2 := by
  unfold jb_kind; rw [if_neg h, if_neg h1, if_pos hd]
theorem jb_k2b {per mem d : Nat} {kL kR : Nat → Int32} {la lb : List Nat} (h : ¬ min la.length lb.length = 0) (h1 : ¬ jb_pg per (min la.length lb.length) ≤ mem - 2) (hd : ¬ d = 0) (ho : jb_one kL kR la lb = true) : jb_kind per mem kL kR d la lb = 2 := by
  unfold jb_kind; rw [if_neg h, if_neg h1, if_neg hd, if_pos ho]
theorem jb_k3 {per mem d : Nat} {kL kR : Nat → Int32} {la lb : List Nat} (h : ¬ min la.length lb.length = 0) (h1 : ¬ jb_pg per (min la.length lb.length) ≤ mem - 2) (hd : ¬ d = 0) (ho : ¬ jb_one kL kR la lb = true) : jb_kind per mem kL kR d la lb = 3 := by
  unfold jb_kind; rw [if_neg h, if_neg h1, if_neg hd, if_neg ho]
theorem jb_onlyR_t {K : Nat → Int32} {k : Int32} {l : List Nat} (h : ¬ jb_onlyR K k l = 0) : l.all (fun r => K r == k) = true := by
  unfold jb_onlyR at h
  split at h
  · assumption
  · exact absurd rfl h
theorem jb_onlyR_f {K : Nat → Int32} {k : Int32} {l : List Nat} (h : jb_onlyR K k l = 0) : ¬ l.all (fun r => K r == k) = true := by
  unfold jb_onlyR at h
  split at h
  · exact absurd h (by decide)
  · assumption
theorem jb_mt_0 (isL : Bool) (kh ko : Nat → Int32) (hs : List Nat) (b : Nat) : jb_mt isL kh ko (hs.take 0) b = [] := by simp [jb_mt]
theorem jb_mt_eq {isL : Bool} {kh ko : Nat → Int32} {hs : List Nat} {b j : Nat} (h : j < hs.length) (hk : kh (hs.getD j 0) = ko b) : jb_mt isL kh ko (hs.take (j + 1)) b = jb_mt isL kh ko (hs.take j) b ++ [if isL then (hs.getD j 0, b) else (b, hs.getD j 0)] := by
  unfold jb_mt
  rw [jb_take hs h, List.filter_append, List.map_append]
  simp only [List.filter_cons, List.filter_nil, hk, beq_self_eq_true, if_true, List.map_cons, List.map_nil]
theorem jb_mt_ne {isL : Bool} {kh ko : Nat → Int32} {hs : List Nat} {b j : Nat} (h : j < hs.length) (hk : ¬ kh (hs.getD j 0) = ko b) : jb_mt isL kh ko (hs.take (j + 1)) b = jb_mt isL kh ko (hs.take j) b := by
  have hb : (kh (hs.getD j 0) == ko b) = false := by simpa using hk
  unfold jb_mt
  rw [jb_take hs h, List.filter_append, List.map_append]
  simp only [List.filter_cons, List.filter_nil, hb, Bool.false_eq_true, if_false, List.map_nil, List.append_nil]
theorem jb_mt_eqT {kh ko : Nat → Int32} {hs : List Nat} {b j : Nat} (h : j < hs.length) (hk : kh (hs.getD j 0) = ko b) : jb_mt true kh ko (hs.take (j + 1)) b = jb_mt true kh ko (hs.take j) b ++ [(hs.getD j 0, b)] := jb_mt_eq h hk
theorem jb_mt_eqF {kh ko : Nat → Int32} {hs : List Nat} {b j : Nat} (h : j < hs.length) (hk : kh (hs.getD j 0) = ko b) : jb_mt false kh ko (hs.take (j + 1)) b = jb_mt false kh ko (hs.take j) b ++ [(b, hs.getD j 0)] := jb_mt_eq h hk
theorem jb_meet_0 (isL : Bool) (kh ko : Nat → Int32) (hs os : List Nat) : jb_meet isL kh ko hs (os.take 0) = [] := by simp [jb_meet]
theorem jb_meet_s {isL : Bool} {kh ko : Nat → Int32} {hs os : List Nat} {i : Nat} (h : i < os.length) : jb_meet isL kh ko hs (os.take i) ++ jb_mt isL kh ko hs (os.getD i 0) = jb_meet isL kh ko hs (os.take (i + 1)) := by
  unfold jb_meet
  rw [jb_take os h, List.flatMap_append]
  simp
theorem jb_X_le {isL : Bool} {kh ko : Nat → Int32} {hs os : List Nat} {i j b : Nat} (h : i < os.length) : (jb_meet isL kh ko hs (os.take i) ++ jb_mt isL kh ko (hs.take j) b).length ≤ hs.length * os.length := by
  rw [List.length_append]
  have h1 := jb_meet_len isL kh ko hs (os.take i)
  have h2 := jb_mt_len isL kh ko (hs.take j) b
  have h3 : (os.take i).length = i := by rw [List.length_take]; omega
  have h4 : (hs.take j).length ≤ hs.length := List.length_take_le' _ _
  rw [h3] at h1
  have h5 : hs.length * (i + 1) ≤ hs.length * os.length := Nat.mul_le_mul_left _ h
  rw [Nat.mul_succ] at h5
  omega
theorem jb_nb_lt {step n b : Nat} (hs : 1 ≤ step) : b < jb_nb step n ↔ b * step < n := by
  unfold jb_nb
  rw [Nat.lt_iff_add_one_le, Nat.le_div_iff_mul_le (by omega), Nat.succ_mul]
  omega
theorem jb_blk_in {o : Nat → Nat} {fr step b : Nat} {hs : List Nat} (h : jb_in o fr hs) : jb_in o (fr + b * step) (jb_blk step hs b) := by
  intro i hi
  have hl : (jb_blk step hs b).length = min step (hs.length - b * step) := by
    unfold jb_blk; rw [List.length_take, List.length_drop]
  rw [hl] at hi
  have h1 := h (b * step + i) (by omega)
  rw [Nat.add_assoc, h1]
  unfold jb_blk
  simp only [List.getD, List.getElem?_take, List.getElem?_drop]
  rw [if_pos (by omega)]
theorem jb_blk_len (step b : Nat) (hs : List Nat) : (jb_blk step hs b).length = min step (hs.length - b * step) := by
  unfold jb_blk; rw [List.length_take, List.length_drop]
theorem jb_blk_mem {step b r : Nat} {hs : List Nat} (h : r ∈ jb_blk step hs b) : r ∈ hs := List.mem_of_mem_drop (List.mem_of_mem_take h)
theorem jb_bps_b {isL : Bool} {kh ko : Nat → Int32} {step : Nat} {hs os : List Nat} {b : Nat} : (jb_bps isL kh ko step hs os b).length + (jb_blk step hs b).length * os.length ≤ hs.length * os.length := by
  have h1 := jb_bps_len isL kh ko step hs os b
  have h2 := congrArg List.length (jb_blk_cat step hs b)
  rw [List.length_append] at h2
  have h3 : (hs.take ((b + 1) * step)).length ≤ hs.length := List.length_take_le' _ _
  have h4 := Nat.mul_le_mul_right os.length (show (hs.take (b * step)).length + (jb_blk step hs b).length ≤ hs.length by omega)
  rw [Nat.add_mul] at h4
  omega
theorem iX0_kindOf_X0 : ∀ w ∈ wsX00, w ∈ wsX0_kindOf := by decide +kernel
set_option maxHeartbeats 1000000 in
set_option maxRecDepth 100000 in
/-- Joiner.kindOf -/
theorem c_kindOf (l : Launch) (dC : Nat → ClassId) (dI : Nat → Nat → Nat) (cI : ClassId) (hJ aS aN hR hF hE hQ hL kA vA oA sA eA gL kB vB oB sB eB per mem par : Nat) (K V : Nat → Int32) (o : Nat → Nat) (Sp Pe : Nat → Int32) (n : Nat) (KK VV : Nat → Int32) (oo : Nat → Nat) (Sq Pf : Nat → Int32) (nn : Nat) (la lb : List Nat) (lf rf lv : Nat) (hin : jb_in o lf la) (hin2 : jb_in oo rf lb) (hb5 : ∀ r ∈ la, r < 500) (hb6 : ∀ r ∈ lb, r < 500) (hto : lf + la.length ≤ n) (hto2 : rf + lb.length ≤ nn) (hn : n ≤ 500) (hn2 : nn ≤ 500) (h1 : 1 ≤ per) (hp : per ≤ 16) (hm : 3 ≤ mem) (hm2 : mem ≤ 20) (hpar : par ≤ 8) (hlv : lv ≤ par) : Met l yX0_kindOf wsX0_kindOf ({ frames := 3, cells := 0, slots := 0, locals := 120 } : Room) (va_Pc [.ref hJ, .int (nI lf), .int (nI (lf + la.length)), .int (nI rf), .int (nI (rf + lb.length)), .int (nI lv)] (jb_R dC dI cI [(hJ, .inr (0, [.ref aS, .ref hR, .ref hL, .ref gL])), (aS, .inr (3, [.ref aN])), (aN, .inl (cI, 3, .inl (jb_now per mem par))), (hL, .inr (2, [.ref aS, .int 1, .ref kA, .ref vA, .ref oA, .ref sA, .ref eA, .int (nI n)])), (kA, .inl (cI, 500, .inl K)), (vA, .inl (cI, 500, .inl V)), (oA, .inl (cI, 500, .inl (jb_O o))), (sA, .inl (cI, 500, .inl Sp)), (eA, .inl (cI, 152, .inl Pe)), (gL, .inr (2, [.ref aS, .int 0, .ref kB, .ref vB, .ref oB, .ref sB, .ref eB, .int (nI nn)])), (kB, .inl (cI, 500, .inl KK)), (vB, .inl (cI, 500, .inl VV)), (oB, .inl (cI, 500, .inl (jb_O oo))), (sB, .inl (cI, 500, .inl Sq)), (eB, .inl (cI, 152, .inl Pf))])) (vp_Si (fun r => r = nI (jb_kind per mem K KK (par - lv) la lb))) 0 0 (fun _ => False) := by
  refine Met.ofW (cc := cX0_kindOf) (maxL := 9) (ret := (some .int)) (by decide) rfl ?_
  intro p e s m args below meth c s₁ B hml hv
  obtain ⟨rfl, hP, hK, hNw⟩ := hv
  have hx := B.exec
  have hb := B.bytes
  have hr := B.returns
  have hts := atoms_spec (ws := wsX0_kindOf) B.pre
  have hown : s.vm.findClass RX0 = some m.cls := findClass_of_methodNamed B.named
  have hlocks := B.notSynchronized
  have hl := lv_entry ([.ref hJ, .int (nI lf), .int (nI (lf + la.length)), .int (nI rf), .int (nI (rf + lb.length)), .int (nI lv)]) (n := 9) (Nat.le_of_ble_eq_true rfl)
  rw [lg_entry_eq]
  generalize (lg_sl ([.ref hJ, .int (nI lf), .int (nI (lf + la.length)), .int (nI rf), .int (nI (rf + lb.length)), .int (nI lv)]) ++ List.replicate (9 - (lg_sl ([.ref hJ, .int (nI lf), .int (nI (lf + la.length)), .int (nI rf), .int (nI (rf + lb.length)), .int (nI lv)])).length) Slot.unset).toArray = ls at hl ⊢
  have hl : lv_has ls 9 [(0, .ref hJ), (1, .int (nI lf)), (2, .int (nI (lf + la.length))), (3, .int (nI rf)), (4, .int (nI (rf + lb.length))), (5, .int (nI lv))] := hl
  refine lv_iload_n hx hb dX0_kindOf_0 rfl (lv_at hl 2 rfl) ?_
  refine lv_iload_n hx hb dX0_kindOf_1 rfl (lv_at hl 1 rfl) ?_
  refine lv_isub hx hb dX0_kindOf_2 ?_
  refine lv_topi (fun v_1 ev_1 => ?_)
  have hv_1 : v_1 = nI la.length := ev_1.trans ((pk_sub (by omega)).trans (congrArg nI (by omega)))
  clear ev_1; subst hv_1
  refine lv_iload hx hb dX0_kindOf_3 (lv_at hl 4 rfl) ?_
  refine lv_iload_n hx hb dX0_kindOf_5 rfl (lv_at hl 3 rfl) ?_
  refine lv_isub hx hb dX0_kindOf_6 ?_
  refine lv_topi (fun v_2 ev_2 => ?_)
  have hv_2 : v_2 = nI lb.length := ev_2.trans ((pk_sub (by omega)).trans (congrArg nI (by omega)))
  clear ev_2; subst hv_2
  refine va_mmin hx hb (by rw [hml]; exact hl.1.symm) hown (hts (.methodLink RX0 62 Lib.Math.min.name) (by decide +kernel)) (hts (.static Lib.Math.min.name) (by decide +kernel)) (hts (.initialized "java/lang/Math") (by decide +kernel)) (hts (.code Lib.Math.min.name Lib.Math.min.code 2 (some .int)) (by decide +kernel)) (by decide +kernel) (Nat.le_of_ble_eq_true rfl) (Nat.zero_le _) (Nat.zero_le _) dX0_kindOf_7 ?_
  refine lv_topi (fun v_3 ev_3 => ?_)
  have hv_3 : v_3 = nI (min la.length lb.length) := ev_3.trans (jb_imin (by omega) (by omega))
  clear ev_3; subst hv_3
  refine lv_istore (lv' := [(6, .int (nI (min la.length lb.length))), (0, .ref hJ), (1, .int (nI lf)), (2, .int (nI (lf + la.length))), (3, .int (nI rf)), (4, .int (nI (rf + lb.length))), (5, .int (nI lv))]) hx hb dX0_kindOf_10 hl (by decide) rfl (fun ls hl => ?_)
  refine lv_iload hx hb dX0_kindOf_12 (lv_at hl 0 rfl) ?_
  refine lv_if_gt (tgt := 19) hx hb dX0_kindOf_14 (by decide) (fun c_14 => ?_) (fun c_14 => ?_)
  · have h0 : ¬ min la.length lb.length = 0 := by have := (nI_ltI (a := 0) (b := min la.length lb.length) (by omega) (by omega)).mp c_14; omega
    refine lv_aload_n hx hb dX0_kindOf_19 rfl (lv_at hl 1 rfl) ?_
    refine va_get (D := (dC, dI)) (ci := 0) (v := .ref aS) (C := RX0) (T := TX0) (N := 4) hx hb hts iX0_kindOf_X0 hown hK hP 0 rfl rfl 0 (by decide) (hts (.fieldLink RX0 9 "JoinBench$Joiner" "sizes" "LJoinBench$Sizes;") (by decide +kernel)) (fun _ h9 => h9) rfl dX0_kindOf_20 ?_
    refine lv_iload hx hb dX0_kindOf_23 (lv_at hl 0 rfl) ?_
    refine vp_callSi (va_runV (As := [.int (nI (min la.length lb.length))]) (rest := []) ⟨hx, hb, hml, hown, hts⟩ (c_pagesFor l dC dI cI aS aN per mem par (min la.length lb.length) h1 (by omega) hp) (cwV 1 hts gX0_kindOf_X3_pagesFor rfl rfl rfl (by decide +kernel) ⟨(by decide +kernel), (by decide +kernel)⟩)  ⟨jb_R_blind, va_recv hK hP (ci := 3) (q0 := 1) rfl rfl, jb_R_pre (hP.sub (ws' := [(aS, .inr (3, [.ref aN])), (aN, .inl (cI, 3, .inl (jb_now per mem par)))]) [1, 2] rfl) hK hNw⟩ rfl rfl hl.1 rfl (lv_room (Nat.le_of_ble_eq_true rfl)) dX0_kindOf_25 ⟨by decide +kernel, by decide +kernel⟩).run (fun r_4 hr_4 => ?_)
    subst hr_4
    refine lv_aload_n hx hb dX0_kindOf_28 rfl (lv_at hl 1 rfl) ?_
    refine va_get (D := (dC, dI)) (ci := 0) (v := .ref aS) (C := RX0) (T := TX0) (N := 4) hx hb hts iX0_kindOf_X0 hown hK hP 0 rfl rfl 0 (by decide) (hts (.fieldLink RX0 9 "JoinBench$Joiner" "sizes" "LJoinBench$Sizes;") (by decide +kernel)) (fun _ h9 => h9) rfl dX0_kindOf_29 ?_
    refine vp_callSi (va_runV (As := []) (rest := [.int (nI (jb_pg per (min la.length lb.length)))]) ⟨hx, hb, hml, hown, hts⟩ (c_blockPages l dC dI cI aS aN per mem par hm) (cwV 0 hts gX0_kindOf_X3_blockPages rfl rfl rfl (by decide +kernel) ⟨(by decide +kernel), (by decide +kernel)⟩)  ⟨jb_R_blind, va_recv hK hP (ci := 3) (q0 := 1) rfl rfl, jb_R_pre (hP.sub (ws' := [(aS, .inr (3, [.ref aN])), (aN, .inl (cI, 3, .inl (jb_now per mem par)))]) [1, 2] rfl) hK hNw⟩ rfl rfl hl.1 rfl (lv_room (Nat.le_of_ble_eq_true rfl)) dX0_kindOf_32 ⟨by decide +kernel, by decide +kernel⟩).run (fun r_5 hr_5 => ?_)
    subst hr_5
    refine lv_icmp_gt (tgt := 40) hx hb dX0_kindOf_35 (by decide) (fun c_35 => ?_) (fun c_35 => ?_)
    · have hpgb : jb_pg per (min la.length lb.length) ≤ min la.length lb.length := jb_pg_le h1
      have hg : ¬ jb_pg per (min la.length lb.length) ≤ mem - 2 := by have := (nI_ltI (a := mem - 2) (b := jb_pg per (min la.length lb.length)) (by omega) (by omega)).mp c_35; omega
      refine lv_iload hx hb dX0_kindOf_40 (lv_at hl 6 rfl) ?_
      refine lv_aload_n hx hb dX0_kindOf_42 rfl (lv_at hl 1 rfl) ?_
      refine va_get (D := (dC, dI)) (ci := 0) (v := .ref aS) (C := RX0) (T := TX0) (N := 4) hx hb hts iX0_kindOf_X0 hown hK hP 0 rfl rfl 0 (by decide) (hts (.fieldLink RX0 9 "JoinBench$Joiner" "sizes" "LJoinBench$Sizes;") (by decide +kernel)) (fun _ h9 => h9) rfl dX0_kindOf_43 ?_
      refine vp_callSi (va_runV (As := []) (rest := [.int (nI lv)]) ⟨hx, hb, hml, hown, hts⟩ (c_partings l dC dI cI aS aN per mem par) (cwV 0 hts gX0_kindOf_X3_partings rfl rfl rfl (by decide +kernel) ⟨(by decide +kernel), (by decide +kernel)⟩)  ⟨jb_R_blind, va_recv hK hP (ci := 3) (q0 := 1) rfl rfl, jb_R_pre (hP.sub (ws' := [(aS, .inr (3, [.ref aN])), (aN, .inl (cI, 3, .inl (jb_now per mem par)))]) [1, 2] rfl) hK hNw⟩ rfl rfl hl.1 rfl (lv_room (Nat.le_of_ble_eq_true rfl)) dX0_kindOf_46 ⟨by decide +kernel, by decide +kernel⟩).run (fun r_6 hr_6 => ?_)
      subst hr_6
      refine lv_icmp_lt (tgt := 54) hx hb dX0_kindOf_49 (by decide) (fun c_49 => ?_) (fun c_49 => ?_)
      · have hd : ¬ par - lv = 0 := by have := (nI_ltI (a := lv) (b := par) (by omega) (by omega)).mp c_49; omega
        refine lv_aload_n hx hb dX0_kindOf_54 rfl (lv_at hl 1 rfl) ?_
        refine va_get (D := (dC, dI)) (ci := 0) (v := .ref hL) (C := RX0) (T := TX0) (N := 4) hx hb hts iX0_kindOf_X0 hown hK hP 0 rfl rfl 2 (by decide) (hts (.fieldLink RX0 24 "JoinBench$Joiner" "left" "LJoinBench$Side;") (by decide +kernel)) (fun _ h9 => h9) rfl dX0_kindOf_55 ?_
        refine lv_iload_n hx hb dX0_kindOf_58 rfl (lv_at hl 2 rfl) ?_
        refine vp_callSi (va_runV (As := [.int (nI lf)]) (rest := []) ⟨hx, hb, hml, hown, hts⟩ (c_keyAt l dC dI cI hL aS kA vA oA sA eA 1 K V o Sp Pe n lf (by omega) hn (by rw [show o lf = la.getD 0 0 from hin 0 (by omega)]; exact hb5 _ (jb_getD_mem (by omega)))) (cwV 1 hts gX0_kindOf_X2_keyAt rfl rfl rfl (by decide +kernel) ⟨(by decide +kernel), (by decide +kernel)⟩)  ⟨jb_R_blind, va_recv hK hP (ci := 2) (q0 := 3) rfl rfl, jb_R_pre (hP.sub (ws' := [(hL, .inr (2, [.ref aS, .int 1, .ref kA, .ref vA, .ref oA, .ref sA, .ref eA, .int (nI n)])), (kA, .inl (cI, 500, .inl K)), (vA, .inl (cI, 500, .inl V)), (oA, .inl (cI, 500, .inl (jb_O o))), (sA, .inl (cI, 500, .inl Sp)), (eA, .inl (cI, 152, .inl Pe))]) [3, 4, 5, 6, 7, 8] rfl) hK hNw⟩ rfl rfl hl.1 rfl (lv_room (Nat.le_of_ble_eq_true rfl)) dX0_kindOf_59 ⟨by decide +kernel, by decide +kernel⟩).run (fun r_7 hr_7 => ?_)
        subst hr_7
        refine lv_topi (fun v_8 ev_8 => ?_)
        have hv_8 : v_8 = K (la.getD 0 0) := ev_8.trans (congrArg K (hin 0 (by omega)))
        clear ev_8; subst hv_8
        refine lv_istore (lv' := [(7, .int (K (la.getD 0 0))), (6, .int (nI (min la.length lb.length))), (0, .ref hJ), (1, .int (nI lf)), (2, .int (nI (lf + la.length))), (3, .int (nI rf)), (4, .int (nI (rf + lb.length))), (5, .int (nI lv))]) hx hb dX0_kindOf_62 hl (by decide) rfl (fun ls hl => ?_)
        refine lv_aload_n hx hb dX0_kindOf_64 rfl (lv_at hl 2 rfl) ?_
        refine va_get (D := (dC, dI)) (ci := 0) (v := .ref hL) (C := RX0) (T := TX0) (N := 4) hx hb hts iX0_kindOf_X0 hown hK hP 0 rfl rfl 2 (by decide) (hts (.fieldLink RX0 24 "JoinBench$Joiner" "left" "LJoinBench$Side;") (by decide +kernel)) (fun _ h9 => h9) rfl dX0_kindOf_65 ?_
        refine lv_iload hx hb dX0_kindOf_68 (lv_at hl 0 rfl) ?_
        refine lv_iload_n hx hb dX0_kindOf_70 rfl (lv_at hl 3 rfl) ?_
        refine lv_iload_n hx hb dX0_kindOf_71 rfl (lv_at hl 4 rfl) ?_
        refine vp_callSi (va_runV (As := [.int (K (la.getD 0 0)), .int (nI lf), .int (nI (lf + la.length))]) (rest := []) ⟨hx, hb, hml, hown, hts⟩ (c_hasOnlyKey l dC dI cI hL aS kA vA oA sA eA 1 K V o Sp Pe n (K (la.getD 0 0)) lf la hin hb5 hto hn) (cwV 3 hts gX0_kindOf_X2_hasOnlyKey rfl rfl rfl (by decide +kernel) ⟨(by decide +kernel), (by decide +kernel)⟩)  ⟨jb_R_blind, va_recv hK hP (ci := 2) (q0 := 3) rfl rfl, jb_R_pre (hP.sub (ws' := [(hL, .inr (2, [.ref aS, .int 1, .ref kA, .ref vA, .ref oA, .ref sA, .ref eA, .int (nI n)])), (kA, .inl (cI, 500, .inl K)), (vA, .inl (cI, 500, .inl V)), (oA, .inl (cI, 500, .inl (jb_O o))), (sA, .inl (cI, 500, .inl Sp)), (eA, .inl (cI, 152, .inl Pe))]) [3, 4, 5, 6, 7, 8] rfl) hK hNw⟩ rfl rfl hl.1 rfl (lv_room (Nat.le_of_ble_eq_true rfl)) dX0_kindOf_72 ⟨by decide +kernel, by decide +kernel⟩).run (fun r_9 hr_9 => ?_)
        subst hr_9
        refine lv_if_eq (tgt := 97) hx hb dX0_kindOf_75 (by decide) (fun c_75 => ?_) (fun c_75 => ?_)
        · have ho : ¬ jb_one K KK la lb = true := fun h => jb_onlyR_f c_75 (Bool.and_eq_true _ _ ▸ h).1
          refine lv_iconst (v := 0) hx hb dX0_kindOf_97 (by decide) ?_
          refine lv_istore (lv' := [(8, .int 0), (7, .int (K (la.getD 0 0))), (6, .int (nI (min la.length lb.length))), (0, .ref hJ), (1, .int (nI lf)), (2, .int (nI (lf + la.length))), (3, .int (nI rf)), (4, .int (nI (rf + lb.length))), (5, .int (nI lv))]) hx hb dX0_kindOf_98 hl (by decide) rfl (fun ls hl => ?_)
          refine lv_iload hx hb dX0_kindOf_100 (lv_at hl 0 rfl) ?_
          refine lv_if_eq (tgt := 109) hx hb dX0_kindOf_102 (by decide) (fun c_102 => ?_) (fun c_102 => ?_)
          · refine lv_iconst (v := 3) hx hb dX0_kindOf_109 (by decide) ?_
            exact W.iret (v := 3) hx hb hr (fun t ht hW => ⟨_, rfl, by rw [jb_k3 h0 hg hd ho]; rfl, ht⟩) (fun _ h => by cases h) dX0_kindOf_110
          · exact absurd rfl c_102
        · refine lv_aload_n hx hb dX0_kindOf_78 rfl (lv_at hl 2 rfl) ?_
          refine va_get (D := (dC, dI)) (ci := 0) (v := .ref gL) (C := RX0) (T := TX0) (N := 4) hx hb hts iX0_kindOf_X0 hown hK hP 0 rfl rfl 3 (by decide) (hts (.fieldLink RX0 28 "JoinBench$Joiner" "right" "LJoinBench$Side;") (by decide +kernel)) (fun _ h9 => h9) rfl dX0_kindOf_79 ?_
          refine lv_iload hx hb dX0_kindOf_82 (lv_at hl 0 rfl) ?_
          refine lv_iload_n hx hb dX0_kindOf_84 rfl (lv_at hl 5 rfl) ?_
          refine lv_iload hx hb dX0_kindOf_85 (lv_at hl 6 rfl) ?_
          refine vp_callSi (va_runV (As := [.int (K (la.getD 0 0)), .int (nI rf), .int (nI (rf + lb.length))]) (rest := []) ⟨hx, hb, hml, hown, hts⟩ (c_hasOnlyKey l dC dI cI gL aS kB vB oB sB eB 0 KK VV oo Sq Pf nn (K (la.getD 0 0)) rf lb hin2 hb6 hto2 hn2) (cwV 3 hts gX0_kindOf_X2_hasOnlyKey rfl rfl rfl (by decide +kernel) ⟨(by decide +kernel), (by decide +kernel)⟩)  ⟨jb_R_blind, va_recv hK hP (ci := 2) (q0 := 9) rfl rfl, jb_R_pre (hP.sub (ws' := [(gL, .inr (2, [.ref aS, .int 0, .ref kB, .ref vB, .ref oB, .ref sB, .ref eB, .int (nI nn)])), (kB, .inl (cI, 500, .inl KK)), (vB, .inl (cI, 500, .inl VV)), (oB, .inl (cI, 500, .inl (jb_O oo))), (sB, .inl (cI, 500, .inl Sq)), (eB, .inl (cI, 152, .inl Pf))]) [9, 10, 11, 12, 13, 14] rfl) hK hNw⟩ rfl rfl hl.1 rfl (lv_room (Nat.le_of_ble_eq_true rfl)) dX0_kindOf_87 ⟨by decide +kernel, by decide +kernel⟩).run (fun r_10 hr_10 => ?_)
          subst hr_10
          refine lv_if_eq (tgt := 97) hx hb dX0_kindOf_90 (by decide) (fun c_90 => ?_) (fun c_90 => ?_)
          · have ho : ¬ jb_one K KK la lb = true := fun h => jb_onlyR_f c_90 (Bool.and_eq_true _ _ ▸ h).2
            refine lv_iconst (v := 0) hx hb dX0_kindOf_97 (by decide) ?_
            refine lv_istore (lv' := [(8, .int 0), (7, .int (K (la.getD 0 0))), (6, .int (nI (min la.length lb.length))), (0, .ref hJ), (1, .int (nI lf)), (2, .int (nI (lf + la.length))), (3, .int (nI rf)), (4, .int (nI (rf + lb.length))), (5, .int (nI lv))]) hx hb dX0_kindOf_98 hl (by decide) rfl (fun ls hl => ?_)
            refine lv_iload hx hb dX0_kindOf_100 (lv_at hl 0 rfl) ?_
            refine lv_if_eq (tgt := 109) hx hb dX0_kindOf_102 (by decide) (fun c_102 => ?_) (fun c_102 => ?_)
            · refine lv_iconst (v := 3) hx hb dX0_kindOf_109 (by decide) ?_
              exact W.iret (v := 3) hx hb hr (fun t ht hW => ⟨_, rfl, by rw [jb_k3 h0 hg hd ho]; rfl, ht⟩) (fun _ h => by cases h) dX0_kindOf_110
            · exact absurd rfl c_102
          · have ho : jb_one K KK la lb = true := by unfold jb_one; rw [jb_onlyR_t c_75, jb_onlyR_t c_90]; rfl
            refine lv_iconst (v := 1) hx hb dX0_kindOf_93 (by decide) ?_
            refine lv_goto (tgt := 98) hx hb dX0_kindOf_94 (by decide) ?_
            refine lv_istore (lv' := [(8, .int 1), (7, .int (K (la.getD 0 0))), (6, .int (nI (min la.length lb.length))), (0, .ref hJ), (1, .int (nI lf)), (2, .int (nI (lf + la.length))), (3, .int (nI rf)), (4, .int (nI (rf + lb.length))), (5, .int (nI lv))]) hx hb dX0_kindOf_98 hl (by decide) rfl (fun ls hl => ?_)
            refine lv_iload hx hb dX0_kindOf_100 (lv_at hl 0 rfl) ?_
            refine lv_if_eq (tgt := 109) hx hb dX0_kindOf_102 (by decide) (fun c_102 => ?_) (fun c_102 => ?_)
            · exact absurd c_102 (by decide)
            · refine lv_iconst (v := 2) hx hb dX0_kindOf_105 (by decide) ?_
              refine lv_goto (tgt := 110) hx hb dX0_kindOf_106 (by decide) ?_
              exact W.iret (v := 2) hx hb hr (fun t ht hW => ⟨_, rfl, by rw [jb_k2b h0 hg hd ho]; rfl, ht⟩) (fun _ h => by cases h) dX0_kindOf_110
      · have hd : par - lv = 0 := by have := (jb_nlt (a := lv) (b := par) (by omega) (by omega)).mp c_49; omega
        refine lv_iconst (v := 2) hx hb dX0_kindOf_52 (by decide) ?_
        exact W.iret (v := 2) hx hb hr (fun t ht hW => ⟨_, rfl, by rw [jb_k2 h0 hg hd]; rfl, ht⟩) (fun _ h => by cases h) dX0_kindOf_53
    · have hpgb : jb_pg per (min la.length lb.length) ≤ min la.length lb.length := jb_pg_le h1
      have hg : jb_pg per (min la.length lb.length) ≤ mem - 2 := by have := (jb_nlt (a := mem - 2) (b := jb_pg per (min la.length lb.length)) (by omega) (by omega)).mp c_35; omega
      refine lv_iconst (v := 1) hx hb dX0_kindOf_38 (by decide) ?_
      exact W.iret (v := 1) hx hb hr (fun t ht hW => ⟨_, rfl, by rw [jb_k1 h0 hg]; rfl, ht⟩) (fun _ h => by cases h) dX0_kindOf_39
  · have h0 : min la.length lb.length = 0 := by have := (jb_nlt (a := 0) (b := min la.length lb.length) (by omega) (by omega)).mp c_14; omega
    refine lv_iconst (v := 0) hx hb dX0_kindOf_17 (by decide) ?_
    exact W.iret (v := 0) hx hb hr (fun t ht hW => ⟨_, rfl, by rw [jb_k0 h0]; rfl, ht⟩) (fun _ h => by cases h) dX0_kindOf_18
theorem iX0_matchRows_X0 : ∀ w ∈ wsX00, w ∈ wsX0_matchRows := by decide +kernel
theorem iX0_matchRows_X2 : ∀ w ∈ wsX20, w ∈ wsX0_matchRows := by decide +kernel
set_option maxHeartbeats 1000000 in
set_option maxRecDepth 100000 in
/-- Joiner.matchRows, the held side is LEFT -/
theorem c_matchL (l : Launch) (dC : Nat → ClassId) (dI : Nat → Nat → Nat) (cI : ClassId) (sz : Nat) (hJ aS aN hR hF hE hQ hL kA vA oA sA eA gL kB vB oB sB eB per mem par : Nat) (K V : Nat → Int32) (o : Nat → Nat) (Sp Pe : Nat → Int32) (n : Nat) (KK VV : Nat → Int32) (oo : Nat → Nat) (Sq Pf : Nat → Int32) (nn : Nat) (x : jbR) (hs os : List Nat) (hf of np : Nat) (hin : jb_in o hf hs) (hin2 : jb_in oo of os) (hb5 : ∀ r ∈ hs, r < 500) (hb6 : ∀ r ∈ os, r < 500) (hto : hf + hs.length ≤ n) (hto2 : of + os.length ≤ nn) (hn : n ≤ 500) (hn2 : nn ≤ 500) (hnp : x.1 10 = nI np) (hbd : np + hs.length * os.length < 1000000) : Met l yX0_matchRows wsX0_matchRows ({ frames := 2, cells := 0, slots := 0, locals := 80 } : Room) (va_Pc [.ref hJ, .ref hL, .int (nI hf), .int (nI (hf + hs.length)), .ref gL, .int (nI of), .int (nI (of + os.length))] (jb_M dC dI cI sz [(hJ, .inr (0, [.ref aS, .ref hR, .ref hL, .ref gL])), (hR, .inr (1, [.ref hF, .ref hE, .ref hQ, .int x.2.2.2])), (hF, .inl (cI, 11, .inl x.1)), (hE, .inl (cI, 1500, .inl x.2.1)), (hQ, .inl (cI, 4000, .inl x.2.2.1)), (hL, .inr (2, [.ref aS, .int 1, .ref kA, .ref vA, .ref oA, .ref sA, .ref eA, .int (nI n)])), (kA, .inl (cI, 500, .inl K)), (vA, .inl (cI, 500, .inl V)), (oA, .inl (cI, 500, .inl (jb_O o))), (sA, .inl (cI, 500, .inl Sp)), (eA, .inl (cI, 152, .inl Pe)), (gL, .inr (2, [.ref aS, .int 0, .ref kB, .ref vB, .ref oB, .ref sB, .ref eB, .int (nI nn)])), (kB, .inl (cI, 500, .inl KK)), (vB, .inl (cI, 500, .inl VV)), (oB, .inl (cI, 500, .inl (jb_O oo))), (sB, .inl (cI, 500, .inl Sq)), (eB, .inl (cI, 152, .inl Pf))])) (va_Qv (fun (_ : Unit) => True) (jb_B dC dI (va_A [(hJ, .inr (0, [.ref aS, .ref hR, .ref hL, .ref gL])), (hR, .inr (1, [.ref hF, .ref hE, .ref hQ, .int x.2.2.2])), (hF, .inl (cI, 11, .inl x.1)), (hE, .inl (cI, 1500, .inl x.2.1)), (hQ, .inl (cI, 4000, .inl x.2.2.1)), (hL, .inr (2, [.ref aS, .int 1, .ref kA, .ref vA, .ref oA, .ref sA, .ref eA, .int (nI n)])), (kA, .inl (cI, 500, .inl K)), (vA, .inl (cI, 500, .inl V)), (oA, .inl (cI, 500, .inl (jb_O o))), (sA, .inl (cI, 500, .inl Sp)), (eA, .inl (cI, 152, .inl Pe)), (gL, .inr (2, [.ref aS, .int 0, .ref kB, .ref vB, .ref oB, .ref sB, .ref eB, .int (nI nn)])), (kB, .inl (cI, 500, .inl KK)), (vB, .inl (cI, 500, .inl VV)), (oB, .inl (cI, 500, .inl (jb_O oo))), (sB, .inl (cI, 500, .inl Sq)), (eB, .inl (cI, 152, .inl Pf))] sz) (fun _ => [(hJ, .inr (0, [.ref aS, .ref hR, .ref hL, .ref gL])), (hR, .inr (1, [.ref hF, .ref hE, .ref hQ, .int ((jc_pairs (jb_meet true K KK hs os) x).2.2.2)])), (hF, .inl (cI, 11, .inl ((jc_pairs (jb_meet true K KK hs os) x).1))), (hE, .inl (cI, 1500, .inl ((jc_pairs (jb_meet true K KK hs os) x).2.1))), (hQ, .inl (cI, 4000, .inl ((jc_pairs (jb_meet true K KK hs os) x).2.2.1))), (hL, .inr (2, [.ref aS, .int 1, .ref kA, .ref vA, .ref oA, .ref sA, .ref eA, .int (nI n)])), (kA, .inl (cI, 500, .inl K)), (vA, .inl (cI, 500, .inl V)), (oA, .inl (cI, 500, .inl (jb_O o))), (sA, .inl (cI, 500, .inl Sp)), (eA, .inl (cI, 152, .inl Pe)), (gL, .inr (2, [.ref aS, .int 0, .ref kB, .ref vB, .ref oB, .ref sB, .ref eB, .int (nI nn)])), (kB, .inl (cI, 500, .inl KK)), (vB, .inl (cI, 500, .inl VV)), (oB, .inl (cI, 500, .inl (jb_O oo))), (sB, .inl (cI, 500, .inl Sq)), (eB, .inl (cI, 152, .inl Pf))])) (va_A [(hJ, .inr (0, [.ref aS, .ref hR, .ref hL, .ref gL])), (hR, .inr (1, [.ref hF, .ref hE, .ref hQ, .int x.2.2.2])), (hF, .inl (cI, 11, .inl x.1)), (hE, .inl (cI, 1500, .inl x.2.1)), (hQ, .inl (cI, 4000, .inl x.2.2.1)), (hL, .inr (2, [.ref aS, .int 1, .ref kA, .ref vA, .ref oA, .ref sA, .ref eA, .int (nI n)])), (kA, .inl (cI, 500, .inl K)), (vA, .inl (cI, 500, .inl V)), (oA, .inl (cI, 500, .inl (jb_O o))), (sA, .inl (cI, 500, .inl Sp)), (eA, .inl (cI, 152, .inl Pe)), (gL, .inr (2, [.ref aS, .int 0, .ref kB, .ref vB, .ref oB, .ref sB, .ref eB, .int (nI nn)])), (kB, .inl (cI, 500, .inl KK)), (vB, .inl (cI, 500, .inl VV)), (oB, .inl (cI, 500, .inl (jb_O oo))), (sB, .inl (cI, 500, .inl Sq)), (eB, .inl (cI, 152, .inl Pf))] sz)) 0 0 (va_A [(hJ, .inr (0, [.ref aS, .ref hR, .ref hL, .ref gL])), (hR, .inr (1, [.ref hF, .ref hE, .ref hQ, .int x.2.2.2])), (hF, .inl (cI, 11, .inl x.1)), (hE, .inl (cI, 1500, .inl x.2.1)), (hQ, .inl (cI, 4000, .inl x.2.2.1)), (hL, .inr (2, [.ref aS, .int 1, .ref kA, .ref vA, .ref oA, .ref sA, .ref eA, .int (nI n)])), (kA, .inl (cI, 500, .inl K)), (vA, .inl (cI, 500, .inl V)), (oA, .inl (cI, 500, .inl (jb_O o))), (sA, .inl (cI, 500, .inl Sp)), (eA, .inl (cI, 152, .inl Pe)), (gL, .inr (2, [.ref aS, .int 0, .ref kB, .ref vB, .ref oB, .ref sB, .ref eB, .int (nI nn)])), (kB, .inl (cI, 500, .inl KK)), (vB, .inl (cI, 500, .inl VV)), (oB, .inl (cI, 500, .inl (jb_O oo))), (sB, .inl (cI, 500, .inl Sq)), (eB, .inl (cI, 152, .inl Pf))] sz) := by
  refine Met.ofW (cc := cX0_matchRows) (maxL := 11) (ret := none) (by decide) rfl ?_
  intro p e s m args below meth c s₁ B hml hv
  obtain ⟨rfl, hsz, hP, hK, hNw, hD0⟩ := hv
  have hx := B.exec
  have hb := B.bytes
  have hr := B.returns
  have hts := atoms_spec (ws := wsX0_matchRows) B.pre
  have hown : s.vm.findClass RX0 = some m.cls := findClass_of_methodNamed B.named
  have hlocks := B.notSynchronized
  subst hsz
  have hD := hD0.self (sz := s.heap.size)
  generalize hAe : va_A [(hJ, .inr (0, [.ref aS, .ref hR, .ref hL, .ref gL])), (hR, .inr (1, [.ref hF, .ref hE, .ref hQ, .int x.2.2.2])), (hF, .inl (cI, 11, .inl x.1)), (hE, .inl (cI, 1500, .inl x.2.1)), (hQ, .inl (cI, 4000, .inl x.2.2.1)), (hL, .inr (2, [.ref aS, .int 1, .ref kA, .ref vA, .ref oA, .ref sA, .ref eA, .int (nI n)])), (kA, .inl (cI, 500, .inl K)), (vA, .inl (cI, 500, .inl V)), (oA, .inl (cI, 500, .inl (jb_O o))), (sA, .inl (cI, 500, .inl Sp)), (eA, .inl (cI, 152, .inl Pe)), (gL, .inr (2, [.ref aS, .int 0, .ref kB, .ref vB, .ref oB, .ref sB, .ref eB, .int (nI nn)])), (kB, .inl (cI, 500, .inl KK)), (vB, .inl (cI, 500, .inl VV)), (oB, .inl (cI, 500, .inl (jb_O oo))), (sB, .inl (cI, 500, .inl Sq)), (eB, .inl (cI, 152, .inl Pf))] s.heap.size = A at hD ⊢
  have hA : ∀ q : Nat, s.heap.size ≤ q → A q := fun q h => by rw [← hAe]; exact Or.inr h
  have hS : va_S A s.heap s.heap [] := va_S.rf
  have hP : va_P (dC, dI) vwCl [(hJ, .inr (0, [.ref aS, .ref hR, .ref hL, .ref gL])), (hR, .inr (1, [.ref hF, .ref hE, .ref hQ, .int x.2.2.2])), (hF, .inl (cI, 11, .inl x.1)), (hE, .inl (cI, 1500, .inl x.2.1)), (hQ, .inl (cI, 4000, .inl x.2.2.1)), (hL, .inr (2, [.ref aS, .int 1, .ref kA, .ref vA, .ref oA, .ref sA, .ref eA, .int (nI n)])), (kA, .inl (cI, 500, .inl K)), (vA, .inl (cI, 500, .inl V)), (oA, .inl (cI, 500, .inl (jb_O o))), (sA, .inl (cI, 500, .inl Sp)), (eA, .inl (cI, 152, .inl Pe)), (gL, .inr (2, [.ref aS, .int 0, .ref kB, .ref vB, .ref oB, .ref sB, .ref eB, .int (nI nn)])), (kB, .inl (cI, 500, .inl KK)), (vB, .inl (cI, 500, .inl VV)), (oB, .inl (cI, 500, .inl (jb_O oo))), (sB, .inl (cI, 500, .inl Sq)), (eB, .inl (cI, 152, .inl Pf))] s.heap := hP
  have hl := lv_entry ([.ref hJ, .ref hL, .int (nI hf), .int (nI (hf + hs.length)), .ref gL, .int (nI of), .int (nI (of + os.length))]) (n := 11) (Nat.le_of_ble_eq_true rfl)
  rw [lg_entry_eq]
  generalize (lg_sl ([.ref hJ, .ref hL, .int (nI hf), .int (nI (hf + hs.length)), .ref gL, .int (nI of), .int (nI (of + os.length))]) ++ List.replicate (11 - (lg_sl ([.ref hJ, .ref hL, .int (nI hf), .int (nI (hf + hs.length)), .ref gL, .int (nI of), .int (nI (of + os.length))])).length) Slot.unset).toArray = ls at hl ⊢
  have hl : lv_has ls 11 [(0, .ref hJ), (1, .ref hL), (2, .int (nI hf)), (3, .int (nI (hf + hs.length))), (4, .ref gL), (5, .int (nI of)), (6, .int (nI (of + os.length)))] := hl
  refine lv_iload hx hb dX0_matchRows_0 (lv_at hl 5 rfl) ?_
  refine lv_istore (lv' := [(7, .int (nI of)), (0, .ref hJ), (1, .ref hL), (2, .int (nI hf)), (3, .int (nI (hf + hs.length))), (4, .ref gL), (5, .int (nI of)), (6, .int (nI (of + os.length)))]) hx hb dX0_matchRows_2 hl (by decide) rfl (fun ls hl => ?_)
  have ez : jc_pairs (jb_meet true K KK hs (os.take 0)) x = x := by rw [jb_meet_0]; rfl
  rw [← ez] at hP hD
  have hl_a : ∀ (k_a : Nat) (i : Nat), os.length - i < k_a → (i ≤ os.length) → ∀ (H : Heap) (locs : List Loc), va_P (dC, dI) vwCl [(hJ, .inr (0, [.ref aS, .ref hR, .ref hL, .ref gL])), (hR, .inr (1, [.ref hF, .ref hE, .ref hQ, .int ((jc_pairs (jb_meet true K KK hs (os.take i)) x).2.2.2)])), (hF, .inl (cI, 11, .inl ((jc_pairs (jb_meet true K KK hs (os.take i)) x).1))), (hE, .inl (cI, 1500, .inl ((jc_pairs (jb_meet true K KK hs (os.take i)) x).2.1))), (hQ, .inl (cI, 4000, .inl ((jc_pairs (jb_meet true K KK hs (os.take i)) x).2.2.1))), (hL, .inr (2, [.ref aS, .int 1, .ref kA, .ref vA, .ref oA, .ref sA, .ref eA, .int (nI n)])), (kA, .inl (cI, 500, .inl K)), (vA, .inl (cI, 500, .inl V)), (oA, .inl (cI, 500, .inl (jb_O o))), (sA, .inl (cI, 500, .inl Sp)), (eA, .inl (cI, 152, .inl Pe)), (gL, .inr (2, [.ref aS, .int 0, .ref kB, .ref vB, .ref oB, .ref sB, .ref eB, .int (nI nn)])), (kB, .inl (cI, 500, .inl KK)), (vB, .inl (cI, 500, .inl VV)), (oB, .inl (cI, 500, .inl (jb_O oo))), (sB, .inl (cI, 500, .inl Sq)), (eB, .inl (cI, 152, .inl Pf))] H → va_D A [(hJ, .inr (0, [.ref aS, .ref hR, .ref hL, .ref gL])), (hR, .inr (1, [.ref hF, .ref hE, .ref hQ, .int ((jc_pairs (jb_meet true K KK hs (os.take i)) x).2.2.2)])), (hF, .inl (cI, 11, .inl ((jc_pairs (jb_meet true K KK hs (os.take i)) x).1))), (hE, .inl (cI, 1500, .inl ((jc_pairs (jb_meet true K KK hs (os.take i)) x).2.1))), (hQ, .inl (cI, 4000, .inl ((jc_pairs (jb_meet true K KK hs (os.take i)) x).2.2.1))), (hL, .inr (2, [.ref aS, .int 1, .ref kA, .ref vA, .ref oA, .ref sA, .ref eA, .int (nI n)])), (kA, .inl (cI, 500, .inl K)), (vA, .inl (cI, 500, .inl V)), (oA, .inl (cI, 500, .inl (jb_O o))), (sA, .inl (cI, 500, .inl Sp)), (eA, .inl (cI, 152, .inl Pe)), (gL, .inr (2, [.ref aS, .int 0, .ref kB, .ref vB, .ref oB, .ref sB, .ref eB, .int (nI nn)])), (kB, .inl (cI, 500, .inl KK)), (vB, .inl (cI, 500, .inl VV)), (oB, .inl (cI, 500, .inl (jb_O oo))), (sB, .inl (cI, 500, .inl Sq)), (eB, .inl (cI, 152, .inl Pf))] → va_S A s.heap H locs → ∀ ls : Array Slot, lv_has ls 11 [(0, .ref hJ), (1, .ref hL), (2, .int (nI hf)), (3, .int (nI (hf + hs.length))), (4, .ref gL), (6, .int (nI (of + os.length))), (7, .int (nI (of + i)))] → W p l e ({ frames := 2, cells := 0, slots := 0, locals := 80 } : Room) s m ([.ref hJ, .ref hL, .int (nI hf), .int (nI (hf + hs.length)), .ref gL, .int (nI of), .int (nI (of + os.length))] : List Value).toArray below meth c H locs 0 0 (MQ below (va_Qv (fun (_ : Unit) => True) (jb_B dC dI A (fun _ => [(hJ, .inr (0, [.ref aS, .ref hR, .ref hL, .ref gL])), (hR, .inr (1, [.ref hF, .ref hE, .ref hQ, .int ((jc_pairs (jb_meet true K KK hs os) x).2.2.2)])), (hF, .inl (cI, 11, .inl ((jc_pairs (jb_meet true K KK hs os) x).1))), (hE, .inl (cI, 1500, .inl ((jc_pairs (jb_meet true K KK hs os) x).2.1))), (hQ, .inl (cI, 4000, .inl ((jc_pairs (jb_meet true K KK hs os) x).2.2.1))), (hL, .inr (2, [.ref aS, .int 1, .ref kA, .ref vA, .ref oA, .ref sA, .ref eA, .int (nI n)])), (kA, .inl (cI, 500, .inl K)), (vA, .inl (cI, 500, .inl V)), (oA, .inl (cI, 500, .inl (jb_O o))), (sA, .inl (cI, 500, .inl Sp)), (eA, .inl (cI, 152, .inl Pe)), (gL, .inr (2, [.ref aS, .int 0, .ref kB, .ref vB, .ref oB, .ref sB, .ref eB, .int (nI nn)])), (kB, .inl (cI, 500, .inl KK)), (vB, .inl (cI, 500, .inl VV)), (oB, .inl (cI, 500, .inl (jb_O oo))), (sB, .inl (cI, 500, .inl Sq)), (eB, .inl (cI, 152, .inl Pf))])) A) ([.ref hJ, .ref hL, .int (nI hf), .int (nI (hf + hs.length)), .ref gL, .int (nI of), .int (nI (of + os.length))] : List Value).toArray s 0 0 (A)) (F0 m 4 ls []) := by
    intro k_a
    induction k_a with
    | zero => intro i hk; exact absurd hk (Nat.not_lt_zero _)
    | succ k_a ih_a =>
      intro i hk_a hi H locs hP hD hS ls hl
      refine lv_iload hx hb dX0_matchRows_4 (lv_at hl 6 rfl) ?_
      refine lv_iload hx hb dX0_matchRows_6 (lv_at hl 5 rfl) ?_
      refine lv_icmp_ge (tgt := 104) hx hb dX0_matchRows_8 (by decide) (fun c_8 => ?_) (fun c_8 => ?_)
      · have hge : i = os.length := by have := (nI_leI (a := of + os.length) (b := of + i) (by omega) (by omega)).mp c_8; omega
        rw [hge, List.take_length] at hP hD
        have hP9 : va_P (dC, dI) vwCl [(hJ, .inr (0, [.ref aS, .ref hR, .ref hL, .ref gL])), (hR, .inr (1, [.ref hF, .ref hE, .ref hQ, .int ((jc_pairs (jb_meet true K KK hs os) x).2.2.2)])), (hF, .inl (cI, 11, .inl ((jc_pairs (jb_meet true K KK hs os) x).1))), (hE, .inl (cI, 1500, .inl ((jc_pairs (jb_meet true K KK hs os) x).2.1))), (hQ, .inl (cI, 4000, .inl ((jc_pairs (jb_meet true K KK hs os) x).2.2.1))), (hL, .inr (2, [.ref aS, .int 1, .ref kA, .ref vA, .ref oA, .ref sA, .ref eA, .int (nI n)])), (kA, .inl (cI, 500, .inl K)), (vA, .inl (cI, 500, .inl V)), (oA, .inl (cI, 500, .inl (jb_O o))), (sA, .inl (cI, 500, .inl Sp)), (eA, .inl (cI, 152, .inl Pe)), (gL, .inr (2, [.ref aS, .int 0, .ref kB, .ref vB, .ref oB, .ref sB, .ref eB, .int (nI nn)])), (kB, .inl (cI, 500, .inl KK)), (vB, .inl (cI, 500, .inl VV)), (oB, .inl (cI, 500, .inl (jb_O oo))), (sB, .inl (cI, 500, .inl Sq)), (eB, .inl (cI, 152, .inl Pf))] H := hP.sub [0, 1, 2, 3, 4, 5, 6, 7, 8, 9, 10, 11, 12, 13, 14, 15, 16] rfl
        have hD9 : va_D A [(hJ, .inr (0, [.ref aS, .ref hR, .ref hL, .ref gL])), (hR, .inr (1, [.ref hF, .ref hE, .ref hQ, .int ((jc_pairs (jb_meet true K KK hs os) x).2.2.2)])), (hF, .inl (cI, 11, .inl ((jc_pairs (jb_meet true K KK hs os) x).1))), (hE, .inl (cI, 1500, .inl ((jc_pairs (jb_meet true K KK hs os) x).2.1))), (hQ, .inl (cI, 4000, .inl ((jc_pairs (jb_meet true K KK hs os) x).2.2.1))), (hL, .inr (2, [.ref aS, .int 1, .ref kA, .ref vA, .ref oA, .ref sA, .ref eA, .int (nI n)])), (kA, .inl (cI, 500, .inl K)), (vA, .inl (cI, 500, .inl V)), (oA, .inl (cI, 500, .inl (jb_O o))), (sA, .inl (cI, 500, .inl Sp)), (eA, .inl (cI, 152, .inl Pe)), (gL, .inr (2, [.ref aS, .int 0, .ref kB, .ref vB, .ref oB, .ref sB, .ref eB, .int (nI nn)])), (kB, .inl (cI, 500, .inl KK)), (vB, .inl (cI, 500, .inl VV)), (oB, .inl (cI, 500, .inl (jb_O oo))), (sB, .inl (cI, 500, .inl Sq)), (eB, .inl (cI, 152, .inl Pf))] := hD.sub [0, 1, 2, 3, 4, 5, 6, 7, 8, 9, 10, 11, 12, 13, 14, 15, 16] (by decide) rfl
        exact W.vret hx hb hr (fun t ht hW => ⟨⟨(), rfl, trivial, by rw [ht]; exact hP9, hD9⟩, hS.F ht⟩) hS.2.2 dX0_matchRows_104
      · have hlt : i < os.length := by have := (jb_nle (a := of + os.length) (b := of + i) (by omega) (by omega)).mp c_8; omega
        refine lv_aload hx hb dX0_matchRows_11 (lv_at hl 4 rfl) ?_
        refine lv_iload hx hb dX0_matchRows_13 (lv_at hl 6 rfl) ?_
        refine vp_callSi (va_runV (As := [.int (nI (of + i))]) (rest := []) ⟨hx, hb, hml, hown, hts⟩ (c_keyAt l dC dI cI gL aS kB vB oB sB eB 0 KK VV oo Sq Pf nn (of + i) (by omega) hn2 (by rw [hin2 i hlt]; exact hb6 _ (jb_getD_mem hlt))) (cwV 1 hts gX0_matchRows_X2_keyAt rfl rfl rfl (by decide +kernel) ⟨(by decide +kernel), (by decide +kernel)⟩)  ⟨jb_R_blind, va_recv hK hP (ci := 2) (q0 := 11) rfl rfl, jb_R_pre (hP.sub (ws' := [(gL, .inr (2, [.ref aS, .int 0, .ref kB, .ref vB, .ref oB, .ref sB, .ref eB, .int (nI nn)])), (kB, .inl (cI, 500, .inl KK)), (vB, .inl (cI, 500, .inl VV)), (oB, .inl (cI, 500, .inl (jb_O oo))), (sB, .inl (cI, 500, .inl Sq)), (eB, .inl (cI, 152, .inl Pf))]) [11, 12, 13, 14, 15, 16] rfl) hK hNw⟩ rfl rfl hl.1 rfl (lv_room (Nat.le_of_ble_eq_true rfl)) dX0_matchRows_15 ⟨by decide +kernel, by decide +kernel⟩).run (fun r_1 hr_1 => ?_)
        subst hr_1
        refine lv_topi (fun v_2 ev_2 => ?_)
        have hv_2 : v_2 = KK (os.getD i 0) := ev_2.trans (congrArg KK (hin2 i hlt))
        clear ev_2; subst hv_2
        refine lv_istore (lv' := [(8, .int (KK (os.getD i 0))), (0, .ref hJ), (1, .ref hL), (2, .int (nI hf)), (3, .int (nI (hf + hs.length))), (4, .ref gL), (6, .int (nI (of + os.length))), (7, .int (nI (of + i)))]) hx hb dX0_matchRows_18 hl (by decide) rfl (fun ls hl => ?_)
        refine lv_aload hx hb dX0_matchRows_20 (lv_at hl 5 rfl) ?_
        refine lv_iload hx hb dX0_matchRows_22 (lv_at hl 7 rfl) ?_
        refine vp_callSi (va_runV (As := [.int (nI (of + i))]) (rest := []) ⟨hx, hb, hml, hown, hts⟩ (c_rowAt l dC dI cI gL aS kB vB oB sB eB 0 KK VV oo Sq Pf nn (of + i) (by omega) hn2) (cwV 1 hts gX0_matchRows_X2_rowAt rfl rfl rfl (by decide +kernel) ⟨(by decide +kernel), (by decide +kernel)⟩)  ⟨jb_R_blind, va_recv hK hP (ci := 2) (q0 := 11) rfl rfl, jb_R_pre (hP.sub (ws' := [(gL, .inr (2, [.ref aS, .int 0, .ref kB, .ref vB, .ref oB, .ref sB, .ref eB, .int (nI nn)])), (kB, .inl (cI, 500, .inl KK)), (vB, .inl (cI, 500, .inl VV)), (oB, .inl (cI, 500, .inl (jb_O oo))), (sB, .inl (cI, 500, .inl Sq)), (eB, .inl (cI, 152, .inl Pf))]) [11, 12, 13, 14, 15, 16] rfl) hK hNw⟩ rfl rfl hl.1 rfl (lv_room (Nat.le_of_ble_eq_true rfl)) dX0_matchRows_24 ⟨by decide +kernel, by decide +kernel⟩).run (fun r_3 hr_3 => ?_)
        subst hr_3
        refine lv_topi (fun v_4 ev_4 => ?_)
        have hv_4 : v_4 = nI (os.getD i 0) := ev_4.trans (congrArg nI (hin2 i hlt))
        clear ev_4; subst hv_4
        refine lv_istore (lv' := [(9, .int (nI (os.getD i 0))), (8, .int (KK (os.getD i 0))), (0, .ref hJ), (1, .ref hL), (2, .int (nI hf)), (3, .int (nI (hf + hs.length))), (4, .ref gL), (6, .int (nI (of + os.length))), (7, .int (nI (of + i)))]) hx hb dX0_matchRows_27 hl (by decide) rfl (fun ls hl => ?_)
        refine lv_iload_n hx hb dX0_matchRows_29 rfl (lv_at hl 4 rfl) ?_
        refine lv_istore (lv' := [(10, .int (nI hf)), (9, .int (nI (os.getD i 0))), (8, .int (KK (os.getD i 0))), (0, .ref hJ), (1, .ref hL), (2, .int (nI hf)), (3, .int (nI (hf + hs.length))), (4, .ref gL), (6, .int (nI (of + os.length))), (7, .int (nI (of + i)))]) hx hb dX0_matchRows_30 hl (by decide) rfl (fun ls hl => ?_)
        have ez : jb_meet true K KK hs (os.take i) ++ jb_mt true K KK (hs.take 0) (os.getD i 0) = jb_meet true K KK hs (os.take i) := by rw [jb_mt_0, List.append_nil]
        rw [← ez] at hP hD
        have hl_b : ∀ (k_b : Nat) (j : Nat), hs.length - j < k_b → (j ≤ hs.length) → ∀ (H : Heap) (locs : List Loc), va_P (dC, dI) vwCl [(hJ, .inr (0, [.ref aS, .ref hR, .ref hL, .ref gL])), (hR, .inr (1, [.ref hF, .ref hE, .ref hQ, .int ((jc_pairs (jb_meet true K KK hs (os.take i) ++ jb_mt true K KK (hs.take j) (os.getD i 0)) x).2.2.2)])), (hF, .inl (cI, 11, .inl ((jc_pairs (jb_meet true K KK hs (os.take i) ++ jb_mt true K KK (hs.take j) (os.getD i 0)) x).1))), (hE, .inl (cI, 1500, .inl ((jc_pairs (jb_meet true K KK hs (os.take i) ++ jb_mt true K KK (hs.take j) (os.getD i 0)) x).2.1))), (hQ, .inl (cI, 4000, .inl ((jc_pairs (jb_meet true K KK hs (os.take i) ++ jb_mt true K KK (hs.take j) (os.getD i 0)) x).2.2.1))), (hL, .inr (2, [.ref aS, .int 1, .ref kA, .ref vA, .ref oA, .ref sA, .ref eA, .int (nI n)])), (kA, .inl (cI, 500, .inl K)), (vA, .inl (cI, 500, .inl V)), (oA, .inl (cI, 500, .inl (jb_O o))), (sA, .inl (cI, 500, .inl Sp)), (eA, .inl (cI, 152, .inl Pe)), (gL, .inr (2, [.ref aS, .int 0, .ref kB, .ref vB, .ref oB, .ref sB, .ref eB, .int (nI nn)])), (kB, .inl (cI, 500, .inl KK)), (vB, .inl (cI, 500, .inl VV)), (oB, .inl (cI, 500, .inl (jb_O oo))), (sB, .inl (cI, 500, .inl Sq)), (eB, .inl (cI, 152, .inl Pf))] H → va_D A [(hJ, .inr (0, [.ref aS, .ref hR, .ref hL, .ref gL])), (hR, .inr (1, [.ref hF, .ref hE, .ref hQ, .int ((jc_pairs (jb_meet true K KK hs (os.take i) ++ jb_mt true K KK (hs.take j) (os.getD i 0)) x).2.2.2)])), (hF, .inl (cI, 11, .inl ((jc_pairs (jb_meet true K KK hs (os.take i) ++ jb_mt true K KK (hs.take j) (os.getD i 0)) x).1))), (hE, .inl (cI, 1500, .inl ((jc_pairs (jb_meet true K KK hs (os.take i) ++ jb_mt true K KK (hs.take j) (os.getD i 0)) x).2.1))), (hQ, .inl (cI, 4000, .inl ((jc_pairs (jb_meet true K KK hs (os.take i) ++ jb_mt true K KK (hs.take j) (os.getD i 0)) x).2.2.1))), (hL, .inr (2, [.ref aS, .int 1, .ref kA, .ref vA, .ref oA, .ref sA, .ref eA, .int (nI n)])), (kA, .inl (cI, 500, .inl K)), (vA, .inl (cI, 500, .inl V)), (oA, .inl (cI, 500, .inl (jb_O o))), (sA, .inl (cI, 500, .inl Sp)), (eA, .inl (cI, 152, .inl Pe)), (gL, .inr (2, [.ref aS, .int 0, .ref kB, .ref vB, .ref oB, .ref sB, .ref eB, .int (nI nn)])), (kB, .inl (cI, 500, .inl KK)), (vB, .inl (cI, 500, .inl VV)), (oB, .inl (cI, 500, .inl (jb_O oo))), (sB, .inl (cI, 500, .inl Sq)), (eB, .inl (cI, 152, .inl Pf))] → va_S A s.heap H locs → ∀ ls : Array Slot, lv_has ls 11 [(0, .ref hJ), (1, .ref hL), (2, .int (nI hf)), (3, .int (nI (hf + hs.length))), (4, .ref gL), (6, .int (nI (of + os.length))), (7, .int (nI (of + i))), (8, .int (KK (os.getD i 0))), (9, .int (nI (os.getD i 0))), (10, .int (nI (hf + j)))] → W p l e ({ frames := 2, cells := 0, slots := 0, locals := 80 } : Room) s m ([.ref hJ, .ref hL, .int (nI hf), .int (nI (hf + hs.length)), .ref gL, .int (nI of), .int (nI (of + os.length))] : List Value).toArray below meth c H locs 0 0 (MQ below (va_Qv (fun (_ : Unit) => True) (jb_B dC dI A (fun _ => [(hJ, .inr (0, [.ref aS, .ref hR, .ref hL, .ref gL])), (hR, .inr (1, [.ref hF, .ref hE, .ref hQ, .int ((jc_pairs (jb_meet true K KK hs os) x).2.2.2)])), (hF, .inl (cI, 11, .inl ((jc_pairs (jb_meet true K KK hs os) x).1))), (hE, .inl (cI, 1500, .inl ((jc_pairs (jb_meet true K KK hs os) x).2.1))), (hQ, .inl (cI, 4000, .inl ((jc_pairs (jb_meet true K KK hs os) x).2.2.1))), (hL, .inr (2, [.ref aS, .int 1, .ref kA, .ref vA, .ref oA, .ref sA, .ref eA, .int (nI n)])), (kA, .inl (cI, 500, .inl K)), (vA, .inl (cI, 500, .inl V)), (oA, .inl (cI, 500, .inl (jb_O o))), (sA, .inl (cI, 500, .inl Sp)), (eA, .inl (cI, 152, .inl Pe)), (gL, .inr (2, [.ref aS, .int 0, .ref kB, .ref vB, .ref oB, .ref sB, .ref eB, .int (nI nn)])), (kB, .inl (cI, 500, .inl KK)), (vB, .inl (cI, 500, .inl VV)), (oB, .inl (cI, 500, .inl (jb_O oo))), (sB, .inl (cI, 500, .inl Sq)), (eB, .inl (cI, 152, .inl Pf))])) A) ([.ref hJ, .ref hL, .int (nI hf), .int (nI (hf + hs.length)), .ref gL, .int (nI of), .int (nI (of + os.length))] : List Value).toArray s 0 0 (A)) (F0 m 32 ls []) := by
          intro k_b
          induction k_b with
          | zero => intro j hk; exact absurd hk (Nat.not_lt_zero _)
          | succ k_b ih_b =>
            intro j hk_b hj H locs hP hD hS ls hl
            refine lv_iload hx hb dX0_matchRows_32 (lv_at hl 9 rfl) ?_
            refine lv_iload_n hx hb dX0_matchRows_34 rfl (lv_at hl 3 rfl) ?_
            refine lv_icmp_ge (tgt := 98) hx hb dX0_matchRows_35 (by decide) (fun c_35 => ?_) (fun c_35 => ?_)
            · have hge : j = hs.length := by have := (nI_leI (a := hf + hs.length) (b := hf + j) (by omega) (by omega)).mp c_35; omega
              rw [hge, List.take_length, jb_meet_s hlt] at hP hD
              refine lv_iinc (v := nI (of + i + 1)) (lv' := [(7, .int (nI (of + i + 1))), (0, .ref hJ), (1, .ref hL), (2, .int (nI hf)), (3, .int (nI (hf + hs.length))), (4, .ref gL), (6, .int (nI (of + os.length))), (8, .int (KK (os.getD i 0))), (9, .int (nI (os.getD i 0))), (10, .int (nI (hf + j)))]) hx hb dX0_matchRows_98 hl (k := 6) rfl (nI_1 _) (by decide) rfl (fun ls hl => ?_)
              refine lv_goto (tgt := 4) hx hb dX0_matchRows_101 (by decide) ?_
              exact ih_a (i + 1) (by omega) hlt H locs hP hD hS ls (lv_sub hl [1, 2, 3, 4, 5, 6, 0] rfl)
            · have hlt2 : j < hs.length := by have := (jb_nle (a := hf + hs.length) (b := hf + j) (by omega) (by omega)).mp c_35; omega
              refine lv_aload_n hx hb dX0_matchRows_38 rfl (lv_at hl 1 rfl) ?_
              refine lv_iload hx hb dX0_matchRows_39 (lv_at hl 9 rfl) ?_
              refine vp_callSi (va_runV (As := [.int (nI (hf + j))]) (rest := []) ⟨hx, hb, hml, hown, hts⟩ (c_keyAt l dC dI cI hL aS kA vA oA sA eA 1 K V o Sp Pe n (hf + j) (by omega) hn (by rw [hin j hlt2]; exact hb5 _ (jb_getD_mem hlt2))) (cwV 1 hts gX0_matchRows_X2_keyAt rfl rfl rfl (by decide +kernel) ⟨(by decide +kernel), (by decide +kernel)⟩)  ⟨jb_R_blind, va_recv hK hP (ci := 2) (q0 := 5) rfl rfl, jb_R_pre (hP.sub (ws' := [(hL, .inr (2, [.ref aS, .int 1, .ref kA, .ref vA, .ref oA, .ref sA, .ref eA, .int (nI n)])), (kA, .inl (cI, 500, .inl K)), (vA, .inl (cI, 500, .inl V)), (oA, .inl (cI, 500, .inl (jb_O o))), (sA, .inl (cI, 500, .inl Sp)), (eA, .inl (cI, 152, .inl Pe))]) [5, 6, 7, 8, 9, 10] rfl) hK hNw⟩ rfl rfl hl.1 rfl (lv_room (Nat.le_of_ble_eq_true rfl)) dX0_matchRows_41 ⟨by decide +kernel, by decide +kernel⟩).run (fun r_5 hr_5 => ?_)
              subst hr_5
              refine lv_topi (fun v_6 ev_6 => ?_)
              have hv_6 : v_6 = K (hs.getD j 0) := ev_6.trans (congrArg K (hin j hlt2))
              clear ev_6; subst hv_6
              refine lv_iload hx hb dX0_matchRows_44 (lv_at hl 7 rfl) ?_
              refine lv_icmp_eq (tgt := 52) hx hb dX0_matchRows_46 (by decide) (fun c_46 => ?_) (fun c_46 => ?_)
              · refine lv_aload_n hx hb dX0_matchRows_52 rfl (lv_at hl 1 rfl) ?_
                refine va_getN (D := (dC, dI)) (ci := 2) (v := .int 1) (C := RX2) (T := TX2) (N := 8) hx hb hts iX0_matchRows_X2 hown hK hP 5 rfl rfl 1 (by decide) (hNw.use (q := (RX0, 109, "JoinBench$Side", "isLeft", "Z")) (by decide +kernel)) (fun _ h9 => h9) rfl dX0_matchRows_53 ?_
                refine lv_if_eq (tgt := 77) hx hb dX0_matchRows_56 (by decide) (fun c_56 => ?_) (fun c_56 => ?_)
                · exact absurd c_56 (by decide)
                · refine lv_aload_n hx hb dX0_matchRows_59 rfl (lv_at hl 0 rfl) ?_
                  refine va_get (D := (dC, dI)) (ci := 0) (v := .ref hR) (C := RX0) (T := TX0) (N := 4) hx hb hts iX0_matchRows_X0 hown hK hP 0 rfl rfl 1 (by decide) (hts (.fieldLink RX0 15 "JoinBench$Joiner" "report" "LJoinBench$Report;") (by decide +kernel)) (fun _ h9 => h9) rfl dX0_matchRows_60 ?_
                  refine lv_aload_n hx hb dX0_matchRows_63 rfl (lv_at hl 1 rfl) ?_
                  refine lv_iload hx hb dX0_matchRows_64 (lv_at hl 9 rfl) ?_
                  refine vp_callSi (va_runV (As := [.int (nI (hf + j))]) (rest := [.ref hR]) ⟨hx, hb, hml, hown, hts⟩ (c_rowAt l dC dI cI hL aS kA vA oA sA eA 1 K V o Sp Pe n (hf + j) (by omega) hn) (cwV 1 hts gX0_matchRows_X2_rowAt rfl rfl rfl (by decide +kernel) ⟨(by decide +kernel), (by decide +kernel)⟩)  ⟨jb_R_blind, va_recv hK hP (ci := 2) (q0 := 5) rfl rfl, jb_R_pre (hP.sub (ws' := [(hL, .inr (2, [.ref aS, .int 1, .ref kA, .ref vA, .ref oA, .ref sA, .ref eA, .int (nI n)])), (kA, .inl (cI, 500, .inl K)), (vA, .inl (cI, 500, .inl V)), (oA, .inl (cI, 500, .inl (jb_O o))), (sA, .inl (cI, 500, .inl Sp)), (eA, .inl (cI, 152, .inl Pe))]) [5, 6, 7, 8, 9, 10] rfl) hK hNw⟩ rfl rfl hl.1 rfl (lv_room (Nat.le_of_ble_eq_true rfl)) dX0_matchRows_66 ⟨by decide +kernel, by decide +kernel⟩).run (fun r_7 hr_7 => ?_)
                  subst hr_7
                  refine lv_topi (fun v_8 ev_8 => ?_)
                  have hv_8 : v_8 = nI (hs.getD j 0) := ev_8.trans (congrArg nI (hin j hlt2))
                  clear ev_8; subst hv_8
                  refine lv_iload hx hb dX0_matchRows_69 (lv_at hl 8 rfl) ?_
                  have hnx : (jc_pairs (jb_meet true K KK hs (os.take i) ++ jb_mt true K KK (hs.take j) (os.getD i 0)) x).1 10 = nI (np + (jb_meet true K KK hs (os.take i) ++ jb_mt true K KK (hs.take j) (os.getD i 0)).length) := jc_pairs_n _ hnp
                  have hxl : (jb_meet true K KK hs (os.take i) ++ jb_mt true K KK (hs.take j) (os.getD i 0)).length ≤ hs.length * os.length := jb_X_le hlt
                  have hcl : ((jc_pairs (jb_meet true K KK hs (os.take i) ++ jb_mt true K KK (hs.take j) (os.getD i 0)) x).1 10).toNatClampNeg = np + (jb_meet true K KK hs (os.take i) ++ jb_mt true K KK (hs.take j) (os.getD i 0)).length := by rw [hnx]; exact nI_clamp (by omega)
                  refine jb_cv (wc := [(hR, .inr (1, [.ref hF, .ref hE, .ref hQ, .int ((jc_pairs (jb_meet true K KK hs (os.take i) ++ jb_mt true K KK (hs.take j) (os.getD i 0)) x).2.2.2)])), (hF, .inl (cI, 11, .inl ((jc_pairs (jb_meet true K KK hs (os.take i) ++ jb_mt true K KK (hs.take j) (os.getD i 0)) x).1))), (hE, .inl (cI, 1500, .inl ((jc_pairs (jb_meet true K KK hs (os.take i) ++ jb_mt true K KK (hs.take j) (os.getD i 0)) x).2.1))), (hQ, .inl (cI, 4000, .inl ((jc_pairs (jb_meet true K KK hs (os.take i) ++ jb_mt true K KK (hs.take j) (os.getD i 0)) x).2.2.1)))]) (wr := [(hJ, .inr (0, [.ref aS, .ref hR, .ref hL, .ref gL])), (hL, .inr (2, [.ref aS, .int 1, .ref kA, .ref vA, .ref oA, .ref sA, .ref eA, .int (nI n)])), (kA, .inl (cI, 500, .inl K)), (vA, .inl (cI, 500, .inl V)), (oA, .inl (cI, 500, .inl (jb_O o))), (sA, .inl (cI, 500, .inl Sp)), (eA, .inl (cI, 152, .inl Pe)), (gL, .inr (2, [.ref aS, .int 0, .ref kB, .ref vB, .ref oB, .ref sB, .ref eB, .int (nI nn)])), (kB, .inl (cI, 500, .inl KK)), (vB, .inl (cI, 500, .inl VV)), (oB, .inl (cI, 500, .inl (jb_O oo))), (sB, .inl (cI, 500, .inl Sq)), (eB, .inl (cI, 152, .inl Pf))]) (va_runV (As := [.int (nI (hs.getD j 0)), .int (nI (os.getD i 0))]) (rest := []) ⟨hx, hb, hml, hown, hts⟩ (c_addPair l dC dI cI H.size hR hF hE hQ (jc_pairs (jb_meet true K KK hs (os.take i) ++ jb_mt true K KK (hs.take j) (os.getD i 0)) x).1 (jc_pairs (jb_meet true K KK hs (os.take i) ++ jb_mt true K KK (hs.take j) (os.getD i 0)) x).2.1 (jc_pairs (jb_meet true K KK hs (os.take i) ++ jb_mt true K KK (hs.take j) (os.getD i 0)) x).2.2.1 (jc_pairs (jb_meet true K KK hs (os.take i) ++ jb_mt true K KK (hs.take j) (os.getD i 0)) x).2.2.2 ((jc_pairs (jb_meet true K KK hs (os.take i) ++ jb_mt true K KK (hs.take j) (os.getD i 0)) x).1 10).toNatClampNeg (nI (hs.getD j 0)) (nI (os.getD i 0)) (by rw [hcl]; exact hnx) (by rw [hcl]; omega)) (cwV 2 hts gX0_matchRows_X1_addPair rfl rfl rfl (by decide +kernel) ⟨(by decide +kernel), (by decide +kernel)⟩)  ⟨jb_M_blind, va_recv hK hP (ci := 1) (q0 := 1) rfl rfl, jb_M_pre (hP.sub (ws' := [(hR, .inr (1, [.ref hF, .ref hE, .ref hQ, .int ((jc_pairs (jb_meet true K KK hs (os.take i) ++ jb_mt true K KK (hs.take j) (os.getD i 0)) x).2.2.2)])), (hF, .inl (cI, 11, .inl ((jc_pairs (jb_meet true K KK hs (os.take i) ++ jb_mt true K KK (hs.take j) (os.getD i 0)) x).1))), (hE, .inl (cI, 1500, .inl ((jc_pairs (jb_meet true K KK hs (os.take i) ++ jb_mt true K KK (hs.take j) (os.getD i 0)) x).2.1))), (hQ, .inl (cI, 4000, .inl ((jc_pairs (jb_meet true K KK hs (os.take i) ++ jb_mt true K KK (hs.take j) (os.getD i 0)) x).2.2.1)))]) [1, 2, 3, 4] rfl) (hD.sub (ws' := [(hR, .inr (1, [.ref hF, .ref hE, .ref hQ, .int ((jc_pairs (jb_meet true K KK hs (os.take i) ++ jb_mt true K KK (hs.take j) (os.getD i 0)) x).2.2.2)])), (hF, .inl (cI, 11, .inl ((jc_pairs (jb_meet true K KK hs (os.take i) ++ jb_mt true K KK (hs.take j) (os.getD i 0)) x).1))), (hE, .inl (cI, 1500, .inl ((jc_pairs (jb_meet true K KK hs (os.take i) ++ jb_mt true K KK (hs.take j) (os.getD i 0)) x).2.1))), (hQ, .inl (cI, 4000, .inl ((jc_pairs (jb_meet true K KK hs (os.take i) ++ jb_mt true K KK (hs.take j) (os.getD i 0)) x).2.2.1)))]) [1, 2, 3, 4] (by decide) rfl) hK hNw⟩ rfl rfl hl.1 rfl (lv_room (Nat.le_of_ble_eq_true rfl)) dX0_matchRows_71 ⟨by decide +kernel, by decide +kernel⟩) hP hD hS hA [1, 2, 3, 4] [0, 5, 6, 7, 8, 9, 10, 11, 12, 13, 14, 15, 16] rfl rfl (by decide) (by decide) (fun u_9 H locs hu_9 hP hD hS => ?_)
                  have hP : va_P (dC, dI) vwCl [(hJ, .inr (0, [.ref aS, .ref hR, .ref hL, .ref gL])), (hR, .inr (1, [.ref hF, .ref hE, .ref hQ, .int ((jc_pair (jc_pairs (jb_meet true K KK hs (os.take i) ++ jb_mt true K KK (hs.take j) (os.getD i 0)) x) ((hs.getD j 0), (os.getD i 0))).2.2.2)])), (hF, .inl (cI, 11, .inl ((jc_pair (jc_pairs (jb_meet true K KK hs (os.take i) ++ jb_mt true K KK (hs.take j) (os.getD i 0)) x) ((hs.getD j 0), (os.getD i 0))).1))), (hE, .inl (cI, 1500, .inl ((jc_pair (jc_pairs (jb_meet true K KK hs (os.take i) ++ jb_mt true K KK (hs.take j) (os.getD i 0)) x) ((hs.getD j 0), (os.getD i 0))).2.1))), (hQ, .inl (cI, 4000, .inl ((jc_pair (jc_pairs (jb_meet true K KK hs (os.take i) ++ jb_mt true K KK (hs.take j) (os.getD i 0)) x) ((hs.getD j 0), (os.getD i 0))).2.2.1))), (hL, .inr (2, [.ref aS, .int 1, .ref kA, .ref vA, .ref oA, .ref sA, .ref eA, .int (nI n)])), (kA, .inl (cI, 500, .inl K)), (vA, .inl (cI, 500, .inl V)), (oA, .inl (cI, 500, .inl (jb_O o))), (sA, .inl (cI, 500, .inl Sp)), (eA, .inl (cI, 152, .inl Pe)), (gL, .inr (2, [.ref aS, .int 0, .ref kB, .ref vB, .ref oB, .ref sB, .ref eB, .int (nI nn)])), (kB, .inl (cI, 500, .inl KK)), (vB, .inl (cI, 500, .inl VV)), (oB, .inl (cI, 500, .inl (jb_O oo))), (sB, .inl (cI, 500, .inl Sq)), (eB, .inl (cI, 152, .inl Pf))] H := hP.sub [0, 13, 14, 15, 16, 1, 2, 3, 4, 5, 6, 7, 8, 9, 10, 11, 12] rfl
                  have hD : va_D A [(hJ, .inr (0, [.ref aS, .ref hR, .ref hL, .ref gL])), (hR, .inr (1, [.ref hF, .ref hE, .ref hQ, .int ((jc_pair (jc_pairs (jb_meet true K KK hs (os.take i) ++ jb_mt true K KK (hs.take j) (os.getD i 0)) x) ((hs.getD j 0), (os.getD i 0))).2.2.2)])), (hF, .inl (cI, 11, .inl ((jc_pair (jc_pairs (jb_meet true K KK hs (os.take i) ++ jb_mt true K KK (hs.take j) (os.getD i 0)) x) ((hs.getD j 0), (os.getD i 0))).1))), (hE, .inl (cI, 1500, .inl ((jc_pair (jc_pairs (jb_meet true K KK hs (os.take i) ++ jb_mt true K KK (hs.take j) (os.getD i 0)) x) ((hs.getD j 0), (os.getD i 0))).2.1))), (hQ, .inl (cI, 4000, .inl ((jc_pair (jc_pairs (jb_meet true K KK hs (os.take i) ++ jb_mt true K KK (hs.take j) (os.getD i 0)) x) ((hs.getD j 0), (os.getD i 0))).2.2.1))), (hL, .inr (2, [.ref aS, .int 1, .ref kA, .ref vA, .ref oA, .ref sA, .ref eA, .int (nI n)])), (kA, .inl (cI, 500, .inl K)), (vA, .inl (cI, 500, .inl V)), (oA, .inl (cI, 500, .inl (jb_O o))), (sA, .inl (cI, 500, .inl Sp)), (eA, .inl (cI, 152, .inl Pe)), (gL, .inr (2, [.ref aS, .int 0, .ref kB, .ref vB, .ref oB, .ref sB, .ref eB, .int (nI nn)])), (kB, .inl (cI, 500, .inl KK)), (vB, .inl (cI, 500, .inl VV)), (oB, .inl (cI, 500, .inl (jb_O oo))), (sB, .inl (cI, 500, .inl Sq)), (eB, .inl (cI, 152, .inl Pf))] := hD.sub [0, 13, 14, 15, 16, 1, 2, 3, 4, 5, 6, 7, 8, 9, 10, 11, 12] (by decide) rfl
                  rw [← jc_pairs_snoc, List.append_assoc, ← jb_mt_eqT hlt2 c_46] at hP hD
                  refine lv_goto (tgt := 92) hx hb dX0_matchRows_74 (by decide) ?_
                  refine lv_iinc (v := nI (hf + j + 1)) (lv' := [(10, .int (nI (hf + j + 1))), (0, .ref hJ), (1, .ref hL), (2, .int (nI hf)), (3, .int (nI (hf + hs.length))), (4, .ref gL), (6, .int (nI (of + os.length))), (7, .int (nI (of + i))), (8, .int (KK (os.getD i 0))), (9, .int (nI (os.getD i 0)))]) hx hb dX0_matchRows_92 hl (k := 9) rfl (nI_1 _) (by decide) rfl (fun ls hl => ?_)
                  refine lv_goto (tgt := 32) hx hb dX0_matchRows_95 (by decide) ?_
                  exact ih_b (j + 1) (by omega) hlt2 H locs hP hD hS ls (lv_sub hl [1, 2, 3, 4, 5, 6, 7, 8, 9, 0] rfl)
              · rw [← jb_mt_ne hlt2 c_46] at hP hD
                refine lv_goto (tgt := 92) hx hb dX0_matchRows_49 (by decide) ?_
                refine lv_iinc (v := nI (hf + j + 1)) (lv' := [(10, .int (nI (hf + j + 1))), (0, .ref hJ), (1, .ref hL), (2, .int (nI hf)), (3, .int (nI (hf + hs.length))), (4, .ref gL), (6, .int (nI (of + os.length))), (7, .int (nI (of + i))), (8, .int (KK (os.getD i 0))), (9, .int (nI (os.getD i 0)))]) hx hb dX0_matchRows_92 hl (k := 9) rfl (nI_1 _) (by decide) rfl (fun ls hl => ?_)
                refine lv_goto (tgt := 32) hx hb dX0_matchRows_95 (by decide) ?_
                exact ih_b (j + 1) (by omega) hlt2 H locs hP hD hS ls (lv_sub hl [1, 2, 3, 4, 5, 6, 7, 8, 9, 0] rfl)
        exact hl_b (hs.length - 0 + 1) 0 (by omega) (Nat.zero_le _) H locs hP hD hS ls (lv_sub hl [3, 4, 5, 6, 7, 8, 9, 2, 1, 0] rfl)
  exact hl_a (os.length - 0 + 1) 0 (by omega) (Nat.zero_le _) s.heap [] hP hD hS ls (lv_sub hl [1, 2, 3, 4, 5, 7, 0] rfl)
set_option maxHeartbeats 1000000 in
set_option maxRecDepth 100000 in
/-- Joiner.matchRows, the held side is RIGHT -/
theorem c_matchR (l : Launch) (dC : Nat → ClassId) (dI : Nat → Nat → Nat) (cI : ClassId) (sz : Nat) (hJ aS aN hR hF hE hQ hL kA vA oA sA eA gL kB vB oB sB eB per mem par : Nat) (K V : Nat → Int32) (o : Nat → Nat) (Sp Pe : Nat → Int32) (n : Nat) (KK VV : Nat → Int32) (oo : Nat → Nat) (Sq Pf : Nat → Int32) (nn : Nat) (x : jbR) (hs os : List Nat) (hf of np : Nat) (hin : jb_in oo hf hs) (hin2 : jb_in o of os) (hb5 : ∀ r ∈ hs, r < 500) (hb6 : ∀ r ∈ os, r < 500) (hto : hf + hs.length ≤ nn) (hto2 : of + os.length ≤ n) (hn : n ≤ 500) (hn2 : nn ≤ 500) (hnp : x.1 10 = nI np) (hbd : np + hs.length * os.length < 1000000) : Met l yX0_matchRows wsX0_matchRows ({ frames := 2, cells := 0, slots := 0, locals := 80 } : Room) (va_Pc [.ref hJ, .ref gL, .int (nI hf), .int (nI (hf + hs.length)), .ref hL, .int (nI of), .int (nI (of + os.length))] (jb_M dC dI cI sz [(hJ, .inr (0, [.ref aS, .ref hR, .ref hL, .ref gL])), (hR, .inr (1, [.ref hF, .ref hE, .ref hQ, .int x.2.2.2])), (hF, .inl (cI, 11, .inl x.1)), (hE, .inl (cI, 1500, .inl x.2.1)), (hQ, .inl (cI, 4000, .inl x.2.2.1)), (hL, .inr (2, [.ref aS, .int 1, .ref kA, .ref vA, .ref oA, .ref sA, .ref eA, .int (nI n)])), (kA, .inl (cI, 500, .inl K)), (vA, .inl (cI, 500, .inl V)), (oA, .inl (cI, 500, .inl (jb_O o))), (sA, .inl (cI, 500, .inl Sp)), (eA, .inl (cI, 152, .inl Pe)), (gL, .inr (2, [.ref aS, .int 0, .ref kB, .ref vB, .ref oB, .ref sB, .ref eB, .int (nI nn)])), (kB, .inl (cI, 500, .inl KK)), (vB, .inl (cI, 500, .inl VV)), (oB, .inl (cI, 500, .inl (jb_O oo))), (sB, .inl (cI, 500, .inl Sq)), (eB, .inl (cI, 152, .inl Pf))])) (va_Qv (fun (_ : Unit) => True) (jb_B dC dI (va_A [(hJ, .inr (0, [.ref aS, .ref hR, .ref hL, .ref gL])), (hR, .inr (1, [.ref hF, .ref hE, .ref hQ, .int x.2.2.2])), (hF, .inl (cI, 11, .inl x.1)), (hE, .inl (cI, 1500, .inl x.2.1)), (hQ, .inl (cI, 4000, .inl x.2.2.1)), (hL, .inr (2, [.ref aS, .int 1, .ref kA, .ref vA, .ref oA, .ref sA, .ref eA, .int (nI n)])), (kA, .inl (cI, 500, .inl K)), (vA, .inl (cI, 500, .inl V)), (oA, .inl (cI, 500, .inl (jb_O o))), (sA, .inl (cI, 500, .inl Sp)), (eA, .inl (cI, 152, .inl Pe)), (gL, .inr (2, [.ref aS, .int 0, .ref kB, .ref vB, .ref oB, .ref sB, .ref eB, .int (nI nn)])), (kB, .inl (cI, 500, .inl KK)), (vB, .inl (cI, 500, .inl VV)), (oB, .inl (cI, 500, .inl (jb_O oo))), (sB, .inl (cI, 500, .inl Sq)), (eB, .inl (cI, 152, .inl Pf))] sz) (fun _ => [(hJ, .inr (0, [.ref aS, .ref hR, .ref hL, .ref gL])), (hR, .inr (1, [.ref hF, .ref hE, .ref hQ, .int ((jc_pairs (jb_meet false KK K hs os) x).2.2.2)])), (hF, .inl (cI, 11, .inl ((jc_pairs (jb_meet false KK K hs os) x).1))), (hE, .inl (cI, 1500, .inl ((jc_pairs (jb_meet false KK K hs os) x).2.1))), (hQ, .inl (cI, 4000, .inl ((jc_pairs (jb_meet false KK K hs os) x).2.2.1))), (hL, .inr (2, [.ref aS, .int 1, .ref kA, .ref vA, .ref oA, .ref sA, .ref eA, .int (nI n)])), (kA, .inl (cI, 500, .inl K)), (vA, .inl (cI, 500, .inl V)), (oA, .inl (cI, 500, .inl (jb_O o))), (sA, .inl (cI, 500, .inl Sp)), (eA, .inl (cI, 152, .inl Pe)), (gL, .inr (2, [.ref aS, .int 0, .ref kB, .ref vB, .ref oB, .ref sB, .ref eB, .int (nI nn)])), (kB, .inl (cI, 500, .inl KK)), (vB, .inl (cI, 500, .inl VV)), (oB, .inl (cI, 500, .inl (jb_O oo))), (sB, .inl (cI, 500, .inl Sq)), (eB, .inl (cI, 152, .inl Pf))])) (va_A [(hJ, .inr (0, [.ref aS, .ref hR, .ref hL, .ref gL])), (hR, .inr (1, [.ref hF, .ref hE, .ref hQ, .int x.2.2.2])), (hF, .inl (cI, 11, .inl x.1)), (hE, .inl (cI, 1500, .inl x.2.1)), (hQ, .inl (cI, 4000, .inl x.2.2.1)), (hL, .inr (2, [.ref aS, .int 1, .ref kA, .ref vA, .ref oA, .ref sA, .ref eA, .int (nI n)])), (kA, .inl (cI, 500, .inl K)), (vA, .inl (cI, 500, .inl V)), (oA, .inl (cI, 500, .inl (jb_O o))), (sA, .inl (cI, 500, .inl Sp)), (eA, .inl (cI, 152, .inl Pe)), (gL, .inr (2, [.ref aS, .int 0, .ref kB, .ref vB, .ref oB, .ref sB, .ref eB, .int (nI nn)])), (kB, .inl (cI, 500, .inl KK)), (vB, .inl (cI, 500, .inl VV)), (oB, .inl (cI, 500, .inl (jb_O oo))), (sB, .inl (cI, 500, .inl Sq)), (eB, .inl (cI, 152, .inl Pf))] sz)) 0 0 (va_A [(hJ, .inr (0, [.ref aS, .ref hR, .ref hL, .ref gL])), (hR, .inr (1, [.ref hF, .ref hE, .ref hQ, .int x.2.2.2])), (hF, .inl (cI, 11, .inl x.1)), (hE, .inl (cI, 1500, .inl x.2.1)), (hQ, .inl (cI, 4000, .inl x.2.2.1)), (hL, .inr (2, [.ref aS, .int 1, .ref kA, .ref vA, .ref oA, .ref sA, .ref eA, .int (nI n)])), (kA, .inl (cI, 500, .inl K)), (vA, .inl (cI, 500, .inl V)), (oA, .inl (cI, 500, .inl (jb_O o))), (sA, .inl (cI, 500, .inl Sp)), (eA, .inl (cI, 152, .inl Pe)), (gL, .inr (2, [.ref aS, .int 0, .ref kB, .ref vB, .ref oB, .ref sB, .ref eB, .int (nI nn)])), (kB, .inl (cI, 500, .inl KK)), (vB, .inl (cI, 500, .inl VV)), (oB, .inl (cI, 500, .inl (jb_O oo))), (sB, .inl (cI, 500, .inl Sq)), (eB, .inl (cI, 152, .inl Pf))] sz) := by
  refine Met.ofW (cc := cX0_matchRows) (maxL := 11) (ret := none) (by decide) rfl ?_
  intro p e s m args below meth c s₁ B hml hv
  obtain ⟨rfl, hsz, hP, hK, hNw, hD0⟩ := hv
  have hx := B.exec
  have hb := B.bytes
  have hr := B.returns
  have hts := atoms_spec (ws := wsX0_matchRows) B.pre
  have hown : s.vm.findClass RX0 = some m.cls := findClass_of_methodNamed B.named
  have hlocks := B.notSynchronized
  subst hsz
  have hD := hD0.self (sz := s.heap.size)
  generalize hAe : va_A [(hJ, .inr (0, [.ref aS, .ref hR, .ref hL, .ref gL])), (hR, .inr (1, [.ref hF, .ref hE, .ref hQ, .int x.2.2.2])), (hF, .inl (cI, 11, .inl x.1)), (hE, .inl (cI, 1500, .inl x.2.1)), (hQ, .inl (cI, 4000, .inl x.2.2.1)), (hL, .inr (2, [.ref aS, .int 1, .ref kA, .ref vA, .ref oA, .ref sA, .ref eA, .int (nI n)])), (kA, .inl (cI, 500, .inl K)), (vA, .inl (cI, 500, .inl V)), (oA, .inl (cI, 500, .inl (jb_O o))), (sA, .inl (cI, 500, .inl Sp)), (eA, .inl (cI, 152, .inl Pe)), (gL, .inr (2, [.ref aS, .int 0, .ref kB, .ref vB, .ref oB, .ref sB, .ref eB, .int (nI nn)])), (kB, .inl (cI, 500, .inl KK)), (vB, .inl (cI, 500, .inl VV)), (oB, .inl (cI, 500, .inl (jb_O oo))), (sB, .inl (cI, 500, .inl Sq)), (eB, .inl (cI, 152, .inl Pf))] s.heap.size = A at hD ⊢
  have hA : ∀ q : Nat, s.heap.size ≤ q → A q := fun q h => by rw [← hAe]; exact Or.inr h
  have hS : va_S A s.heap s.heap [] := va_S.rf
  have hP : va_P (dC, dI) vwCl [(hJ, .inr (0, [.ref aS, .ref hR, .ref hL, .ref gL])), (hR, .inr (1, [.ref hF, .ref hE, .ref hQ, .int x.2.2.2])), (hF, .inl (cI, 11, .inl x.1)), (hE, .inl (cI, 1500, .inl x.2.1)), (hQ, .inl (cI, 4000, .inl x.2.2.1)), (hL, .inr (2, [.ref aS, .int 1, .ref kA, .ref vA, .ref oA, .ref sA, .ref eA, .int (nI n)])), (kA, .inl (cI, 500, .inl K)), (vA, .inl (cI, 500, .inl V)), (oA, .inl (cI, 500, .inl (jb_O o))), (sA, .inl (cI, 500, .inl Sp)), (eA, .inl (cI, 152, .inl Pe)), (gL, .inr (2, [.ref aS, .int 0, .ref kB, .ref vB, .ref oB, .ref sB, .ref eB, .int (nI nn)])), (kB, .inl (cI, 500, .inl KK)), (vB, .inl (cI, 500, .inl VV)), (oB, .inl (cI, 500, .inl (jb_O oo))), (sB, .inl (cI, 500, .inl Sq)), (eB, .inl (cI, 152, .inl Pf))] s.heap := hP
  have hl := lv_entry ([.ref hJ, .ref gL, .int (nI hf), .int (nI (hf + hs.length)), .ref hL, .int (nI of), .int (nI (of + os.length))]) (n := 11) (Nat.le_of_ble_eq_true rfl)
  rw [lg_entry_eq]
  generalize (lg_sl ([.ref hJ, .ref gL, .int (nI hf), .int (nI (hf + hs.length)), .ref hL, .int (nI of), .int (nI (of + os.length))]) ++ List.replicate (11 - (lg_sl ([.ref hJ, .ref gL, .int (nI hf), .int (nI (hf + hs.length)), .ref hL, .int (nI of), .int (nI (of + os.length))])).length) Slot.unset).toArray = ls at hl ⊢
  have hl : lv_has ls 11 [(0, .ref hJ), (1, .ref gL), (2, .int (nI hf)), (3, .int (nI (hf + hs.length))), (4, .ref hL), (5, .int (nI of)), (6, .int (nI (of + os.length)))] := hl
  refine lv_iload hx hb dX0_matchRows_0 (lv_at hl 5 rfl) ?_
  refine lv_istore (lv' := [(7, .int (nI of)), (0, .ref hJ), (1, .ref gL), (2, .int (nI hf)), (3, .int (nI (hf + hs.length))), (4, .ref hL), (5, .int (nI of)), (6, .int (nI (of + os.length)))]) hx hb dX0_matchRows_2 hl (by decide) rfl (fun ls hl => ?_)
  have ez : jc_pairs (jb_meet false KK K hs (os.take 0)) x = x := by rw [jb_meet_0]; rfl
  rw [← ez] at hP hD
  have hl_a : ∀ (k_a : Nat) (i : Nat), os.length - i < k_a → (i ≤ os.length) → ∀ (H : Heap) (locs : List Loc), va_P (dC, dI) vwCl [(hJ, .inr (0, [.ref aS, .ref hR, .ref hL, .ref gL])), (hR, .inr (1, [.ref hF, .ref hE, .ref hQ, .int ((jc_pairs (jb_meet false KK K hs (os.take i)) x).2.2.2)])), (hF, .inl (cI, 11, .inl ((jc_pairs (jb_meet false KK K hs (os.take i)) x).1))), (hE, .inl (cI, 1500, .inl ((jc_pairs (jb_meet false KK K hs (os.take i)) x).2.1))), (hQ, .inl (cI, 4000, .inl ((jc_pairs (jb_meet false KK K hs (os.take i)) x).2.2.1))), (hL, .inr (2, [.ref aS, .int 1, .ref kA, .ref vA, .ref oA, .ref sA, .ref eA, .int (nI n)])), (kA, .inl (cI, 500, .inl K)), (vA, .inl (cI, 500, .inl V)), (oA, .inl (cI, 500, .inl (jb_O o))), (sA, .inl (cI, 500, .inl Sp)), (eA, .inl (cI, 152, .inl Pe)), (gL, .inr (2, [.ref aS, .int 0, .ref kB, .ref vB, .ref oB, .ref sB, .ref eB, .int (nI nn)])), (kB, .inl (cI, 500, .inl KK)), (vB, .inl (cI, 500, .inl VV)), (oB, .inl (cI, 500, .inl (jb_O oo))), (sB, .inl (cI, 500, .inl Sq)), (eB, .inl (cI, 152, .inl Pf))] H → va_D A [(hJ, .inr (0, [.ref aS, .ref hR, .ref hL, .ref gL])), (hR, .inr (1, [.ref hF, .ref hE, .ref hQ, .int ((jc_pairs (jb_meet false KK K hs (os.take i)) x).2.2.2)])), (hF, .inl (cI, 11, .inl ((jc_pairs (jb_meet false KK K hs (os.take i)) x).1))), (hE, .inl (cI, 1500, .inl ((jc_pairs (jb_meet false KK K hs (os.take i)) x).2.1))), (hQ, .inl (cI, 4000, .inl ((jc_pairs (jb_meet false KK K hs (os.take i)) x).2.2.1))), (hL, .inr (2, [.ref aS, .int 1, .ref kA, .ref vA, .ref oA, .ref sA, .ref eA, .int (nI n)])), (kA, .inl (cI, 500, .inl K)), (vA, .inl (cI, 500, .inl V)), (oA, .inl (cI, 500, .inl (jb_O o))), (sA, .inl (cI, 500, .inl Sp)), (eA, .inl (cI, 152, .inl Pe)), (gL, .inr (2, [.ref aS, .int 0, .ref kB, .ref vB, .ref oB, .ref sB, .ref eB, .int (nI nn)])), (kB, .inl (cI, 500, .inl KK)), (vB, .inl (cI, 500, .inl VV)), (oB, .inl (cI, 500, .inl (jb_O oo))), (sB, .inl (cI, 500, .inl Sq)), (eB, .inl (cI, 152, .inl Pf))] → va_S A s.heap H locs → ∀ ls : Array Slot, lv_has ls 11 [(0, .ref hJ), (1, .ref gL), (2, .int (nI hf)), (3, .int (nI (hf + hs.length))), (4, .ref hL), (6, .int (nI (of + os.length))), (7, .int (nI (of + i)))] → W p l e ({ frames := 2, cells := 0, slots := 0, locals := 80 } : Room) s m ([.ref hJ, .ref gL, .int (nI hf), .int (nI (hf + hs.length)), .ref hL, .int (nI of), .int (nI (of + os.length))] : List Value).toArray below meth c H locs 0 0 (MQ below (va_Qv (fun (_ : Unit) => True) (jb_B dC dI A (fun _ => [(hJ, .inr (0, [.ref aS, .ref hR, .ref hL, .ref gL])), (hR, .inr (1, [.ref hF, .ref hE, .ref hQ, .int ((jc_pairs (jb_meet false KK K hs os) x).2.2.2)])), (hF, .inl (cI, 11, .inl ((jc_pairs (jb_meet false KK K hs os) x).1))), (hE, .inl (cI, 1500, .inl ((jc_pairs (jb_meet false KK K hs os) x).2.1))), (hQ, .inl (cI, 4000, .inl ((jc_pairs (jb_meet false KK K hs os) x).2.2.1))), (hL, .inr (2, [.ref aS, .int 1, .ref kA, .ref vA, .ref oA, .ref sA, .ref eA, .int (nI n)])), (kA, .inl (cI, 500, .inl K)), (vA, .inl (cI, 500, .inl V)), (oA, .inl (cI, 500, .inl (jb_O o))), (sA, .inl (cI, 500, .inl Sp)), (eA, .inl (cI, 152, .inl Pe)), (gL, .inr (2, [.ref aS, .int 0, .ref kB, .ref vB, .ref oB, .ref sB, .ref eB, .int (nI nn)])), (kB, .inl (cI, 500, .inl KK)), (vB, .inl (cI, 500, .inl VV)), (oB, .inl (cI, 500, .inl (jb_O oo))), (sB, .inl (cI, 500, .inl Sq)), (eB, .inl (cI, 152, .inl Pf))])) A) ([.ref hJ, .ref gL, .int (nI hf), .int (nI (hf + hs.length)), .ref hL, .int (nI of), .int (nI (of + os.length))] : List Value).toArray s 0 0 (A)) (F0 m 4 ls []) := by
    intro k_a
    induction k_a with
    | zero => intro i hk; exact absurd hk (Nat.not_lt_zero _)
    | succ k_a ih_a =>
      intro i hk_a hi H locs hP hD hS ls hl
      refine lv_iload hx hb dX0_matchRows_4 (lv_at hl 6 rfl) ?_
      refine lv_iload hx hb dX0_matchRows_6 (lv_at hl 5 rfl) ?_
      refine lv_icmp_ge (tgt := 104) hx hb dX0_matchRows_8 (by decide) (fun c_8 => ?_) (fun c_8 => ?_)
      · have hge : i = os.length := by have := (nI_leI (a := of + os.length) (b := of + i) (by omega) (by omega)).mp c_8; omega
        rw [hge, List.take_length] at hP hD
        have hP9 : va_P (dC, dI) vwCl [(hJ, .inr (0, [.ref aS, .ref hR, .ref hL, .ref gL])), (hR, .inr (1, [.ref hF, .ref hE, .ref hQ, .int ((jc_pairs (jb_meet false KK K hs os) x).2.2.2)])), (hF, .inl (cI, 11, .inl ((jc_pairs (jb_meet false KK K hs os) x).1))), (hE, .inl (cI, 1500, .inl ((jc_pairs (jb_meet false KK K hs os) x).2.1))), (hQ, .inl (cI, 4000, .inl ((jc_pairs (jb_meet false KK K hs os) x).2.2.1))), (hL, .inr (2, [.ref aS, .int 1, .ref kA, .ref vA, .ref oA, .ref sA, .ref eA, .int (nI n)])), (kA, .inl (cI, 500, .inl K)), (vA, .inl (cI, 500, .inl V)), (oA, .inl (cI, 500, .inl (jb_O o))), (sA, .inl (cI, 500, .inl Sp)), (eA, .inl (cI, 152, .inl Pe)), (gL, .inr (2, [.ref aS, .int 0, .ref kB, .ref vB, .ref oB, .ref sB, .ref eB, .int (nI nn)])), (kB, .inl (cI, 500, .inl KK)), (vB, .inl (cI, 500, .inl VV)), (oB, .inl (cI, 500, .inl (jb_O oo))), (sB, .inl (cI, 500, .inl Sq)), (eB, .inl (cI, 152, .inl Pf))] H := hP.sub [0, 1, 2, 3, 4, 5, 6, 7, 8, 9, 10, 11, 12, 13, 14, 15, 16] rfl
        have hD9 : va_D A [(hJ, .inr (0, [.ref aS, .ref hR, .ref hL, .ref gL])), (hR, .inr (1, [.ref hF, .ref hE, .ref hQ, .int ((jc_pairs (jb_meet false KK K hs os) x).2.2.2)])), (hF, .inl (cI, 11, .inl ((jc_pairs (jb_meet false KK K hs os) x).1))), (hE, .inl (cI, 1500, .inl ((jc_pairs (jb_meet false KK K hs os) x).2.1))), (hQ, .inl (cI, 4000, .inl ((jc_pairs (jb_meet false KK K hs os) x).2.2.1))), (hL, .inr (2, [.ref aS, .int 1, .ref kA, .ref vA, .ref oA, .ref sA, .ref eA, .int (nI n)])), (kA, .inl (cI, 500, .inl K)), (vA, .inl (cI, 500, .inl V)), (oA, .inl (cI, 500, .inl (jb_O o))), (sA, .inl (cI, 500, .inl Sp)), (eA, .inl (cI, 152, .inl Pe)), (gL, .inr (2, [.ref aS, .int 0, .ref kB, .ref vB, .ref oB, .ref sB, .ref eB, .int (nI nn)])), (kB, .inl (cI, 500, .inl KK)), (vB, .inl (cI, 500, .inl VV)), (oB, .inl (cI, 500, .inl (jb_O oo))), (sB, .inl (cI, 500, .inl Sq)), (eB, .inl (cI, 152, .inl Pf))] := hD.sub [0, 1, 2, 3, 4, 5, 6, 7, 8, 9, 10, 11, 12, 13, 14, 15, 16] (by decide) rfl
        exact W.vret hx hb hr (fun t ht hW => ⟨⟨(), rfl, trivial, by rw [ht]; exact hP9, hD9⟩, hS.F ht⟩) hS.2.2 dX0_matchRows_104
      · have hlt : i < os.length := by have := (jb_nle (a := of + os.length) (b := of + i) (by omega) (by omega)).mp c_8; omega
        refine lv_aload hx hb dX0_matchRows_11 (lv_at hl 4 rfl) ?_
        refine lv_iload hx hb dX0_matchRows_13 (lv_at hl 6 rfl) ?_
        refine vp_callSi (va_runV (As := [.int (nI (of + i))]) (rest := []) ⟨hx, hb, hml, hown, hts⟩ (c_keyAt l dC dI cI hL aS kA vA oA sA eA 1 K V o Sp Pe n (of + i) (by omega) hn (by rw [hin2 i hlt]; exact hb6 _ (jb_getD_mem hlt))) (cwV 1 hts gX0_matchRows_X2_keyAt rfl rfl rfl (by decide +kernel) ⟨(by decide +kernel), (by decide +kernel)⟩)  ⟨jb_R_blind, va_recv hK hP (ci := 2) (q0 := 5) rfl rfl, jb_R_pre (hP.sub (ws' := [(hL, .inr (2, [.ref aS, .int 1, .ref kA, .ref vA, .ref oA, .ref sA, .ref eA, .int (nI n)])), (kA, .inl (cI, 500, .inl K)), (vA, .inl (cI, 500, .inl V)), (oA, .inl (cI, 500, .inl (jb_O o))), (sA, .inl (cI, 500, .inl Sp)), (eA, .inl (cI, 152, .inl Pe))]) [5, 6, 7, 8, 9, 10] rfl) hK hNw⟩ rfl rfl hl.1 rfl (lv_room (Nat.le_of_ble_eq_true rfl)) dX0_matchRows_15 ⟨by decide +kernel, by decide +kernel⟩).run (fun r_1 hr_1 => ?_)
        subst hr_1
        refine lv_topi (fun v_2 ev_2 => ?_)
        have hv_2 : v_2 = K (os.getD i 0) := ev_2.trans (congrArg K (hin2 i hlt))
        clear ev_2; subst hv_2
        refine lv_istore (lv' := [(8, .int (K (os.getD i 0))), (0, .ref hJ), (1, .ref gL), (2, .int (nI hf)), (3, .int (nI (hf + hs.length))), (4, .ref hL), (6, .int (nI (of + os.length))), (7, .int (nI (of + i)))]) hx hb dX0_matchRows_18 hl (by decide) rfl (fun ls hl => ?_)
        refine lv_aload hx hb dX0_matchRows_20 (lv_at hl 5 rfl) ?_
        refine lv_iload hx hb dX0_matchRows_22 (lv_at hl 7 rfl) ?_
        refine vp_callSi (va_runV (As := [.int (nI (of + i))]) (rest := []) ⟨hx, hb, hml, hown, hts⟩ (c_rowAt l dC dI cI hL aS kA vA oA sA eA 1 K V o Sp Pe n (of + i) (by omega) hn) (cwV 1 hts gX0_matchRows_X2_rowAt rfl rfl rfl (by decide +kernel) ⟨(by decide +kernel), (by decide +kernel)⟩)  ⟨jb_R_blind, va_recv hK hP (ci := 2) (q0 := 5) rfl rfl, jb_R_pre (hP.sub (ws' := [(hL, .inr (2, [.ref aS, .int 1, .ref kA, .ref vA, .ref oA, .ref sA, .ref eA, .int (nI n)])), (kA, .inl (cI, 500, .inl K)), (vA, .inl (cI, 500, .inl V)), (oA, .inl (cI, 500, .inl (jb_O o))), (sA, .inl (cI, 500, .inl Sp)), (eA, .inl (cI, 152, .inl Pe))]) [5, 6, 7, 8, 9, 10] rfl) hK hNw⟩ rfl rfl hl.1 rfl (lv_room (Nat.le_of_ble_eq_true rfl)) dX0_matchRows_24 ⟨by decide +kernel, by decide +kernel⟩).run (fun r_3 hr_3 => ?_)
        subst hr_3
        refine lv_topi (fun v_4 ev_4 => ?_)
        have hv_4 : v_4 = nI (os.getD i 0) := ev_4.trans (congrArg nI (hin2 i hlt))
        clear ev_4; subst hv_4
        refine lv_istore (lv' := [(9, .int (nI (os.getD i 0))), (8, .int (K (os.getD i 0))), (0, .ref hJ), (1, .ref gL), (2, .int (nI hf)), (3, .int (nI (hf + hs.length))), (4, .ref hL), (6, .int (nI (of + os.length))), (7, .int (nI (of + i)))]) hx hb dX0_matchRows_27 hl (by decide) rfl (fun ls hl => ?_)
        refine lv_iload_n hx hb dX0_matchRows_29 rfl (lv_at hl 4 rfl) ?_
        refine lv_istore (lv' := [(10, .int (nI hf)), (9, .int (nI (os.getD i 0))), (8, .int (K (os.getD i 0))), (0, .ref hJ), (1, .ref gL), (2, .int (nI hf)), (3, .int (nI (hf + hs.length))), (4, .ref hL), (6, .int (nI (of + os.length))), (7, .int (nI (of + i)))]) hx hb dX0_matchRows_30 hl (by decide) rfl (fun ls hl => ?_)
        have ez : jb_meet false KK K hs (os.take i) ++ jb_mt false KK K (hs.take 0) (os.getD i 0) = jb_meet false KK K hs (os.take i) := by rw [jb_mt_0, List.append_nil]
        rw [← ez] at hP hD
        have hl_b : ∀ (k_b : Nat) (j : Nat), hs.length - j < k_b → (j ≤ hs.length) → ∀ (H : Heap) (locs : List Loc), va_P (dC, dI) vwCl [(hJ, .inr (0, [.ref aS, .ref hR, .ref hL, .ref gL])), (hR, .inr (1, [.ref hF, .ref hE, .ref hQ, .int ((jc_pairs (jb_meet false KK K hs (os.take i) ++ jb_mt false KK K (hs.take j) (os.getD i 0)) x).2.2.2)])), (hF, .inl (cI, 11, .inl ((jc_pairs (jb_meet false KK K hs (os.take i) ++ jb_mt false KK K (hs.take j) (os.getD i 0)) x).1))), (hE, .inl (cI, 1500, .inl ((jc_pairs (jb_meet false KK K hs (os.take i) ++ jb_mt false KK K (hs.take j) (os.getD i 0)) x).2.1))), (hQ, .inl (cI, 4000, .inl ((jc_pairs (jb_meet false KK K hs (os.take i) ++ jb_mt false KK K (hs.take j) (os.getD i 0)) x).2.2.1))), (hL, .inr (2, [.ref aS, .int 1, .ref kA, .ref vA, .ref oA, .ref sA, .ref eA, .int (nI n)])), (kA, .inl (cI, 500, .inl K)), (vA, .inl (cI, 500, .inl V)), (oA, .inl (cI, 500, .inl (jb_O o))), (sA, .inl (cI, 500, .inl Sp)), (eA, .inl (cI, 152, .inl Pe)), (gL, .inr (2, [.ref aS, .int 0, .ref kB, .ref vB, .ref oB, .ref sB, .ref eB, .int (nI nn)])), (kB, .inl (cI, 500, .inl KK)), (vB, .inl (cI, 500, .inl VV)), (oB, .inl (cI, 500, .inl (jb_O oo))), (sB, .inl (cI, 500, .inl Sq)), (eB, .inl (cI, 152, .inl Pf))] H → va_D A [(hJ, .inr (0, [.ref aS, .ref hR, .ref hL, .ref gL])), (hR, .inr (1, [.ref hF, .ref hE, .ref hQ, .int ((jc_pairs (jb_meet false KK K hs (os.take i) ++ jb_mt false KK K (hs.take j) (os.getD i 0)) x).2.2.2)])), (hF, .inl (cI, 11, .inl ((jc_pairs (jb_meet false KK K hs (os.take i) ++ jb_mt false KK K (hs.take j) (os.getD i 0)) x).1))), (hE, .inl (cI, 1500, .inl ((jc_pairs (jb_meet false KK K hs (os.take i) ++ jb_mt false KK K (hs.take j) (os.getD i 0)) x).2.1))), (hQ, .inl (cI, 4000, .inl ((jc_pairs (jb_meet false KK K hs (os.take i) ++ jb_mt false KK K (hs.take j) (os.getD i 0)) x).2.2.1))), (hL, .inr (2, [.ref aS, .int 1, .ref kA, .ref vA, .ref oA, .ref sA, .ref eA, .int (nI n)])), (kA, .inl (cI, 500, .inl K)), (vA, .inl (cI, 500, .inl V)), (oA, .inl (cI, 500, .inl (jb_O o))), (sA, .inl (cI, 500, .inl Sp)), (eA, .inl (cI, 152, .inl Pe)), (gL, .inr (2, [.ref aS, .int 0, .ref kB, .ref vB, .ref oB, .ref sB, .ref eB, .int (nI nn)])), (kB, .inl (cI, 500, .inl KK)), (vB, .inl (cI, 500, .inl VV)), (oB, .inl (cI, 500, .inl (jb_O oo))), (sB, .inl (cI, 500, .inl Sq)), (eB, .inl (cI, 152, .inl Pf))] → va_S A s.heap H locs → ∀ ls : Array Slot, lv_has ls 11 [(0, .ref hJ), (1, .ref gL), (2, .int (nI hf)), (3, .int (nI (hf + hs.length))), (4, .ref hL), (6, .int (nI (of + os.length))), (7, .int (nI (of + i))), (8, .int (K (os.getD i 0))), (9, .int (nI (os.getD i 0))), (10, .int (nI (hf + j)))] → W p l e ({ frames := 2, cells := 0, slots := 0, locals := 80 } : Room) s m ([.ref hJ, .ref gL, .int (nI hf), .int (nI (hf + hs.length)), .ref hL, .int (nI of), .int (nI (of + os.length))] : List Value).toArray below meth c H locs 0 0 (MQ below (va_Qv (fun (_ : Unit) => True) (jb_B dC dI A (fun _ => [(hJ, .inr (0, [.ref aS, .ref hR, .ref hL, .ref gL])), (hR, .inr (1, [.ref hF, .ref hE, .ref hQ, .int ((jc_pairs (jb_meet false KK K hs os) x).2.2.2)])), (hF, .inl (cI, 11, .inl ((jc_pairs (jb_meet false KK K hs os) x).1))), (hE, .inl (cI, 1500, .inl ((jc_pairs (jb_meet false KK K hs os) x).2.1))), (hQ, .inl (cI, 4000, .inl ((jc_pairs (jb_meet false KK K hs os) x).2.2.1))), (hL, .inr (2, [.ref aS, .int 1, .ref kA, .ref vA, .ref oA, .ref sA, .ref eA, .int (nI n)])), (kA, .inl (cI, 500, .inl K)), (vA, .inl (cI, 500, .inl V)), (oA, .inl (cI, 500, .inl (jb_O o))), (sA, .inl (cI, 500, .inl Sp)), (eA, .inl (cI, 152, .inl Pe)), (gL, .inr (2, [.ref aS, .int 0, .ref kB, .ref vB, .ref oB, .ref sB, .ref eB, .int (nI nn)])), (kB, .inl (cI, 500, .inl KK)), (vB, .inl (cI, 500, .inl VV)), (oB, .inl (cI, 500, .inl (jb_O oo))), (sB, .inl (cI, 500, .inl Sq)), (eB, .inl (cI, 152, .inl Pf))])) A) ([.ref hJ, .ref gL, .int (nI hf), .int (nI (hf + hs.length)), .ref hL, .int (nI of), .int (nI (of + os.length))] : List Value).toArray s 0 0 (A)) (F0 m 32 ls []) := by
          intro k_b
          induction k_b with
          | zero => intro j hk; exact absurd hk (Nat.not_lt_zero _)
          | succ k_b ih_b =>
            intro j hk_b hj H locs hP hD hS ls hl
            refine lv_iload hx hb dX0_matchRows_32 (lv_at hl 9 rfl) ?_
            refine lv_iload_n hx hb dX0_matchRows_34 rfl (lv_at hl 3 rfl) ?_
            refine lv_icmp_ge (tgt := 98) hx hb dX0_matchRows_35 (by decide) (fun c_35 => ?_) (fun c_35 => ?_)
            · have hge : j = hs.length := by have := (nI_leI (a := hf + hs.length) (b := hf + j) (by omega) (by omega)).mp c_35; omega
              rw [hge, List.take_length, jb_meet_s hlt] at hP hD
              refine lv_iinc (v := nI (of + i + 1)) (lv' := [(7, .int (nI (of + i + 1))), (0, .ref hJ), (1, .ref gL), (2, .int (nI hf)), (3, .int (nI (hf + hs.length))), (4, .ref hL), (6, .int (nI (of + os.length))), (8, .int (K (os.getD i 0))), (9, .int (nI (os.getD i 0))), (10, .int (nI (hf + j)))]) hx hb dX0_matchRows_98 hl (k := 6) rfl (nI_1 _) (by decide) rfl (fun ls hl => ?_)
              refine lv_goto (tgt := 4) hx hb dX0_matchRows_101 (by decide) ?_
              exact ih_a (i + 1) (by omega) hlt H locs hP hD hS ls (lv_sub hl [1, 2, 3, 4, 5, 6, 0] rfl)
            · have hlt2 : j < hs.length := by have := (jb_nle (a := hf + hs.length) (b := hf + j) (by omega) (by omega)).mp c_35; omega
              refine lv_aload_n hx hb dX0_matchRows_38 rfl (lv_at hl 1 rfl) ?_
              refine lv_iload hx hb dX0_matchRows_39 (lv_at hl 9 rfl) ?_
              refine vp_callSi (va_runV (As := [.int (nI (hf + j))]) (rest := []) ⟨hx, hb, hml, hown, hts⟩ (c_keyAt l dC dI cI gL aS kB vB oB sB eB 0 KK VV oo Sq Pf nn (hf + j) (by omega) hn2 (by rw [hin j hlt2]; exact hb5 _ (jb_getD_mem hlt2))) (cwV 1 hts gX0_matchRows_X2_keyAt rfl rfl rfl (by decide +kernel) ⟨(by decide +kernel), (by decide +kernel)⟩)  ⟨jb_R_blind, va_recv hK hP (ci := 2) (q0 := 11) rfl rfl, jb_R_pre (hP.sub (ws' := [(gL, .inr (2, [.ref aS, .int 0, .ref kB, .ref vB, .ref oB, .ref sB, .ref eB, .int (nI nn)])), (kB, .inl (cI, 500, .inl KK)), (vB, .inl (cI, 500, .inl VV)), (oB, .inl (cI, 500, .inl (jb_O oo))), (sB, .inl (cI, 500, .inl Sq)), (eB, .inl (cI, 152, .inl Pf))]) [11, 12, 13, 14, 15, 16] rfl) hK hNw⟩ rfl rfl hl.1 rfl (lv_room (Nat.le_of_ble_eq_true rfl)) dX0_matchRows_41 ⟨by decide +kernel, by decide +kernel⟩).run (fun r_5 hr_5 => ?_)
              subst hr_5
              refine lv_topi (fun v_6 ev_6 => ?_)
              have hv_6 : v_6 = KK (hs.getD j 0) := ev_6.trans (congrArg KK (hin j hlt2))
              clear ev_6; subst hv_6
              refine lv_iload hx hb dX0_matchRows_44 (lv_at hl 7 rfl) ?_
              refine lv_icmp_eq (tgt := 52) hx hb dX0_matchRows_46 (by decide) (fun c_46 => ?_) (fun c_46 => ?_)
              · refine lv_aload_n hx hb dX0_matchRows_52 rfl (lv_at hl 1 rfl) ?_
                refine va_getN (D := (dC, dI)) (ci := 2) (v := .int 0) (C := RX2) (T := TX2) (N := 8) hx hb hts iX0_matchRows_X2 hown hK hP 11 rfl rfl 1 (by decide) (hNw.use (q := (RX0, 109, "JoinBench$Side", "isLeft", "Z")) (by decide +kernel)) (fun _ h9 => h9) rfl dX0_matchRows_53 ?_
                refine lv_if_eq (tgt := 77) hx hb dX0_matchRows_56 (by decide) (fun c_56 => ?_) (fun c_56 => ?_)
                · refine lv_aload_n hx hb dX0_matchRows_77 rfl (lv_at hl 0 rfl) ?_
                  refine va_get (D := (dC, dI)) (ci := 0) (v := .ref hR) (C := RX0) (T := TX0) (N := 4) hx hb hts iX0_matchRows_X0 hown hK hP 0 rfl rfl 1 (by decide) (hts (.fieldLink RX0 15 "JoinBench$Joiner" "report" "LJoinBench$Report;") (by decide +kernel)) (fun _ h9 => h9) rfl dX0_matchRows_78 ?_
                  refine lv_iload hx hb dX0_matchRows_81 (lv_at hl 8 rfl) ?_
                  refine lv_aload_n hx hb dX0_matchRows_83 rfl (lv_at hl 1 rfl) ?_
                  refine lv_iload hx hb dX0_matchRows_84 (lv_at hl 9 rfl) ?_
                  refine vp_callSi (va_runV (As := [.int (nI (hf + j))]) (rest := [.int (nI (os.getD i 0)), .ref hR]) ⟨hx, hb, hml, hown, hts⟩ (c_rowAt l dC dI cI gL aS kB vB oB sB eB 0 KK VV oo Sq Pf nn (hf + j) (by omega) hn2) (cwV 1 hts gX0_matchRows_X2_rowAt rfl rfl rfl (by decide +kernel) ⟨(by decide +kernel), (by decide +kernel)⟩)  ⟨jb_R_blind, va_recv hK hP (ci := 2) (q0 := 11) rfl rfl, jb_R_pre (hP.sub (ws' := [(gL, .inr (2, [.ref aS, .int 0, .ref kB, .ref vB, .ref oB, .ref sB, .ref eB, .int (nI nn)])), (kB, .inl (cI, 500, .inl KK)), (vB, .inl (cI, 500, .inl VV)), (oB, .inl (cI, 500, .inl (jb_O oo))), (sB, .inl (cI, 500, .inl Sq)), (eB, .inl (cI, 152, .inl Pf))]) [11, 12, 13, 14, 15, 16] rfl) hK hNw⟩ rfl rfl hl.1 rfl (lv_room (Nat.le_of_ble_eq_true rfl)) dX0_matchRows_86 ⟨by decide +kernel, by decide +kernel⟩).run (fun r_7 hr_7 => ?_)
                  subst hr_7
                  refine lv_topi (fun v_8 ev_8 => ?_)
                  have hv_8 : v_8 = nI (hs.getD j 0) := ev_8.trans (congrArg nI (hin j hlt2))
                  clear ev_8; subst hv_8
                  have hnx : (jc_pairs (jb_meet false KK K hs (os.take i) ++ jb_mt false KK K (hs.take j) (os.getD i 0)) x).1 10 = nI (np + (jb_meet false KK K hs (os.take i) ++ jb_mt false KK K (hs.take j) (os.getD i 0)).length) := jc_pairs_n _ hnp
                  have hxl : (jb_meet false KK K hs (os.take i) ++ jb_mt false KK K (hs.take j) (os.getD i 0)).length ≤ hs.length * os.length := jb_X_le hlt
                  have hcl : ((jc_pairs (jb_meet false KK K hs (os.take i) ++ jb_mt false KK K (hs.take j) (os.getD i 0)) x).1 10).toNatClampNeg = np + (jb_meet false KK K hs (os.take i) ++ jb_mt false KK K (hs.take j) (os.getD i 0)).length := by rw [hnx]; exact nI_clamp (by omega)
                  refine jb_cv (wc := [(hR, .inr (1, [.ref hF, .ref hE, .ref hQ, .int ((jc_pairs (jb_meet false KK K hs (os.take i) ++ jb_mt false KK K (hs.take j) (os.getD i 0)) x).2.2.2)])), (hF, .inl (cI, 11, .inl ((jc_pairs (jb_meet false KK K hs (os.take i) ++ jb_mt false KK K (hs.take j) (os.getD i 0)) x).1))), (hE, .inl (cI, 1500, .inl ((jc_pairs (jb_meet false KK K hs (os.take i) ++ jb_mt false KK K (hs.take j) (os.getD i 0)) x).2.1))), (hQ, .inl (cI, 4000, .inl ((jc_pairs (jb_meet false KK K hs (os.take i) ++ jb_mt false KK K (hs.take j) (os.getD i 0)) x).2.2.1)))]) (wr := [(hJ, .inr (0, [.ref aS, .ref hR, .ref hL, .ref gL])), (hL, .inr (2, [.ref aS, .int 1, .ref kA, .ref vA, .ref oA, .ref sA, .ref eA, .int (nI n)])), (kA, .inl (cI, 500, .inl K)), (vA, .inl (cI, 500, .inl V)), (oA, .inl (cI, 500, .inl (jb_O o))), (sA, .inl (cI, 500, .inl Sp)), (eA, .inl (cI, 152, .inl Pe)), (gL, .inr (2, [.ref aS, .int 0, .ref kB, .ref vB, .ref oB, .ref sB, .ref eB, .int (nI nn)])), (kB, .inl (cI, 500, .inl KK)), (vB, .inl (cI, 500, .inl VV)), (oB, .inl (cI, 500, .inl (jb_O oo))), (sB, .inl (cI, 500, .inl Sq)), (eB, .inl (cI, 152, .inl Pf))]) (va_runV (As := [.int (nI (os.getD i 0)), .int (nI (hs.getD j 0))]) (rest := []) ⟨hx, hb, hml, hown, hts⟩ (c_addPair l dC dI cI H.size hR hF hE hQ (jc_pairs (jb_meet false KK K hs (os.take i) ++ jb_mt false KK K (hs.take j) (os.getD i 0)) x).1 (jc_pairs (jb_meet false KK K hs (os.take i) ++ jb_mt false KK K (hs.take j) (os.getD i 0)) x).2.1 (jc_pairs (jb_meet false KK K hs (os.take i) ++ jb_mt false KK K (hs.take j) (os.getD i 0)) x).2.2.1 (jc_pairs (jb_meet false KK K hs (os.take i) ++ jb_mt false KK K (hs.take j) (os.getD i 0)) x).2.2.2 ((jc_pairs (jb_meet false KK K hs (os.take i) ++ jb_mt false KK K (hs.take j) (os.getD i 0)) x).1 10).toNatClampNeg (nI (os.getD i 0)) (nI (hs.getD j 0)) (by rw [hcl]; exact hnx) (by rw [hcl]; omega)) (cwV 2 hts gX0_matchRows_X1_addPair rfl rfl rfl (by decide +kernel) ⟨(by decide +kernel), (by decide +kernel)⟩)  ⟨jb_M_blind, va_recv hK hP (ci := 1) (q0 := 1) rfl rfl, jb_M_pre (hP.sub (ws' := [(hR, .inr (1, [.ref hF, .ref hE, .ref hQ, .int ((jc_pairs (jb_meet false KK K hs (os.take i) ++ jb_mt false KK K (hs.take j) (os.getD i 0)) x).2.2.2)])), (hF, .inl (cI, 11, .inl ((jc_pairs (jb_meet false KK K hs (os.take i) ++ jb_mt false KK K (hs.take j) (os.getD i 0)) x).1))), (hE, .inl (cI, 1500, .inl ((jc_pairs (jb_meet false KK K hs (os.take i) ++ jb_mt false KK K (hs.take j) (os.getD i 0)) x).2.1))), (hQ, .inl (cI, 4000, .inl ((jc_pairs (jb_meet false KK K hs (os.take i) ++ jb_mt false KK K (hs.take j) (os.getD i 0)) x).2.2.1)))]) [1, 2, 3, 4] rfl) (hD.sub (ws' := [(hR, .inr (1, [.ref hF, .ref hE, .ref hQ, .int ((jc_pairs (jb_meet false KK K hs (os.take i) ++ jb_mt false KK K (hs.take j) (os.getD i 0)) x).2.2.2)])), (hF, .inl (cI, 11, .inl ((jc_pairs (jb_meet false KK K hs (os.take i) ++ jb_mt false KK K (hs.take j) (os.getD i 0)) x).1))), (hE, .inl (cI, 1500, .inl ((jc_pairs (jb_meet false KK K hs (os.take i) ++ jb_mt false KK K (hs.take j) (os.getD i 0)) x).2.1))), (hQ, .inl (cI, 4000, .inl ((jc_pairs (jb_meet false KK K hs (os.take i) ++ jb_mt false KK K (hs.take j) (os.getD i 0)) x).2.2.1)))]) [1, 2, 3, 4] (by decide) rfl) hK hNw⟩ rfl rfl hl.1 rfl (lv_room (Nat.le_of_ble_eq_true rfl)) dX0_matchRows_89 ⟨by decide +kernel, by decide +kernel⟩) hP hD hS hA [1, 2, 3, 4] [0, 5, 6, 7, 8, 9, 10, 11, 12, 13, 14, 15, 16] rfl rfl (by decide) (by decide) (fun u_9 H locs hu_9 hP hD hS => ?_)
                  have hP : va_P (dC, dI) vwCl [(hJ, .inr (0, [.ref aS, .ref hR, .ref hL, .ref gL])), (hR, .inr (1, [.ref hF, .ref hE, .ref hQ, .int ((jc_pair (jc_pairs (jb_meet false KK K hs (os.take i) ++ jb_mt false KK K (hs.take j) (os.getD i 0)) x) ((os.getD i 0), (hs.getD j 0))).2.2.2)])), (hF, .inl (cI, 11, .inl ((jc_pair (jc_pairs (jb_meet false KK K hs (os.take i) ++ jb_mt false KK K (hs.take j) (os.getD i 0)) x) ((os.getD i 0), (hs.getD j 0))).1))), (hE, .inl (cI, 1500, .inl ((jc_pair (jc_pairs (jb_meet false KK K hs (os.take i) ++ jb_mt false KK K (hs.take j) (os.getD i 0)) x) ((os.getD i 0), (hs.getD j 0))).2.1))), (hQ, .inl (cI, 4000, .inl ((jc_pair (jc_pairs (jb_meet false KK K hs (os.take i) ++ jb_mt false KK K (hs.take j) (os.getD i 0)) x) ((os.getD i 0), (hs.getD j 0))).2.2.1))), (hL, .inr (2, [.ref aS, .int 1, .ref kA, .ref vA, .ref oA, .ref sA, .ref eA, .int (nI n)])), (kA, .inl (cI, 500, .inl K)), (vA, .inl (cI, 500, .inl V)), (oA, .inl (cI, 500, .inl (jb_O o))), (sA, .inl (cI, 500, .inl Sp)), (eA, .inl (cI, 152, .inl Pe)), (gL, .inr (2, [.ref aS, .int 0, .ref kB, .ref vB, .ref oB, .ref sB, .ref eB, .int (nI nn)])), (kB, .inl (cI, 500, .inl KK)), (vB, .inl (cI, 500, .inl VV)), (oB, .inl (cI, 500, .inl (jb_O oo))), (sB, .inl (cI, 500, .inl Sq)), (eB, .inl (cI, 152, .inl Pf))] H := hP.sub [0, 13, 14, 15, 16, 1, 2, 3, 4, 5, 6, 7, 8, 9, 10, 11, 12] rfl
                  have hD : va_D A [(hJ, .inr (0, [.ref aS, .ref hR, .ref hL, .ref gL])), (hR, .inr (1, [.ref hF, .ref hE, .ref hQ, .int ((jc_pair (jc_pairs (jb_meet false KK K hs (os.take i) ++ jb_mt false KK K (hs.take j) (os.getD i 0)) x) ((os.getD i 0), (hs.getD j 0))).2.2.2)])), (hF, .inl (cI, 11, .inl ((jc_pair (jc_pairs (jb_meet false KK K hs (os.take i) ++ jb_mt false KK K (hs.take j) (os.getD i 0)) x) ((os.getD i 0), (hs.getD j 0))).1))), (hE, .inl (cI, 1500, .inl ((jc_pair (jc_pairs (jb_meet false KK K hs (os.take i) ++ jb_mt false KK K (hs.take j) (os.getD i 0)) x) ((os.getD i 0), (hs.getD j 0))).2.1))), (hQ, .inl (cI, 4000, .inl ((jc_pair (jc_pairs (jb_meet false KK K hs (os.take i) ++ jb_mt false KK K (hs.take j) (os.getD i 0)) x) ((os.getD i 0), (hs.getD j 0))).2.2.1))), (hL, .inr (2, [.ref aS, .int 1, .ref kA, .ref vA, .ref oA, .ref sA, .ref eA, .int (nI n)])), (kA, .inl (cI, 500, .inl K)), (vA, .inl (cI, 500, .inl V)), (oA, .inl (cI, 500, .inl (jb_O o))), (sA, .inl (cI, 500, .inl Sp)), (eA, .inl (cI, 152, .inl Pe)), (gL, .inr (2, [.ref aS, .int 0, .ref kB, .ref vB, .ref oB, .ref sB, .ref eB, .int (nI nn)])), (kB, .inl (cI, 500, .inl KK)), (vB, .inl (cI, 500, .inl VV)), (oB, .inl (cI, 500, .inl (jb_O oo))), (sB, .inl (cI, 500, .inl Sq)), (eB, .inl (cI, 152, .inl Pf))] := hD.sub [0, 13, 14, 15, 16, 1, 2, 3, 4, 5, 6, 7, 8, 9, 10, 11, 12] (by decide) rfl
                  rw [← jc_pairs_snoc, List.append_assoc, ← jb_mt_eqF hlt2 c_46] at hP hD
                  refine lv_iinc (v := nI (hf + j + 1)) (lv' := [(10, .int (nI (hf + j + 1))), (0, .ref hJ), (1, .ref gL), (2, .int (nI hf)), (3, .int (nI (hf + hs.length))), (4, .ref hL), (6, .int (nI (of + os.length))), (7, .int (nI (of + i))), (8, .int (K (os.getD i 0))), (9, .int (nI (os.getD i 0)))]) hx hb dX0_matchRows_92 hl (k := 9) rfl (nI_1 _) (by decide) rfl (fun ls hl => ?_)
                  refine lv_goto (tgt := 32) hx hb dX0_matchRows_95 (by decide) ?_
                  exact ih_b (j + 1) (by omega) hlt2 H locs hP hD hS ls (lv_sub hl [1, 2, 3, 4, 5, 6, 7, 8, 9, 0] rfl)
                · exact absurd rfl c_56
              · rw [← jb_mt_ne hlt2 c_46] at hP hD
                refine lv_goto (tgt := 92) hx hb dX0_matchRows_49 (by decide) ?_
                refine lv_iinc (v := nI (hf + j + 1)) (lv' := [(10, .int (nI (hf + j + 1))), (0, .ref hJ), (1, .ref gL), (2, .int (nI hf)), (3, .int (nI (hf + hs.length))), (4, .ref hL), (6, .int (nI (of + os.length))), (7, .int (nI (of + i))), (8, .int (K (os.getD i 0))), (9, .int (nI (os.getD i 0)))]) hx hb dX0_matchRows_92 hl (k := 9) rfl (nI_1 _) (by decide) rfl (fun ls hl => ?_)
                refine lv_goto (tgt := 32) hx hb dX0_matchRows_95 (by decide) ?_
                exact ih_b (j + 1) (by omega) hlt2 H locs hP hD hS ls (lv_sub hl [1, 2, 3, 4, 5, 6, 7, 8, 9, 0] rfl)
        exact hl_b (hs.length - 0 + 1) 0 (by omega) (Nat.zero_le _) H locs hP hD hS ls (lv_sub hl [3, 4, 5, 6, 7, 8, 9, 2, 1, 0] rfl)
  exact hl_a (os.length - 0 + 1) 0 (by omega) (Nat.zero_le _) s.heap [] hP hD hS ls (lv_sub hl [1, 2, 3, 4, 5, 7, 0] rfl)
end
section
/-! JoinBench$Joiner: passBlocks, joinBlocks -/
theorem jb_imax1 {a : Nat} (h : 1 ≤ a) (ha : a < 1000000) : (if (1 : Int32) < nI a then nI a else 1) = nI a := by
  by_cases hh : 1 < a
  · show (if nI 1 < nI a then nI a else nI 1) = nI a
    rw [if_pos ((nI_ltI (a := 1) (b := a) (by omega) (by omega)).mpr hh)]
  · obtain rfl : a = 1 := by omega
    rfl
theorem jb_nb_le {step n b : Nat} (hs : 1 ≤ step) (h : b ≤ jb_nb step n) : b * step < n + step := by
  cases b with
  | zero => omega
  | succ b =>
    have := (jb_nb_lt (n := n) (b := b) hs).mp (by omega)
    rw [Nat.succ_mul]
    omega
theorem jb_step {per mem : Nat} (h1 : 1 ≤ per) (hp : per ≤ 16) (hm : 3 ≤ mem) (hm2 : mem ≤ 20) : 1 ≤ (mem - 2) * per ∧ (mem - 2) * per ≤ 288 := by
  constructor
  · exact Nat.mul_le_mul (show 1 ≤ mem - 2 by omega) h1
  · exact Nat.mul_le_mul (show mem - 2 ≤ 18 by omega) hp
theorem iX0_passBlocks_X0 : ∀ w ∈ wsX00, w ∈ wsX0_passBlocks := by decide +kernel
set_option maxHeartbeats 1000000 in
set_option maxRecDepth 100000 in
/-- Joiner.passBlocks -/
theorem c_passL (l : Launch) (dC : Nat → ClassId) (dI : Nat → Nat → Nat) (cI : ClassId) (sz : Nat) (hJ aS aN hR hF hE hQ hL kA vA oA sA eA gL kB vB oB sB eB per mem par : Nat) (K V : Nat → Int32) (o : Nat → Nat) (Sp Pe : Nat → Int32) (n : Nat) (KK VV : Nat → Int32) (oo : Nat → Nat) (Sq Pf : Nat → Int32) (nn : Nat) (x : jbR) (hs os : List Nat) (hf of np : Nat) (hin : jb_in o hf hs) (hin2 : jb_in oo of os) (hb5 : ∀ r ∈ hs, r < 500) (hb6 : ∀ r ∈ os, r < 500) (hto : hf + hs.length ≤ n) (hto2 : of + os.length ≤ nn) (hn : n ≤ 500) (hn2 : nn ≤ 500) (h1 : 1 ≤ per) (hp : per ≤ 16) (hm : 3 ≤ mem) (hm2 : mem ≤ 20) (hnp : x.1 10 = nI np) (hbd : np + hs.length * os.length < 1000000) : Met l yX0_passBlocks wsX0_passBlocks ({ frames := 4, cells := 0, slots := 0, locals := 160 } : Room) (va_Pc [.ref hJ, .ref hL, .int (nI hf), .int (nI (hf + hs.length)), .ref gL, .int (nI of), .int (nI (of + os.length))] (jb_M dC dI cI sz [(hJ, .inr (0, [.ref aS, .ref hR, .ref hL, .ref gL])), (aS, .inr (3, [.ref aN])), (aN, .inl (cI, 3, .inl (jb_now per mem par))), (hR, .inr (1, [.ref hF, .ref hE, .ref hQ, .int x.2.2.2])), (hF, .inl (cI, 11, .inl x.1)), (hE, .inl (cI, 1500, .inl x.2.1)), (hQ, .inl (cI, 4000, .inl x.2.2.1)), (hL, .inr (2, [.ref aS, .int 1, .ref kA, .ref vA, .ref oA, .ref sA, .ref eA, .int (nI n)])), (kA, .inl (cI, 500, .inl K)), (vA, .inl (cI, 500, .inl V)), (oA, .inl (cI, 500, .inl (jb_O o))), (sA, .inl (cI, 500, .inl Sp)), (eA, .inl (cI, 152, .inl Pe)), (gL, .inr (2, [.ref aS, .int 0, .ref kB, .ref vB, .ref oB, .ref sB, .ref eB, .int (nI nn)])), (kB, .inl (cI, 500, .inl KK)), (vB, .inl (cI, 500, .inl VV)), (oB, .inl (cI, 500, .inl (jb_O oo))), (sB, .inl (cI, 500, .inl Sq)), (eB, .inl (cI, 152, .inl Pf))])) (va_Qi (fun r (_ : Unit) => r = nI (jb_nb ((mem - 2) * per) hs.length)) (jb_B dC dI (va_A [(hJ, .inr (0, [.ref aS, .ref hR, .ref hL, .ref gL])), (aS, .inr (3, [.ref aN])), (aN, .inl (cI, 3, .inl (jb_now per mem par))), (hR, .inr (1, [.ref hF, .ref hE, .ref hQ, .int x.2.2.2])), (hF, .inl (cI, 11, .inl x.1)), (hE, .inl (cI, 1500, .inl x.2.1)), (hQ, .inl (cI, 4000, .inl x.2.2.1)), (hL, .inr (2, [.ref aS, .int 1, .ref kA, .ref vA, .ref oA, .ref sA, .ref eA, .int (nI n)])), (kA, .inl (cI, 500, .inl K)), (vA, .inl (cI, 500, .inl V)), (oA, .inl (cI, 500, .inl (jb_O o))), (sA, .inl (cI, 500, .inl Sp)), (eA, .inl (cI, 152, .inl Pe)), (gL, .inr (2, [.ref aS, .int 0, .ref kB, .ref vB, .ref oB, .ref sB, .ref eB, .int (nI nn)])), (kB, .inl (cI, 500, .inl KK)), (vB, .inl (cI, 500, .inl VV)), (oB, .inl (cI, 500, .inl (jb_O oo))), (sB, .inl (cI, 500, .inl Sq)), (eB, .inl (cI, 152, .inl Pf))] sz) (fun _ => [(hJ, .inr (0, [.ref aS, .ref hR, .ref hL, .ref gL])), (aS, .inr (3, [.ref aN])), (aN, .inl (cI, 3, .inl (jb_now per mem par))), (hR, .inr (1, [.ref hF, .ref hE, .ref hQ, .int ((jc_pairs (jb_bps true K KK ((mem - 2) * per) hs os (jb_nb ((mem - 2) * per) hs.length)) x).2.2.2)])), (hF, .inl (cI, 11, .inl ((jc_pairs (jb_bps true K KK ((mem - 2) * per) hs os (jb_nb ((mem - 2) * per) hs.length)) x).1))), (hE, .inl (cI, 1500, .inl ((jc_pairs (jb_bps true K KK ((mem - 2) * per) hs os (jb_nb ((mem - 2) * per) hs.length)) x).2.1))), (hQ, .inl (cI, 4000, .inl ((jc_pairs (jb_bps true K KK ((mem - 2) * per) hs os (jb_nb ((mem - 2) * per) hs.length)) x).2.2.1))), (hL, .inr (2, [.ref aS, .int 1, .ref kA, .ref vA, .ref oA, .ref sA, .ref eA, .int (nI n)])), (kA, .inl (cI, 500, .inl K)), (vA, .inl (cI, 500, .inl V)), (oA, .inl (cI, 500, .inl (jb_O o))), (sA, .inl (cI, 500, .inl Sp)), (eA, .inl (cI, 152, .inl Pe)), (gL, .inr (2, [.ref aS, .int 0, .ref kB, .ref vB, .ref oB, .ref sB, .ref eB, .int (nI nn)])), (kB, .inl (cI, 500, .inl KK)), (vB, .inl (cI, 500, .inl VV)), (oB, .inl (cI, 500, .inl (jb_O oo))), (sB, .inl (cI, 500, .inl Sq)), (eB, .inl (cI, 152, .inl Pf))])) (va_A [(hJ, .inr (0, [.ref aS, .ref hR, .ref hL, .ref gL])), (aS, .inr (3, [.ref aN])), (aN, .inl (cI, 3, .inl (jb_now per mem par))), (hR, .inr (1, [.ref hF, .ref hE, .ref hQ, .int x.2.2.2])), (hF, .inl (cI, 11, .inl x.1)), (hE, .inl (cI, 1500, .inl x.2.1)), (hQ, .inl (cI, 4000, .inl x.2.2.1)), (hL, .inr (2, [.ref aS, .int 1, .ref kA, .ref vA, .ref oA, .ref sA, .ref eA, .int (nI n)])), (kA, .inl (cI, 500, .inl K)), (vA, .inl (cI, 500, .inl V)), (oA, .inl (cI, 500, .inl (jb_O o))), (sA, .inl (cI, 500, .inl Sp)), (eA, .inl (cI, 152, .inl Pe)), (gL, .inr (2, [.ref aS, .int 0, .ref kB, .ref vB, .ref oB, .ref sB, .ref eB, .int (nI nn)])), (kB, .inl (cI, 500, .inl KK)), (vB, .inl (cI, 500, .inl VV)), (oB, .inl (cI, 500, .inl (jb_O oo))), (sB, .inl (cI, 500, .inl Sq)), (eB, .inl (cI, 152, .inl Pf))] sz)) 0 0 (va_A [(hJ, .inr (0, [.ref aS, .ref hR, .ref hL, .ref gL])), (aS, .inr (3, [.ref aN])), (aN, .inl (cI, 3, .inl (jb_now per mem par))), (hR, .inr (1, [.ref hF, .ref hE, .ref hQ, .int x.2.2.2])), (hF, .inl (cI, 11, .inl x.1)), (hE, .inl (cI, 1500, .inl x.2.1)), (hQ, .inl (cI, 4000, .inl x.2.2.1)), (hL, .inr (2, [.ref aS, .int 1, .ref kA, .ref vA, .ref oA, .ref sA, .ref eA, .int (nI n)])), (kA, .inl (cI, 500, .inl K)), (vA, .inl (cI, 500, .inl V)), (oA, .inl (cI, 500, .inl (jb_O o))), (sA, .inl (cI, 500, .inl Sp)), (eA, .inl (cI, 152, .inl Pe)), (gL, .inr (2, [.ref aS, .int 0, .ref kB, .ref vB, .ref oB, .ref sB, .ref eB, .int (nI nn)])), (kB, .inl (cI, 500, .inl KK)), (vB, .inl (cI, 500, .inl VV)), (oB, .inl (cI, 500, .inl (jb_O oo))), (sB, .inl (cI, 500, .inl Sq)), (eB, .inl (cI, 152, .inl Pf))] sz) := by
  refine Met.ofW (cc := cX0_passBlocks) (maxL := 10) (ret := (some .int)) (by decide) rfl ?_
  intro p e s m args below meth c s₁ B hml hv
  obtain ⟨rfl, hsz, hP, hK, hNw, hD0⟩ := hv
  have hx := B.exec
  have hb := B.bytes
  have hr := B.returns
  have hts := atoms_spec (ws := wsX0_passBlocks) B.pre
  have hown : s.vm.findClass RX0 = some m.cls := findClass_of_methodNamed B.named
  have hlocks := B.notSynchronized
  subst hsz
  have hD := hD0.self (sz := s.heap.size)
  generalize hAe : va_A [(hJ, .inr (0, [.ref aS, .ref hR, .ref hL, .ref gL])), (aS, .inr (3, [.ref aN])), (aN, .inl (cI, 3, .inl (jb_now per mem par))), (hR, .inr (1, [.ref hF, .ref hE, .ref hQ, .int x.2.2.2])), (hF, .inl (cI, 11, .inl x.1)), (hE, .inl (cI, 1500, .inl x.2.1)), (hQ, .inl (cI, 4000, .inl x.2.2.1)), (hL, .inr (2, [.ref aS, .int 1, .ref kA, .ref vA, .ref oA, .ref sA, .ref eA, .int (nI n)])), (kA, .inl (cI, 500, .inl K)), (vA, .inl (cI, 500, .inl V)), (oA, .inl (cI, 500, .inl (jb_O o))), (sA, .inl (cI, 500, .inl Sp)), (eA, .inl (cI, 152, .inl Pe)), (gL, .inr (2, [.ref aS, .int 0, .ref kB, .ref vB, .ref oB, .ref sB, .ref eB, .int (nI nn)])), (kB, .inl (cI, 500, .inl KK)), (vB, .inl (cI, 500, .inl VV)), (oB, .inl (cI, 500, .inl (jb_O oo))), (sB, .inl (cI, 500, .inl Sq)), (eB, .inl (cI, 152, .inl Pf))] s.heap.size = A at hD ⊢
  have hA : ∀ q : Nat, s.heap.size ≤ q → A q := fun q h => by rw [← hAe]; exact Or.inr h
  have hS : va_S A s.heap s.heap [] := va_S.rf
  have hP : va_P (dC, dI) vwCl [(hJ, .inr (0, [.ref aS, .ref hR, .ref hL, .ref gL])), (aS, .inr (3, [.ref aN])), (aN, .inl (cI, 3, .inl (jb_now per mem par))), (hR, .inr (1, [.ref hF, .ref hE, .ref hQ, .int x.2.2.2])), (hF, .inl (cI, 11, .inl x.1)), (hE, .inl (cI, 1500, .inl x.2.1)), (hQ, .inl (cI, 4000, .inl x.2.2.1)), (hL, .inr (2, [.ref aS, .int 1, .ref kA, .ref vA, .ref oA, .ref sA, .ref eA, .int (nI n)])), (kA, .inl (cI, 500, .inl K)), (vA, .inl (cI, 500, .inl V)), (oA, .inl (cI, 500, .inl (jb_O o))), (sA, .inl (cI, 500, .inl Sp)), (eA, .inl (cI, 152, .inl Pe)), (gL, .inr (2, [.ref aS, .int 0, .ref kB, .ref vB, .ref oB, .ref sB, .ref eB, .int (nI nn)])), (kB, .inl (cI, 500, .inl KK)), (vB, .inl (cI, 500, .inl VV)), (oB, .inl (cI, 500, .inl (jb_O oo))), (sB, .inl (cI, 500, .inl Sq)), (eB, .inl (cI, 152, .inl Pf))] s.heap := hP
  have hl := lv_entry ([.ref hJ, .ref hL, .int (nI hf), .int (nI (hf + hs.length)), .ref gL, .int (nI of), .int (nI (of + os.length))]) (n := 10) (Nat.le_of_ble_eq_true rfl)
  rw [lg_entry_eq]
  generalize (lg_sl ([.ref hJ, .ref hL, .int (nI hf), .int (nI (hf + hs.length)), .ref gL, .int (nI of), .int (nI (of + os.length))]) ++ List.replicate (10 - (lg_sl ([.ref hJ, .ref hL, .int (nI hf), .int (nI (hf + hs.length)), .ref gL, .int (nI of), .int (nI (of + os.length))])).length) Slot.unset).toArray = ls at hl ⊢
  have hl : lv_has ls 10 [(0, .ref hJ), (1, .ref hL), (2, .int (nI hf)), (3, .int (nI (hf + hs.length))), (4, .ref gL), (5, .int (nI of)), (6, .int (nI (of + os.length)))] := hl
  refine lv_iconst (v := 1) hx hb dX0_passBlocks_0 (by decide) ?_
  refine lv_aload_n hx hb dX0_passBlocks_1 rfl (lv_at hl 0 rfl) ?_
  refine va_get (D := (dC, dI)) (ci := 0) (v := .ref aS) (C := RX0) (T := TX0) (N := 4) hx hb hts iX0_passBlocks_X0 hown hK hP 0 rfl rfl 0 (by decide) (hts (.fieldLink RX0 9 "JoinBench$Joiner" "sizes" "LJoinBench$Sizes;") (by decide +kernel)) (fun _ h9 => h9) rfl dX0_passBlocks_2 ?_
  refine vp_callSi (va_runV (As := []) (rest := [.int 1]) ⟨hx, hb, hml, hown, hts⟩ (c_blockRows l dC dI cI aS aN per mem par hm) (cwV 0 hts gX0_passBlocks_X3_blockRows rfl rfl rfl (by decide +kernel) ⟨(by decide +kernel), (by decide +kernel)⟩)  ⟨jb_R_blind, va_recv hK hP (ci := 3) (q0 := 1) rfl rfl, jb_R_pre (hP.sub (ws' := [(aS, .inr (3, [.ref aN])), (aN, .inl (cI, 3, .inl (jb_now per mem par)))]) [1, 2] rfl) hK hNw⟩ rfl rfl hl.1 rfl (lv_room (Nat.le_of_ble_eq_true rfl)) dX0_passBlocks_5 ⟨by decide +kernel, by decide +kernel⟩).run (fun r_1 hr_1 => ?_)
  subst hr_1
  refine va_mmax hx hb (by rw [hml]; exact hl.1.symm) hown (hts (.methodLink RX0 99 Lib.Math.max.name) (by decide +kernel)) (hts (.static Lib.Math.max.name) (by decide +kernel)) (hts (.initialized "java/lang/Math") (by decide +kernel)) (hts (.code Lib.Math.max.name Lib.Math.max.code 2 (some .int)) (by decide +kernel)) (by decide +kernel) (Nat.le_of_ble_eq_true rfl) (Nat.zero_le _) (Nat.zero_le _) dX0_passBlocks_8 ?_
  refine lv_topi (fun v_2 ev_2 => ?_)
  have hv_2 : v_2 = nI ((mem - 2) * per) := ev_2.trans (jb_imax1 (jb_step h1 hp hm hm2).1 (by have := (jb_step h1 hp hm hm2).2; omega))
  clear ev_2; subst hv_2
  refine lv_istore (lv' := [(7, .int (nI ((mem - 2) * per))), (0, .ref hJ), (1, .ref hL), (2, .int (nI hf)), (3, .int (nI (hf + hs.length))), (4, .ref gL), (5, .int (nI of)), (6, .int (nI (of + os.length)))]) hx hb dX0_passBlocks_11 hl (by decide) rfl (fun ls hl => ?_)
  refine lv_iconst (v := 0) hx hb dX0_passBlocks_13 (by decide) ?_
  refine lv_istore (lv' := [(8, .int 0), (7, .int (nI ((mem - 2) * per))), (0, .ref hJ), (1, .ref hL), (2, .int (nI hf)), (3, .int (nI (hf + hs.length))), (4, .ref gL), (5, .int (nI of)), (6, .int (nI (of + os.length)))]) hx hb dX0_passBlocks_14 hl (by decide) rfl (fun ls hl => ?_)
  refine lv_iload_n hx hb dX0_passBlocks_16 rfl (lv_at hl 4 rfl) ?_
  refine lv_istore (lv' := [(9, .int (nI hf)), (8, .int 0), (7, .int (nI ((mem - 2) * per))), (0, .ref hJ), (1, .ref hL), (2, .int (nI hf)), (3, .int (nI (hf + hs.length))), (4, .ref gL), (5, .int (nI of)), (6, .int (nI (of + os.length)))]) hx hb dX0_passBlocks_17 hl (by decide) rfl (fun ls hl => ?_)
  have hst := jb_step h1 hp hm hm2
  have ez : (jc_pairs (jb_bps true K KK ((mem - 2) * per) hs os 0) x) = x := rfl
  rw [← ez] at hP hD
  have hl : lv_has ls 10 [(9, .int (nI (hf + 0 * ((mem - 2) * per)))), (8, .int 0), (7, .int (nI ((mem - 2) * per))), (0, .ref hJ), (1, .ref hL), (2, .int (nI hf)), (3, .int (nI (hf + hs.length))), (4, .ref gL), (5, .int (nI of)), (6, .int (nI (of + os.length)))] := by rw [Nat.zero_mul]; exact hl
  have hl_a : ∀ (k_a : Nat) (b : Nat), jb_nb ((mem - 2) * per) hs.length - b < k_a → (b ≤ jb_nb ((mem - 2) * per) hs.length) → ∀ (H : Heap) (locs : List Loc), va_P (dC, dI) vwCl [(hJ, .inr (0, [.ref aS, .ref hR, .ref hL, .ref gL])), (aS, .inr (3, [.ref aN])), (aN, .inl (cI, 3, .inl (jb_now per mem par))), (hR, .inr (1, [.ref hF, .ref hE, .ref hQ, .int ((jc_pairs (jb_bps true K KK ((mem - 2) * per) hs os b) x).2.2.2)])), (hF, .inl (cI, 11, .inl ((jc_pairs (jb_bps true K KK ((mem - 2) * per) hs os b) x).1))), (hE, .inl (cI, 1500, .inl ((jc_pairs (jb_bps true K KK ((mem - 2) * per) hs os b) x).2.1))), (hQ, .inl (cI, 4000, .inl ((jc_pairs (jb_bps true K KK ((mem - 2) * per) hs os b) x).2.2.1))), (hL, .inr (2, [.ref aS, .int 1, .ref kA, .ref vA, .ref oA, .ref sA, .ref eA, .int (nI n)])), (kA, .inl (cI, 500, .inl K)), (vA, .inl (cI, 500, .inl V)), (oA, .inl (cI, 500, .inl (jb_O o))), (sA, .inl (cI, 500, .inl Sp)), (eA, .inl (cI, 152, .inl Pe)), (gL, .inr (2, [.ref aS, .int 0, .ref kB, .ref vB, .ref oB, .ref sB, .ref eB, .int (nI nn)])), (kB, .inl (cI, 500, .inl KK)), (vB, .inl (cI, 500, .inl VV)), (oB, .inl (cI, 500, .inl (jb_O oo))), (sB, .inl (cI, 500, .inl Sq)), (eB, .inl (cI, 152, .inl Pf))] H → va_D A [(hJ, .inr (0, [.ref aS, .ref hR, .ref hL, .ref gL])), (aS, .inr (3, [.ref aN])), (aN, .inl (cI, 3, .inl (jb_now per mem par))), (hR, .inr (1, [.ref hF, .ref hE, .ref hQ, .int ((jc_pairs (jb_bps true K KK ((mem - 2) * per) hs os b) x).2.2.2)])), (hF, .inl (cI, 11, .inl ((jc_pairs (jb_bps true K KK ((mem - 2) * per) hs os b) x).1))), (hE, .inl (cI, 1500, .inl ((jc_pairs (jb_bps true K KK ((mem - 2) * per) hs os b) x).2.1))), (hQ, .inl (cI, 4000, .inl ((jc_pairs (jb_bps true K KK ((mem - 2) * per) hs os b) x).2.2.1))), (hL, .inr (2, [.ref aS, .int 1, .ref kA, .ref vA, .ref oA, .ref sA, .ref eA, .int (nI n)])), (kA, .inl (cI, 500, .inl K)), (vA, .inl (cI, 500, .inl V)), (oA, .inl (cI, 500, .inl (jb_O o))), (sA, .inl (cI, 500, .inl Sp)), (eA, .inl (cI, 152, .inl Pe)), (gL, .inr (2, [.ref aS, .int 0, .ref kB, .ref vB, .ref oB, .ref sB, .ref eB, .int (nI nn)])), (kB, .inl (cI, 500, .inl KK)), (vB, .inl (cI, 500, .inl VV)), (oB, .inl (cI, 500, .inl (jb_O oo))), (sB, .inl (cI, 500, .inl Sq)), (eB, .inl (cI, 152, .inl Pf))] → va_S A s.heap H locs → ∀ ls : Array Slot, lv_has ls 10 [(0, .ref hJ), (1, .ref hL), (3, .int (nI (hf + hs.length))), (4, .ref gL), (5, .int (nI of)), (6, .int (nI (of + os.length))), (7, .int (nI ((mem - 2) * per))), (8, .int (nI b)), (9, .int (nI (hf + b * ((mem - 2) * per))))] → W p l e ({ frames := 4, cells := 0, slots := 0, locals := 160 } : Room) s m ([.ref hJ, .ref hL, .int (nI hf), .int (nI (hf + hs.length)), .ref gL, .int (nI of), .int (nI (of + os.length))] : List Value).toArray below meth c H locs 0 0 (MQ below (va_Qi (fun r (_ : Unit) => r = nI (jb_nb ((mem - 2) * per) hs.length)) (jb_B dC dI A (fun _ => [(hJ, .inr (0, [.ref aS, .ref hR, .ref hL, .ref gL])), (aS, .inr (3, [.ref aN])), (aN, .inl (cI, 3, .inl (jb_now per mem par))), (hR, .inr (1, [.ref hF, .ref hE, .ref hQ, .int ((jc_pairs (jb_bps true K KK ((mem - 2) * per) hs os (jb_nb ((mem - 2) * per) hs.length)) x).2.2.2)])), (hF, .inl (cI, 11, .inl ((jc_pairs (jb_bps true K KK ((mem - 2) * per) hs os (jb_nb ((mem - 2) * per) hs.length)) x).1))), (hE, .inl (cI, 1500, .inl ((jc_pairs (jb_bps true K KK ((mem - 2) * per) hs os (jb_nb ((mem - 2) * per) hs.length)) x).2.1))), (hQ, .inl (cI, 4000, .inl ((jc_pairs (jb_bps true K KK ((mem - 2) * per) hs os (jb_nb ((mem - 2) * per) hs.length)) x).2.2.1))), (hL, .inr (2, [.ref aS, .int 1, .ref kA, .ref vA, .ref oA, .ref sA, .ref eA, .int (nI n)])), (kA, .inl (cI, 500, .inl K)), (vA, .inl (cI, 500, .inl V)), (oA, .inl (cI, 500, .inl (jb_O o))), (sA, .inl (cI, 500, .inl Sp)), (eA, .inl (cI, 152, .inl Pe)), (gL, .inr (2, [.ref aS, .int 0, .ref kB, .ref vB, .ref oB, .ref sB, .ref eB, .int (nI nn)])), (kB, .inl (cI, 500, .inl KK)), (vB, .inl (cI, 500, .inl VV)), (oB, .inl (cI, 500, .inl (jb_O oo))), (sB, .inl (cI, 500, .inl Sq)), (eB, .inl (cI, 152, .inl Pf))])) A) ([.ref hJ, .ref hL, .int (nI hf), .int (nI (hf + hs.length)), .ref gL, .int (nI of), .int (nI (of + os.length))] : List Value).toArray s 0 0 (A)) (F0 m 19 ls []) := by
    intro k_a
    induction k_a with
    | zero => intro b hk; exact absurd hk (Nat.not_lt_zero _)
    | succ k_a ih_a =>
      intro b hk_a hbn H locs hP hD hS ls hl
      have hbs := jb_nb_le hst.1 hbn
      refine lv_iload hx hb dX0_passBlocks_19 (lv_at hl 8 rfl) ?_
      refine lv_iload_n hx hb dX0_passBlocks_21 rfl (lv_at hl 2 rfl) ?_
      refine lv_icmp_ge (tgt := 60) hx hb dX0_passBlocks_22 (by decide) (fun c_22 => ?_) (fun c_22 => ?_)
      · have hge : b = jb_nb ((mem - 2) * per) hs.length := by have h9 := (nI_leI (a := hf + hs.length) (b := hf + b * ((mem - 2) * per)) (by omega) (by omega)).mp c_22; have h8 := mt (jb_nb_lt (n := hs.length) (b := b) hst.1).mp (by omega); omega
        rw [hge] at hP hD hl
        refine lv_iload hx hb dX0_passBlocks_60 (lv_at hl 7 rfl) ?_
        have hP9 : va_P (dC, dI) vwCl [(hJ, .inr (0, [.ref aS, .ref hR, .ref hL, .ref gL])), (aS, .inr (3, [.ref aN])), (aN, .inl (cI, 3, .inl (jb_now per mem par))), (hR, .inr (1, [.ref hF, .ref hE, .ref hQ, .int ((jc_pairs (jb_bps true K KK ((mem - 2) * per) hs os (jb_nb ((mem - 2) * per) hs.length)) x).2.2.2)])), (hF, .inl (cI, 11, .inl ((jc_pairs (jb_bps true K KK ((mem - 2) * per) hs os (jb_nb ((mem - 2) * per) hs.length)) x).1))), (hE, .inl (cI, 1500, .inl ((jc_pairs (jb_bps true K KK ((mem - 2) * per) hs os (jb_nb ((mem - 2) * per) hs.length)) x).2.1))), (hQ, .inl (cI, 4000, .inl ((jc_pairs (jb_bps true K KK ((mem - 2) * per) hs os (jb_nb ((mem - 2) * per) hs.length)) x).2.2.1))), (hL, .inr (2, [.ref aS, .int 1, .ref kA, .ref vA, .ref oA, .ref sA, .ref eA, .int (nI n)])), (kA, .inl (cI, 500, .inl K)), (vA, .inl (cI, 500, .inl V)), (oA, .inl (cI, 500, .inl (jb_O o))), (sA, .inl (cI, 500, .inl Sp)), (eA, .inl (cI, 152, .inl Pe)), (gL, .inr (2, [.ref aS, .int 0, .ref kB, .ref vB, .ref oB, .ref sB, .ref eB, .int (nI nn)])), (kB, .inl (cI, 500, .inl KK)), (vB, .inl (cI, 500, .inl VV)), (oB, .inl (cI, 500, .inl (jb_O oo))), (sB, .inl (cI, 500, .inl Sq)), (eB, .inl (cI, 152, .inl Pf))] H := hP.sub [0, 1, 2, 3, 4, 5, 6, 7, 8, 9, 10, 11, 12, 13, 14, 15, 16, 17, 18] rfl
        have hD9 : va_D A [(hJ, .inr (0, [.ref aS, .ref hR, .ref hL, .ref gL])), (aS, .inr (3, [.ref aN])), (aN, .inl (cI, 3, .inl (jb_now per mem par))), (hR, .inr (1, [.ref hF, .ref hE, .ref hQ, .int ((jc_pairs (jb_bps true K KK ((mem - 2) * per) hs os (jb_nb ((mem - 2) * per) hs.length)) x).2.2.2)])), (hF, .inl (cI, 11, .inl ((jc_pairs (jb_bps true K KK ((mem - 2) * per) hs os (jb_nb ((mem - 2) * per) hs.length)) x).1))), (hE, .inl (cI, 1500, .inl ((jc_pairs (jb_bps true K KK ((mem - 2) * per) hs os (jb_nb ((mem - 2) * per) hs.length)) x).2.1))), (hQ, .inl (cI, 4000, .inl ((jc_pairs (jb_bps true K KK ((mem - 2) * per) hs os (jb_nb ((mem - 2) * per) hs.length)) x).2.2.1))), (hL, .inr (2, [.ref aS, .int 1, .ref kA, .ref vA, .ref oA, .ref sA, .ref eA, .int (nI n)])), (kA, .inl (cI, 500, .inl K)), (vA, .inl (cI, 500, .inl V)), (oA, .inl (cI, 500, .inl (jb_O o))), (sA, .inl (cI, 500, .inl Sp)), (eA, .inl (cI, 152, .inl Pe)), (gL, .inr (2, [.ref aS, .int 0, .ref kB, .ref vB, .ref oB, .ref sB, .ref eB, .int (nI nn)])), (kB, .inl (cI, 500, .inl KK)), (vB, .inl (cI, 500, .inl VV)), (oB, .inl (cI, 500, .inl (jb_O oo))), (sB, .inl (cI, 500, .inl Sq)), (eB, .inl (cI, 152, .inl Pf))] := hD.sub [0, 1, 2, 3, 4, 5, 6, 7, 8, 9, 10, 11, 12, 13, 14, 15, 16, 17, 18] (by decide) rfl
        exact W.iret (v := nI (jb_nb ((mem - 2) * per) hs.length)) hx hb hr (fun t ht hW => ⟨⟨_, (), rfl, rfl, by rw [ht]; exact hP9, hD9⟩, hS.F ht⟩) hS.2.2 dX0_passBlocks_62
      · have hlt : b * ((mem - 2) * per) < hs.length := by have := (jb_nle (a := hf + hs.length) (b := hf + b * ((mem - 2) * per)) (by omega) (by omega)).mp c_22; omega
        have hbl : b < jb_nb ((mem - 2) * per) hs.length := (jb_nb_lt hst.1).mpr hlt
        have hbk := jb_blk_len ((mem - 2) * per) b hs
        refine lv_aload_n hx hb dX0_passBlocks_25 rfl (lv_at hl 0 rfl) ?_
        refine lv_aload_n hx hb dX0_passBlocks_26 rfl (lv_at hl 1 rfl) ?_
        refine lv_iload hx hb dX0_passBlocks_27 (lv_at hl 8 rfl) ?_
        refine lv_iload hx hb dX0_passBlocks_29 (lv_at hl 8 rfl) ?_
        refine lv_iload hx hb dX0_passBlocks_31 (lv_at hl 6 rfl) ?_
        refine lv_iadd hx hb dX0_passBlocks_33 ?_
        refine lv_topi (fun v_3 ev_3 => ?_)
        have hv_3 : v_3 = nI (hf + b * ((mem - 2) * per) + ((mem - 2) * per)) := ev_3.trans (nI_add _ _)
        clear ev_3; subst hv_3
        refine lv_iload_n hx hb dX0_passBlocks_34 rfl (lv_at hl 2 rfl) ?_
        refine va_mmin hx hb (by rw [hml]; exact hl.1.symm) hown (hts (.methodLink RX0 62 Lib.Math.min.name) (by decide +kernel)) (hts (.static Lib.Math.min.name) (by decide +kernel)) (hts (.initialized "java/lang/Math") (by decide +kernel)) (hts (.code Lib.Math.min.name Lib.Math.min.code 2 (some .int)) (by decide +kernel)) (by decide +kernel) (Nat.le_of_ble_eq_true rfl) (Nat.zero_le _) (Nat.zero_le _) dX0_passBlocks_35 ?_
        refine lv_topi (fun v_4 ev_4 => ?_)
        have hv_4 : v_4 = nI (hf + b * ((mem - 2) * per) + (jb_blk ((mem - 2) * per) hs b).length) := ev_4.trans ((jb_imin (by omega) (by omega)).trans (congrArg nI (by rw [hbk]; omega)))
        clear ev_4; subst hv_4
        refine lv_aload hx hb dX0_passBlocks_38 (lv_at hl 3 rfl) ?_
        refine lv_iload hx hb dX0_passBlocks_40 (lv_at hl 4 rfl) ?_
        refine lv_iload hx hb dX0_passBlocks_42 (lv_at hl 5 rfl) ?_
        have hsum := jb_bps_b (isL := true) (kh := K) (ko := KK) (step := ((mem - 2) * per)) (hs := hs) (os := os) (b := b)
        refine jb_cv (wc := [(hJ, .inr (0, [.ref aS, .ref hR, .ref hL, .ref gL])), (hR, .inr (1, [.ref hF, .ref hE, .ref hQ, .int ((jc_pairs (jb_bps true K KK ((mem - 2) * per) hs os b) x).2.2.2)])), (hF, .inl (cI, 11, .inl ((jc_pairs (jb_bps true K KK ((mem - 2) * per) hs os b) x).1))), (hE, .inl (cI, 1500, .inl ((jc_pairs (jb_bps true K KK ((mem - 2) * per) hs os b) x).2.1))), (hQ, .inl (cI, 4000, .inl ((jc_pairs (jb_bps true K KK ((mem - 2) * per) hs os b) x).2.2.1))), (hL, .inr (2, [.ref aS, .int 1, .ref kA, .ref vA, .ref oA, .ref sA, .ref eA, .int (nI n)])), (kA, .inl (cI, 500, .inl K)), (vA, .inl (cI, 500, .inl V)), (oA, .inl (cI, 500, .inl (jb_O o))), (sA, .inl (cI, 500, .inl Sp)), (eA, .inl (cI, 152, .inl Pe)), (gL, .inr (2, [.ref aS, .int 0, .ref kB, .ref vB, .ref oB, .ref sB, .ref eB, .int (nI nn)])), (kB, .inl (cI, 500, .inl KK)), (vB, .inl (cI, 500, .inl VV)), (oB, .inl (cI, 500, .inl (jb_O oo))), (sB, .inl (cI, 500, .inl Sq)), (eB, .inl (cI, 152, .inl Pf))]) (wr := [(aS, .inr (3, [.ref aN])), (aN, .inl (cI, 3, .inl (jb_now per mem par)))]) (va_runV (As := [.ref hL, .int (nI (hf + b * ((mem - 2) * per))), .int (nI (hf + b * ((mem - 2) * per) + (jb_blk ((mem - 2) * per) hs b).length)), .ref gL, .int (nI of), .int (nI (of + os.length))]) (rest := []) ⟨hx, hb, hml, hown, hts⟩ (c_matchL l dC dI cI H.size hJ aS aN hR hF hE hQ hL kA vA oA sA eA gL kB vB oB sB eB per mem par K V o Sp Pe n KK VV oo Sq Pf nn (jc_pairs (jb_bps true K KK ((mem - 2) * per) hs os b) x) (jb_blk ((mem - 2) * per) hs b) os (hf + b * ((mem - 2) * per)) of (np + (jb_bps true K KK ((mem - 2) * per) hs os b).length) (jb_blk_in hin) hin2 (fun r hr => hb5 r (jb_blk_mem hr)) hb6 (by omega) hto2 hn hn2 (jc_pairs_n _ hnp) (by omega)) (cwV 6 hts gX0_passBlocks_X0_matchRows rfl rfl rfl (by decide +kernel) ⟨(by decide +kernel), (by decide +kernel)⟩)  ⟨jb_M_blind, va_recv hK hP (ci := 0) (q0 := 0) rfl rfl, jb_M_pre (hP.sub (ws' := [(hJ, .inr (0, [.ref aS, .ref hR, .ref hL, .ref gL])), (hR, .inr (1, [.ref hF, .ref hE, .ref hQ, .int ((jc_pairs (jb_bps true K KK ((mem - 2) * per) hs os b) x).2.2.2)])), (hF, .inl (cI, 11, .inl ((jc_pairs (jb_bps true K KK ((mem - 2) * per) hs os b) x).1))), (hE, .inl (cI, 1500, .inl ((jc_pairs (jb_bps true K KK ((mem - 2) * per) hs os b) x).2.1))), (hQ, .inl (cI, 4000, .inl ((jc_pairs (jb_bps true K KK ((mem - 2) * per) hs os b) x).2.2.1))), (hL, .inr (2, [.ref aS, .int 1, .ref kA, .ref vA, .ref oA, .ref sA, .ref eA, .int (nI n)])), (kA, .inl (cI, 500, .inl K)), (vA, .inl (cI, 500, .inl V)), (oA, .inl (cI, 500, .inl (jb_O o))), (sA, .inl (cI, 500, .inl Sp)), (eA, .inl (cI, 152, .inl Pe)), (gL, .inr (2, [.ref aS, .int 0, .ref kB, .ref vB, .ref oB, .ref sB, .ref eB, .int (nI nn)])), (kB, .inl (cI, 500, .inl KK)), (vB, .inl (cI, 500, .inl VV)), (oB, .inl (cI, 500, .inl (jb_O oo))), (sB, .inl (cI, 500, .inl Sq)), (eB, .inl (cI, 152, .inl Pf))]) [0, 3, 4, 5, 6, 7, 8, 9, 10, 11, 12, 13, 14, 15, 16, 17, 18] rfl) (hD.sub (ws' := [(hJ, .inr (0, [.ref aS, .ref hR, .ref hL, .ref gL])), (hR, .inr (1, [.ref hF, .ref hE, .ref hQ, .int ((jc_pairs (jb_bps true K KK ((mem - 2) * per) hs os b) x).2.2.2)])), (hF, .inl (cI, 11, .inl ((jc_pairs (jb_bps true K KK ((mem - 2) * per) hs os b) x).1))), (hE, .inl (cI, 1500, .inl ((jc_pairs (jb_bps true K KK ((mem - 2) * per) hs os b) x).2.1))), (hQ, .inl (cI, 4000, .inl ((jc_pairs (jb_bps true K KK ((mem - 2) * per) hs os b) x).2.2.1))), (hL, .inr (2, [.ref aS, .int 1, .ref kA, .ref vA, .ref oA, .ref sA, .ref eA, .int (nI n)])), (kA, .inl (cI, 500, .inl K)), (vA, .inl (cI, 500, .inl V)), (oA, .inl (cI, 500, .inl (jb_O o))), (sA, .inl (cI, 500, .inl Sp)), (eA, .inl (cI, 152, .inl Pe)), (gL, .inr (2, [.ref aS, .int 0, .ref kB, .ref vB, .ref oB, .ref sB, .ref eB, .int (nI nn)])), (kB, .inl (cI, 500, .inl KK)), (vB, .inl (cI, 500, .inl VV)), (oB, .inl (cI, 500, .inl (jb_O oo))), (sB, .inl (cI, 500, .inl Sq)), (eB, .inl (cI, 152, .inl Pf))]) [0, 3, 4, 5, 6, 7, 8, 9, 10, 11, 12, 13, 14, 15, 16, 17, 18] (by decide) rfl) hK hNw⟩ rfl rfl hl.1 rfl (lv_room (Nat.le_of_ble_eq_true rfl)) dX0_passBlocks_44 ⟨by decide +kernel, by decide +kernel⟩) hP hD hS hA [0, 3, 4, 5, 6, 7, 8, 9, 10, 11, 12, 13, 14, 15, 16, 17, 18] [1, 2] rfl rfl (by decide) (by decide) (fun u_5 H locs hu_5 hP hD hS => ?_)
        have hP : va_P (dC, dI) vwCl [(hJ, .inr (0, [.ref aS, .ref hR, .ref hL, .ref gL])), (aS, .inr (3, [.ref aN])), (aN, .inl (cI, 3, .inl (jb_now per mem par))), (hR, .inr (1, [.ref hF, .ref hE, .ref hQ, .int ((jc_pairs (jb_meet true K KK (jb_blk ((mem - 2) * per) hs b) os) (jc_pairs (jb_bps true K KK ((mem - 2) * per) hs os b) x)).2.2.2)])), (hF, .inl (cI, 11, .inl ((jc_pairs (jb_meet true K KK (jb_blk ((mem - 2) * per) hs b) os) (jc_pairs (jb_bps true K KK ((mem - 2) * per) hs os b) x)).1))), (hE, .inl (cI, 1500, .inl ((jc_pairs (jb_meet true K KK (jb_blk ((mem - 2) * per) hs b) os) (jc_pairs (jb_bps true K KK ((mem - 2) * per) hs os b) x)).2.1))), (hQ, .inl (cI, 4000, .inl ((jc_pairs (jb_meet true K KK (jb_blk ((mem - 2) * per) hs b) os) (jc_pairs (jb_bps true K KK ((mem - 2) * per) hs os b) x)).2.2.1))), (hL, .inr (2, [.ref aS, .int 1, .ref kA, .ref vA, .ref oA, .ref sA, .ref eA, .int (nI n)])), (kA, .inl (cI, 500, .inl K)), (vA, .inl (cI, 500, .inl V)), (oA, .inl (cI, 500, .inl (jb_O o))), (sA, .inl (cI, 500, .inl Sp)), (eA, .inl (cI, 152, .inl Pe)), (gL, .inr (2, [.ref aS, .int 0, .ref kB, .ref vB, .ref oB, .ref sB, .ref eB, .int (nI nn)])), (kB, .inl (cI, 500, .inl KK)), (vB, .inl (cI, 500, .inl VV)), (oB, .inl (cI, 500, .inl (jb_O oo))), (sB, .inl (cI, 500, .inl Sq)), (eB, .inl (cI, 152, .inl Pf))] H := hP.sub [2, 0, 1, 3, 4, 5, 6, 7, 8, 9, 10, 11, 12, 13, 14, 15, 16, 17, 18] rfl
        have hD : va_D A [(hJ, .inr (0, [.ref aS, .ref hR, .ref hL, .ref gL])), (aS, .inr (3, [.ref aN])), (aN, .inl (cI, 3, .inl (jb_now per mem par))), (hR, .inr (1, [.ref hF, .ref hE, .ref hQ, .int ((jc_pairs (jb_meet true K KK (jb_blk ((mem - 2) * per) hs b) os) (jc_pairs (jb_bps true K KK ((mem - 2) * per) hs os b) x)).2.2.2)])), (hF, .inl (cI, 11, .inl ((jc_pairs (jb_meet true K KK (jb_blk ((mem - 2) * per) hs b) os) (jc_pairs (jb_bps true K KK ((mem - 2) * per) hs os b) x)).1))), (hE, .inl (cI, 1500, .inl ((jc_pairs (jb_meet true K KK (jb_blk ((mem - 2) * per) hs b) os) (jc_pairs (jb_bps true K KK ((mem - 2) * per) hs os b) x)).2.1))), (hQ, .inl (cI, 4000, .inl ((jc_pairs (jb_meet true K KK (jb_blk ((mem - 2) * per) hs b) os) (jc_pairs (jb_bps true K KK ((mem - 2) * per) hs os b) x)).2.2.1))), (hL, .inr (2, [.ref aS, .int 1, .ref kA, .ref vA, .ref oA, .ref sA, .ref eA, .int (nI n)])), (kA, .inl (cI, 500, .inl K)), (vA, .inl (cI, 500, .inl V)), (oA, .inl (cI, 500, .inl (jb_O o))), (sA, .inl (cI, 500, .inl Sp)), (eA, .inl (cI, 152, .inl Pe)), (gL, .inr (2, [.ref aS, .int 0, .ref kB, .ref vB, .ref oB, .ref sB, .ref eB, .int (nI nn)])), (kB, .inl (cI, 500, .inl KK)), (vB, .inl (cI, 500, .inl VV)), (oB, .inl (cI, 500, .inl (jb_O oo))), (sB, .inl (cI, 500, .inl Sq)), (eB, .inl (cI, 152, .inl Pf))] := hD.sub [2, 0, 1, 3, 4, 5, 6, 7, 8, 9, 10, 11, 12, 13, 14, 15, 16, 17, 18] (by decide) rfl
        rw [← jc_pairs_app] at hP hD
        have hP : va_P (dC, dI) vwCl [(hJ, .inr (0, [.ref aS, .ref hR, .ref hL, .ref gL])), (aS, .inr (3, [.ref aN])), (aN, .inl (cI, 3, .inl (jb_now per mem par))), (hR, .inr (1, [.ref hF, .ref hE, .ref hQ, .int ((jc_pairs (jb_bps true K KK ((mem - 2) * per) hs os (b + 1)) x).2.2.2)])), (hF, .inl (cI, 11, .inl ((jc_pairs (jb_bps true K KK ((mem - 2) * per) hs os (b + 1)) x).1))), (hE, .inl (cI, 1500, .inl ((jc_pairs (jb_bps true K KK ((mem - 2) * per) hs os (b + 1)) x).2.1))), (hQ, .inl (cI, 4000, .inl ((jc_pairs (jb_bps true K KK ((mem - 2) * per) hs os (b + 1)) x).2.2.1))), (hL, .inr (2, [.ref aS, .int 1, .ref kA, .ref vA, .ref oA, .ref sA, .ref eA, .int (nI n)])), (kA, .inl (cI, 500, .inl K)), (vA, .inl (cI, 500, .inl V)), (oA, .inl (cI, 500, .inl (jb_O o))), (sA, .inl (cI, 500, .inl Sp)), (eA, .inl (cI, 152, .inl Pe)), (gL, .inr (2, [.ref aS, .int 0, .ref kB, .ref vB, .ref oB, .ref sB, .ref eB, .int (nI nn)])), (kB, .inl (cI, 500, .inl KK)), (vB, .inl (cI, 500, .inl VV)), (oB, .inl (cI, 500, .inl (jb_O oo))), (sB, .inl (cI, 500, .inl Sq)), (eB, .inl (cI, 152, .inl Pf))] H := hP
        have hD : va_D A [(hJ, .inr (0, [.ref aS, .ref hR, .ref hL, .ref gL])), (aS, .inr (3, [.ref aN])), (aN, .inl (cI, 3, .inl (jb_now per mem par))), (hR, .inr (1, [.ref hF, .ref hE, .ref hQ, .int ((jc_pairs (jb_bps true K KK ((mem - 2) * per) hs os (b + 1)) x).2.2.2)])), (hF, .inl (cI, 11, .inl ((jc_pairs (jb_bps true K KK ((mem - 2) * per) hs os (b + 1)) x).1))), (hE, .inl (cI, 1500, .inl ((jc_pairs (jb_bps true K KK ((mem - 2) * per) hs os (b + 1)) x).2.1))), (hQ, .inl (cI, 4000, .inl ((jc_pairs (jb_bps true K KK ((mem - 2) * per) hs os (b + 1)) x).2.2.1))), (hL, .inr (2, [.ref aS, .int 1, .ref kA, .ref vA, .ref oA, .ref sA, .ref eA, .int (nI n)])), (kA, .inl (cI, 500, .inl K)), (vA, .inl (cI, 500, .inl V)), (oA, .inl (cI, 500, .inl (jb_O o))), (sA, .inl (cI, 500, .inl Sp)), (eA, .inl (cI, 152, .inl Pe)), (gL, .inr (2, [.ref aS, .int 0, .ref kB, .ref vB, .ref oB, .ref sB, .ref eB, .int (nI nn)])), (kB, .inl (cI, 500, .inl KK)), (vB, .inl (cI, 500, .inl VV)), (oB, .inl (cI, 500, .inl (jb_O oo))), (sB, .inl (cI, 500, .inl Sq)), (eB, .inl (cI, 152, .inl Pf))] := hD
        refine lv_iinc (v := nI (b + 1)) (lv' := [(8, .int (nI (b + 1))), (0, .ref hJ), (1, .ref hL), (3, .int (nI (hf + hs.length))), (4, .ref gL), (5, .int (nI of)), (6, .int (nI (of + os.length))), (7, .int (nI ((mem - 2) * per))), (9, .int (nI (hf + b * ((mem - 2) * per))))]) hx hb dX0_passBlocks_47 hl (k := 7) rfl (nI_1 b) (by decide) rfl (fun ls hl => ?_)
        refine lv_iload hx hb dX0_passBlocks_50 (lv_at hl 8 rfl) ?_
        refine lv_iload hx hb dX0_passBlocks_52 (lv_at hl 7 rfl) ?_
        refine lv_iadd hx hb dX0_passBlocks_54 ?_
        refine lv_topi (fun v_6 ev_6 => ?_)
        have hv_6 : v_6 = nI (hf + (b + 1) * ((mem - 2) * per)) := ev_6.trans ((nI_add _ _).trans (congrArg nI (by rw [Nat.succ_mul]; omega)))
        clear ev_6; subst hv_6
        refine lv_istore (lv' := [(9, .int (nI (hf + (b + 1) * ((mem - 2) * per)))), (8, .int (nI (b + 1))), (0, .ref hJ), (1, .ref hL), (3, .int (nI (hf + hs.length))), (4, .ref gL), (5, .int (nI of)), (6, .int (nI (of + os.length))), (7, .int (nI ((mem - 2) * per)))]) hx hb dX0_passBlocks_55 hl (by decide) rfl (fun ls hl => ?_)
        refine lv_goto (tgt := 19) hx hb dX0_passBlocks_57 (by decide) ?_
        exact ih_a (b + 1) (by omega) hbl H locs hP hD hS ls (lv_sub hl [2, 3, 4, 5, 6, 7, 8, 1, 0] rfl)
  exact hl_a (jb_nb ((mem - 2) * per) hs.length - 0 + 1) 0 (by omega) (Nat.zero_le _) s.heap [] hP hD hS ls (lv_sub hl [3, 4, 6, 7, 8, 9, 2, 1, 0] rfl)
set_option maxHeartbeats 1000000 in
set_option maxRecDepth 100000 in
/-- Joiner.passBlocks -/
theorem c_passR (l : Launch) (dC : Nat → ClassId) (dI : Nat → Nat → Nat) (cI : ClassId) (sz : Nat) (hJ aS aN hR hF hE hQ hL kA vA oA sA eA gL kB vB oB sB eB per mem par : Nat) (K V : Nat → Int32) (o : Nat → Nat) (Sp Pe : Nat → Int32) (n : Nat) (KK VV : Nat → Int32) (oo : Nat → Nat) (Sq Pf : Nat → Int32) (nn : Nat) (x : jbR) (hs os : List Nat) (hf of np : Nat) (hin : jb_in oo hf hs) (hin2 : jb_in o of os) (hb5 : ∀ r ∈ hs, r < 500) (hb6 : ∀ r ∈ os, r < 500) (hto : hf + hs.length ≤ nn) (hto2 : of + os.length ≤ n) (hn : n ≤ 500) (hn2 : nn ≤ 500) (h1 : 1 ≤ per) (hp : per ≤ 16) (hm : 3 ≤ mem) (hm2 : mem ≤ 20) (hnp : x.1 10 = nI np) (hbd : np + hs.length * os.length < 1000000) : Met l yX0_passBlocks wsX0_passBlocks ({ frames := 4, cells := 0, slots := 0, locals := 160 } : Room) (va_Pc [.ref hJ, .ref gL, .int (nI hf), .int (nI (hf + hs.length)), .ref hL, .int (nI of), .int (nI (of + os.length))] (jb_M dC dI cI sz [(hJ, .inr (0, [.ref aS, .ref hR, .ref hL, .ref gL])), (aS, .inr (3, [.ref aN])), (aN, .inl (cI, 3, .inl (jb_now per mem par))), (hR, .inr (1, [.ref hF, .ref hE, .ref hQ, .int x.2.2.2])), (hF, .inl (cI, 11, .inl x.1)), (hE, .inl (cI, 1500, .inl x.2.1)), (hQ, .inl (cI, 4000, .inl x.2.2.1)), (hL, .inr (2, [.ref aS, .int 1, .ref kA, .ref vA, .ref oA, .ref sA, .ref eA, .int (nI n)])), (kA, .inl (cI, 500, .inl K)), (vA, .inl (cI, 500, .inl V)), (oA, .inl (cI, 500, .inl (jb_O o))), (sA, .inl (cI, 500, .inl Sp)), (eA, .inl (cI, 152, .inl Pe)), (gL, .inr (2, [.ref aS, .int 0, .ref kB, .ref vB, .ref oB, .ref sB, .ref eB, .int (nI nn)])), (kB, .inl (cI, 500, .inl KK)), (vB, .inl (cI, 500, .inl VV)), (oB, .inl (cI, 500, .inl (jb_O oo))), (sB, .inl (cI, 500, .inl Sq)), (eB, .inl (cI, 152, .inl Pf))])) (va_Qi (fun r (_ : Unit) => r = nI (jb_nb ((mem - 2) * per) hs.length)) (jb_B dC dI (va_A [(hJ, .inr (0, [.ref aS, .ref hR, .ref hL, .ref gL])), (aS, .inr (3, [.ref aN])), (aN, .inl (cI, 3, .inl (jb_now per mem par))), (hR, .inr (1, [.ref hF, .ref hE, .ref hQ, .int x.2.2.2])), (hF, .inl (cI, 11, .inl x.1)), (hE, .inl (cI, 1500, .inl x.2.1)), (hQ, .inl (cI, 4000, .inl x.2.2.1)), (hL, .inr (2, [.ref aS, .int 1, .ref kA, .ref vA, .ref oA, .ref sA, .ref eA, .int (nI n)])), (kA, .inl (cI, 500, .inl K)), (vA, .inl (cI, 500, .inl V)), (oA, .inl (cI, 500, .inl (jb_O o))), (sA, .inl (cI, 500, .inl Sp)), (eA, .inl (cI, 152, .inl Pe)), (gL, .inr (2, [.ref aS, .int 0, .ref kB, .ref vB, .ref oB, .ref sB, .ref eB, .int (nI nn)])), (kB, .inl (cI, 500, .inl KK)), (vB, .inl (cI, 500, .inl VV)), (oB, .inl (cI, 500, .inl (jb_O oo))), (sB, .inl (cI, 500, .inl Sq)), (eB, .inl (cI, 152, .inl Pf))] sz) (fun _ => [(hJ, .inr (0, [.ref aS, .ref hR, .ref hL, .ref gL])), (aS, .inr (3, [.ref aN])), (aN, .inl (cI, 3, .inl (jb_now per mem par))), (hR, .inr (1, [.ref hF, .ref hE, .ref hQ, .int ((jc_pairs (jb_bps false KK K ((mem - 2) * per) hs os (jb_nb ((mem - 2) * per) hs.length)) x).2.2.2)])), (hF, .inl (cI, 11, .inl ((jc_pairs (jb_bps false KK K ((mem - 2) * per) hs os (jb_nb ((mem - 2) * per) hs.length)) x).1))), (hE, .inl (cI, 1500, .inl ((jc_pairs (jb_bps false KK K ((mem - 2) * per) hs os (jb_nb ((mem - 2) * per) hs.length)) x).2.1))), (hQ, .inl (cI, 4000, .inl ((jc_pairs (jb_bps false KK K ((mem - 2) * per) hs os (jb_nb ((mem - 2) * per) hs.length)) x).2.2.1))), (hL, .inr (2, [.ref aS, .int 1, .ref kA, .ref vA, .ref oA, .ref sA, .ref eA, .int (nI n)])), (kA, .inl (cI, 500, .inl K)), (vA, .inl (cI, 500, .inl V)), (oA, .inl (cI, 500, .inl (jb_O o))), (sA, .inl (cI, 500, .inl Sp)), (eA, .inl (cI, 152, .inl Pe)), (gL, .inr (2, [.ref aS, .int 0, .ref kB, .ref vB, .ref oB, .ref sB, .ref eB, .int (nI nn)])), (kB, .inl (cI, 500, .inl KK)), (vB, .inl (cI, 500, .inl VV)), (oB, .inl (cI, 500, .inl (jb_O oo))), (sB, .inl (cI, 500, .inl Sq)), (eB, .inl (cI, 152, .inl Pf))])) (va_A [(hJ, .inr (0, [.ref aS, .ref hR, .ref hL, .ref gL])), (aS, .inr (3, [.ref aN])), (aN, .inl (cI, 3, .inl (jb_now per mem par))), (hR, .inr (1, [.ref hF, .ref hE, .ref hQ, .int x.2.2.2])), (hF, .inl (cI, 11, .inl x.1)), (hE, .inl (cI, 1500, .inl x.2.1)), (hQ, .inl (cI, 4000, .inl x.2.2.1)), (hL, .inr (2, [.ref aS, .int 1, .ref kA, .ref vA, .ref oA, .ref sA, .ref eA, .int (nI n)])), (kA, .inl (cI, 500, .inl K)), (vA, .inl (cI, 500, .inl V)), (oA, .inl (cI, 500, .inl (jb_O o))), (sA, .inl (cI, 500, .inl Sp)), (eA, .inl (cI, 152, .inl Pe)), (gL, .inr (2, [.ref aS, .int 0, .ref kB, .ref vB, .ref oB, .ref sB, .ref eB, .int (nI nn)])), (kB, .inl (cI, 500, .inl KK)), (vB, .inl (cI, 500, .inl VV)), (oB, .inl (cI, 500, .inl (jb_O oo))), (sB, .inl (cI, 500, .inl Sq)), (eB, .inl (cI, 152, .inl Pf))] sz)) 0 0 (va_A [(hJ, .inr (0, [.ref aS, .ref hR, .ref hL, .ref gL])), (aS, .inr (3, [.ref aN])), (aN, .inl (cI, 3, .inl (jb_now per mem par))), (hR, .inr (1, [.ref hF, .ref hE, .ref hQ, .int x.2.2.2])), (hF, .inl (cI, 11, .inl x.1)), (hE, .inl (cI, 1500, .inl x.2.1)), (hQ, .inl (cI, 4000, .inl x.2.2.1)), (hL, .inr (2, [.ref aS, .int 1, .ref kA, .ref vA, .ref oA, .ref sA, .ref eA, .int (nI n)])), (kA, .inl (cI, 500, .inl K)), (vA, .inl (cI, 500, .inl V)), (oA, .inl (cI, 500, .inl (jb_O o))), (sA, .inl (cI, 500, .inl Sp)), (eA, .inl (cI, 152, .inl Pe)), (gL, .inr (2, [.ref aS, .int 0, .ref kB, .ref vB, .ref oB, .ref sB, .ref eB, .int (nI nn)])), (kB, .inl (cI, 500, .inl KK)), (vB, .inl (cI, 500, .inl VV)), (oB, .inl (cI, 500, .inl (jb_O oo))), (sB, .inl (cI, 500, .inl Sq)), (eB, .inl (cI, 152, .inl Pf))] sz) := by
  refine Met.ofW (cc := cX0_passBlocks) (maxL := 10) (ret := (some .int)) (by decide) rfl ?_
  intro p e s m args below meth c s₁ B hml hv
  obtain ⟨rfl, hsz, hP, hK, hNw, hD0⟩ := hv
  have hx := B.exec
  have hb := B.bytes
  have hr := B.returns
  have hts := atoms_spec (ws := wsX0_passBlocks) B.pre
  have hown : s.vm.findClass RX0 = some m.cls := findClass_of_methodNamed B.named
  have hlocks := B.notSynchronized
  subst hsz
  have hD := hD0.self (sz := s.heap.size)
  generalize hAe : va_A [(hJ, .inr (0, [.ref aS, .ref hR, .ref hL, .ref gL])), (aS, .inr (3, [.ref aN])), (aN, .inl (cI, 3, .inl (jb_now per mem par))), (hR, .inr (1, [.ref hF, .ref hE, .ref hQ, .int x.2.2.2])), (hF, .inl (cI, 11, .inl x.1)), (hE, .inl (cI, 1500, .inl x.2.1)), (hQ, .inl (cI, 4000, .inl x.2.2.1)), (hL, .inr (2, [.ref aS, .int 1, .ref kA, .ref vA, .ref oA, .ref sA, .ref eA, .int (nI n)])), (kA, .inl (cI, 500, .inl K)), (vA, .inl (cI, 500, .inl V)), (oA, .inl (cI, 500, .inl (jb_O o))), (sA, .inl (cI, 500, .inl Sp)), (eA, .inl (cI, 152, .inl Pe)), (gL, .inr (2, [.ref aS, .int 0, .ref kB, .ref vB, .ref oB, .ref sB, .ref eB, .int (nI nn)])), (kB, .inl (cI, 500, .inl KK)), (vB, .inl (cI, 500, .inl VV)), (oB, .inl (cI, 500, .inl (jb_O oo))), (sB, .inl (cI, 500, .inl Sq)), (eB, .inl (cI, 152, .inl Pf))] s.heap.size = A at hD ⊢
  have hA : ∀ q : Nat, s.heap.size ≤ q → A q := fun q h => by rw [← hAe]; exact Or.inr h
  have hS : va_S A s.heap s.heap [] := va_S.rf
  have hP : va_P (dC, dI) vwCl [(hJ, .inr (0, [.ref aS, .ref hR, .ref hL, .ref gL])), (aS, .inr (3, [.ref aN])), (aN, .inl (cI, 3, .inl (jb_now per mem par))), (hR, .inr (1, [.ref hF, .ref hE, .ref hQ, .int x.2.2.2])), (hF, .inl (cI, 11, .inl x.1)), (hE, .inl (cI, 1500, .inl x.2.1)), (hQ, .inl (cI, 4000, .inl x.2.2.1)), (hL, .inr (2, [.ref aS, .int 1, .ref kA, .ref vA, .ref oA, .ref sA, .ref eA, .int (nI n)])), (kA, .inl (cI, 500, .inl K)), (vA, .inl (cI, 500, .inl V)), (oA, .inl (cI, 500, .inl (jb_O o))), (sA, .inl (cI, 500, .inl Sp)), (eA, .inl (cI, 152, .inl Pe)), (gL, .inr (2, [.ref aS, .int 0, .ref kB, .ref vB, .ref oB, .ref sB, .ref eB, .int (nI nn)])), (kB, .inl (cI, 500, .inl KK)), (vB, .inl (cI, 500, .inl VV)), (oB, .inl (cI, 500, .inl (jb_O oo))), (sB, .inl (cI, 500, .inl Sq)), (eB, .inl (cI, 152, .inl Pf))] s.heap := hP
  have hl := lv_entry ([.ref hJ, .ref gL, .int (nI hf), .int (nI (hf + hs.length)), .ref hL, .int (nI of), .int (nI (of + os.length))]) (n := 10) (Nat.le_of_ble_eq_true rfl)
  rw [lg_entry_eq]
  generalize (lg_sl ([.ref hJ, .ref gL, .int (nI hf), .int (nI (hf + hs.length)), .ref hL, .int (nI of), .int (nI (of + os.length))]) ++ List.replicate (10 - (lg_sl ([.ref hJ, .ref gL, .int (nI hf), .int (nI (hf + hs.length)), .ref hL, .int (nI of), .int (nI (of + os.length))])).length) Slot.unset).toArray = ls at hl ⊢
  have hl : lv_has ls 10 [(0, .ref hJ), (1, .ref gL), (2, .int (nI hf)), (3, .int (nI (hf + hs.length))), (4, .ref hL), (5, .int (nI of)), (6, .int (nI (of + os.length)))] := hl
  refine lv_iconst (v := 1) hx hb dX0_passBlocks_0 (by decide) ?_
  refine lv_aload_n hx hb dX0_passBlocks_1 rfl (lv_at hl 0 rfl) ?_
  refine va_get (D := (dC, dI)) (ci := 0) (v := .ref aS) (C := RX0) (T := TX0) (N := 4) hx hb hts iX0_passBlocks_X0 hown hK hP 0 rfl rfl 0 (by decide) (hts (.fieldLink RX0 9 "JoinBench$Joiner" "sizes" "LJoinBench$Sizes;") (by decide +kernel)) (fun _ h9 => h9) rfl dX0_passBlocks_2 ?_
  refine vp_callSi (va_runV (As := []) (rest := [.int 1]) ⟨hx, hb, hml, hown, hts⟩ (c_blockRows l dC dI cI aS aN per mem par hm) (cwV 0 hts gX0_passBlocks_X3_blockRows rfl rfl rfl (by decide +kernel) ⟨(by decide +kernel), (by decide +kernel)⟩)  ⟨jb_R_blind, va_recv hK hP (ci := 3) (q0 := 1) rfl rfl, jb_R_pre (hP.sub (ws' := [(aS, .inr (3, [.ref aN])), (aN, .inl (cI, 3, .inl (jb_now per mem par)))]) [1, 2] rfl) hK hNw⟩ rfl rfl hl.1 rfl (lv_room (Nat.le_of_ble_eq_true rfl)) dX0_passBlocks_5 ⟨by decide +kernel, by decide +kernel⟩).run (fun r_1 hr_1 => ?_)
  subst hr_1
  refine va_mmax hx hb (by rw [hml]; exact hl.1.symm) hown (hts (.methodLink RX0 99 Lib.Math.max.name) (by decide +kernel)) (hts (.static Lib.Math.max.name) (by decide +kernel)) (hts (.initialized "java/lang/Math") (by decide +kernel)) (hts (.code Lib.Math.max.name Lib.Math.max.code 2 (some .int)) (by decide +kernel)) (by decide +kernel) (Nat.le_of_ble_eq_true rfl) (Nat.zero_le _) (Nat.zero_le _) dX0_passBlocks_8 ?_
  refine lv_topi (fun v_2 ev_2 => ?_)
  have hv_2 : v_2 = nI ((mem - 2) * per) := ev_2.trans (jb_imax1 (jb_step h1 hp hm hm2).1 (by have := (jb_step h1 hp hm hm2).2; omega))
  clear ev_2; subst hv_2
  refine lv_istore (lv' := [(7, .int (nI ((mem - 2) * per))), (0, .ref hJ), (1, .ref gL), (2, .int (nI hf)), (3, .int (nI (hf + hs.length))), (4, .ref hL), (5, .int (nI of)), (6, .int (nI (of + os.length)))]) hx hb dX0_passBlocks_11 hl (by decide) rfl (fun ls hl => ?_)
  refine lv_iconst (v := 0) hx hb dX0_passBlocks_13 (by decide) ?_
  refine lv_istore (lv' := [(8, .int 0), (7, .int (nI ((mem - 2) * per))), (0, .ref hJ), (1, .ref gL), (2, .int (nI hf)), (3, .int (nI (hf + hs.length))), (4, .ref hL), (5, .int (nI of)), (6, .int (nI (of + os.length)))]) hx hb dX0_passBlocks_14 hl (by decide) rfl (fun ls hl => ?_)
  refine lv_iload_n hx hb dX0_passBlocks_16 rfl (lv_at hl 4 rfl) ?_
  refine lv_istore (lv' := [(9, .int (nI hf)), (8, .int 0), (7, .int (nI ((mem - 2) * per))), (0, .ref hJ), (1, .ref gL), (2, .int (nI hf)), (3, .int (nI (hf + hs.length))), (4, .ref hL), (5, .int (nI of)), (6, .int (nI (of + os.length)))]) hx hb dX0_passBlocks_17 hl (by decide) rfl (fun ls hl => ?_)
  have hst := jb_step h1 hp hm hm2
  have ez : (jc_pairs (jb_bps false KK K ((mem - 2) * per) hs os 0) x) = x := rfl
  rw [← ez] at hP hD
  have hl : lv_has ls 10 [(9, .int (nI (hf + 0 * ((mem - 2) * per)))), (8, .int 0), (7, .int (nI ((mem - 2) * per))), (0, .ref hJ), (1, .ref gL), (2, .int (nI hf)), (3, .int (nI (hf + hs.length))), (4, .ref hL), (5, .int (nI of)), (6, .int (nI (of + os.length)))] := by rw [Nat.zero_mul]; exact hl
  have hl_a : ∀ (k_a : Nat) (b : Nat), jb_nb ((mem - 2) * per) hs.length - b < k_a → (b ≤ jb_nb ((mem - 2) * per) hs.length) → ∀ (H : Heap) (locs : List Loc), va_P (dC, dI) vwCl [(hJ, .inr (0, [.ref aS, .ref hR, .ref hL, .ref gL])), (aS, .inr (3, [.ref aN])), (aN, .inl (cI, 3, .inl (jb_now per mem par))), (hR, .inr (1, [.ref hF, .ref hE, .ref hQ, .int ((jc_pairs (jb_bps false KK K ((mem - 2) * per) hs os b) x).2.2.2)])), (hF, .inl (cI, 11, .inl ((jc_pairs (jb_bps false KK K ((mem - 2) * per) hs os b) x).1))), (hE, .inl (cI, 1500, .inl ((jc_pairs (jb_bps false KK K ((mem - 2) * per) hs os b) x).2.1))), (hQ, .inl (cI, 4000, .inl ((jc_pairs (jb_bps false KK K ((mem - 2) * per) hs os b) x).2.2.1))), (hL, .inr (2, [.ref aS, .int 1, .ref kA, .ref vA, .ref oA, .ref sA, .ref eA, .int (nI n)])), (kA, .inl (cI, 500, .inl K)), (vA, .inl (cI, 500, .inl V)), (oA, .inl (cI, 500, .inl (jb_O o))), (sA, .inl (cI, 500, .inl Sp)), (eA, .inl (cI, 152, .inl Pe)), (gL, .inr (2, [.ref aS, .int 0, .ref kB, .ref vB, .ref oB, .ref sB, .ref eB, .int (nI nn)])), (kB, .inl (cI, 500, .inl KK)), (vB, .inl (cI, 500, .inl VV)), (oB, .inl (cI, 500, .inl (jb_O oo))), (sB, .inl (cI, 500, .inl Sq)), (eB, .inl (cI, 152, .inl Pf))] H → va_D A [(hJ, .inr (0, [.ref aS, .ref hR, .ref hL, .ref gL])), (aS, .inr (3, [.ref aN])), (aN, .inl (cI, 3, .inl (jb_now per mem par))), (hR, .inr (1, [.ref hF, .ref hE, .ref hQ, .int ((jc_pairs (jb_bps false KK K ((mem - 2) * per) hs os b) x).2.2.2)])), (hF, .inl (cI, 11, .inl ((jc_pairs (jb_bps false KK K ((mem - 2) * per) hs os b) x).1))), (hE, .inl (cI, 1500, .inl ((jc_pairs (jb_bps false KK K ((mem - 2) * per) hs os b) x).2.1))), (hQ, .inl (cI, 4000, .inl ((jc_pairs (jb_bps false KK K ((mem - 2) * per) hs os b) x).2.2.1))), (hL, .inr (2, [.ref aS, .int 1, .ref kA, .ref vA, .ref oA, .ref sA, .ref eA, .int (nI n)])), (kA, .inl (cI, 500, .inl K)), (vA, .inl (cI, 500, .inl V)), (oA, .inl (cI, 500, .inl (jb_O o))), (sA, .inl (cI, 500, .inl Sp)), (eA, .inl (cI, 152, .inl Pe)), (gL, .inr (2, [.ref aS, .int 0, .ref kB, .ref vB, .ref oB, .ref sB, .ref eB, .int (nI nn)])), (kB, .inl (cI, 500, .inl KK)), (vB, .inl (cI, 500, .inl VV)), (oB, .inl (cI, 500, .inl (jb_O oo))), (sB, .inl (cI, 500, .inl Sq)), (eB, .inl (cI, 152, .inl Pf))] → va_S A s.heap H locs → ∀ ls : Array Slot, lv_has ls 10 [(0, .ref hJ), (1, .ref gL), (3, .int (nI (hf + hs.length))), (4, .ref hL), (5, .int (nI of)), (6, .int (nI (of + os.length))), (7, .int (nI ((mem - 2) * per))), (8, .int (nI b)), (9, .int (nI (hf + b * ((mem - 2) * per))))] → W p l e ({ frames := 4, cells := 0, slots := 0, locals := 160 } : Room) s m ([.ref hJ, .ref gL, .int (nI hf), .int (nI (hf + hs.length)), .ref hL, .int (nI of), .int (nI (of + os.length))] : List Value).toArray below meth c H locs 0 0 (MQ below (va_Qi (fun r (_ : Unit) => r = nI (jb_nb ((mem - 2) * per) hs.length)) (jb_B dC dI A (fun _ => [(hJ, .inr (0, [.ref aS, .ref hR, .ref hL, .ref gL])), (aS, .inr (3, [.ref aN])), (aN, .inl (cI, 3, .inl (jb_now per mem par))), (hR, .inr (1, [.ref hF, .ref hE, .ref hQ, .int ((jc_pairs (jb_bps false KK K ((mem - 2) * per) hs os (jb_nb ((mem - 2) * per) hs.length)) x).2.2.2)])), (hF, .inl (cI, 11, .inl ((jc_pairs (jb_bps false KK K ((mem - 2) * per) hs os (jb_nb ((mem - 2) * per) hs.length)) x).1))), (hE, .inl (cI, 1500, .inl ((jc_pairs (jb_bps false KK K ((mem - 2) * per) hs os (jb_nb ((mem - 2) * per) hs.length)) x).2.1))), (hQ, .inl (cI, 4000, .inl ((jc_pairs (jb_bps false KK K ((mem - 2) * per) hs os (jb_nb ((mem - 2) * per) hs.length)) x).2.2.1))), (hL, .inr (2, [.ref aS, .int 1, .ref kA, .ref vA, .ref oA, .ref sA, .ref eA, .int (nI n)])), (kA, .inl (cI, 500, .inl K)), (vA, .inl (cI, 500, .inl V)), (oA, .inl (cI, 500, .inl (jb_O o))), (sA, .inl (cI, 500, .inl Sp)), (eA, .inl (cI, 152, .inl Pe)), (gL, .inr (2, [.ref aS, .int 0, .ref kB, .ref vB, .ref oB, .ref sB, .ref eB, .int (nI nn)])), (kB, .inl (cI, 500, .inl KK)), (vB, .inl (cI, 500, .inl VV)), (oB, .inl (cI, 500, .inl (jb_O oo))), (sB, .inl (cI, 500, .inl Sq)), (eB, .inl (cI, 152, .inl Pf))])) A) ([.ref hJ, .ref gL, .int (nI hf), .int (nI (hf + hs.length)), .ref hL, .int (nI of), .int (nI (of + os.length))] : List Value).toArray s 0 0 (A)) (F0 m 19 ls []) := by
    intro k_a
    induction k_a with
    | zero => intro b hk; exact absurd hk (Nat.not_lt_zero _)
    | succ k_a ih_a =>
      intro b hk_a hbn H locs hP hD hS ls hl
      have hbs := jb_nb_le hst.1 hbn
      refine lv_iload hx hb dX0_passBlocks_19 (lv_at hl 8 rfl) ?_
      refine lv_iload_n hx hb dX0_passBlocks_21 rfl (lv_at hl 2 rfl) ?_
      refine lv_icmp_ge (tgt := 60) hx hb dX0_passBlocks_22 (by decide) (fun c_22 => ?_) (fun c_22 => ?_)
      · have hge : b = jb_nb ((mem - 2) * per) hs.length := by have h9 := (nI_leI (a := hf + hs.length) (b := hf + b * ((mem - 2) * per)) (by omega) (by omega)).mp c_22; have h8 := mt (jb_nb_lt (n := hs.length) (b := b) hst.1).mp (by omega); omega
        rw [hge] at hP hD hl
        refine lv_iload hx hb dX0_passBlocks_60 (lv_at hl 7 rfl) ?_
        have hP9 : va_P (dC, dI) vwCl [(hJ, .inr (0, [.ref aS, .ref hR, .ref hL, .ref gL])), (aS, .inr (3, [.ref aN])), (aN, .inl (cI, 3, .inl (jb_now per mem par))), (hR, .inr (1, [.ref hF, .ref hE, .ref hQ, .int ((jc_pairs (jb_bps false KK K ((mem - 2) * per) hs os (jb_nb ((mem - 2) * per) hs.length)) x).2.2.2)])), (hF, .inl (cI, 11, .inl ((jc_pairs (jb_bps false KK K ((mem - 2) * per) hs os (jb_nb ((mem - 2) * per) hs.length)) x).1))), (hE, .inl (cI, 1500, .inl ((jc_pairs (jb_bps false KK K ((mem - 2) * per) hs os (jb_nb ((mem - 2) * per) hs.length)) x).2.1))), (hQ, .inl (cI, 4000, .inl ((jc_pairs (jb_bps false KK K ((mem - 2) * per) hs os (jb_nb ((mem - 2) * per) hs.length)) x).2.2.1))), (hL, .inr (2, [.ref aS, .int 1, .ref kA, .ref vA, .ref oA, .ref sA, .ref eA, .int (nI n)])), (kA, .inl (cI, 500, .inl K)), (vA, .inl (cI, 500, .inl V)), (oA, .inl (cI, 500, .inl (jb_O o))), (sA, .inl (cI, 500, .inl Sp)), (eA, .inl (cI, 152, .inl Pe)), (gL, .inr (2, [.ref aS, .int 0, .ref kB, .ref vB, .ref oB, .ref sB, .ref eB, .int (nI nn)])), (kB, .inl (cI, 500, .inl KK)), (vB, .inl (cI, 500, .inl VV)), (oB, .inl (cI, 500, .inl (jb_O oo))), (sB, .inl (cI, 500, .inl Sq)), (eB, .inl (cI, 152, .inl Pf))] H := hP.sub [0, 1, 2, 3, 4, 5, 6, 7, 8, 9, 10, 11, 12, 13, 14, 15, 16, 17, 18] rfl
        have hD9 : va_D A [(hJ, .inr (0, [.ref aS, .ref hR, .ref hL, .ref gL])), (aS, .inr (3, [.ref aN])), (aN, .inl (cI, 3, .inl (jb_now per mem par))), (hR, .inr (1, [.ref hF, .ref hE, .ref hQ, .int ((jc_pairs (jb_bps false KK K ((mem - 2) * per) hs os (jb_nb ((mem - 2) * per) hs.length)) x).2.2.2)])), (hF, .inl (cI, 11, .inl ((jc_pairs (jb_bps false KK K ((mem - 2) * per) hs os (jb_nb ((mem - 2) * per) hs.length)) x).1))), (hE, .inl (cI, 1500, .inl ((jc_pairs (jb_bps false KK K ((mem - 2) * per) hs os (jb_nb ((mem - 2) * per) hs.length)) x).2.1))), (hQ, .inl (cI, 4000, .inl ((jc_pairs (jb_bps false KK K ((mem - 2) * per) hs os (jb_nb ((mem - 2) * per) hs.length)) x).2.2.1))), (hL, .inr (2, [.ref aS, .int 1, .ref kA, .ref vA, .ref oA, .ref sA, .ref eA, .int (nI n)])), (kA, .inl (cI, 500, .inl K)), (vA, .inl (cI, 500, .inl V)), (oA, .inl (cI, 500, .inl (jb_O o))), (sA, .inl (cI, 500, .inl Sp)), (eA, .inl (cI, 152, .inl Pe)), (gL, .inr (2, [.ref aS, .int 0, .ref kB, .ref vB, .ref oB, .ref sB, .ref eB, .int (nI nn)])), (kB, .inl (cI, 500, .inl KK)), (vB, .inl (cI, 500, .inl VV)), (oB, .inl (cI, 500, .inl (jb_O oo))), (sB, .inl (cI, 500, .inl Sq)), (eB, .inl (cI, 152, .inl Pf))] := hD.sub [0, 1, 2, 3, 4, 5, 6, 7, 8, 9, 10, 11, 12, 13, 14, 15, 16, 17, 18] (by decide) rfl
        exact W.iret (v := nI (jb_nb ((mem - 2) * per) hs.length)) hx hb hr (fun t ht hW => ⟨⟨_, (), rfl, rfl, by rw [ht]; exact hP9, hD9⟩, hS.F ht⟩) hS.2.2 dX0_passBlocks_62
      · have hlt : b * ((mem - 2) * per) < hs.length := by have := (jb_nle (a := hf + hs.length) (b := hf + b * ((mem - 2) * per)) (by omega) (by omega)).mp c_22; omega
        have hbl : b < jb_nb ((mem - 2) * per) hs.length := (jb_nb_lt hst.1).mpr hlt
        have hbk := jb_blk_len ((mem - 2) * per) b hs
        refine lv_aload_n hx hb dX0_passBlocks_25 rfl (lv_at hl 0 rfl) ?_
        refine lv_aload_n hx hb dX0_passBlocks_26 rfl (lv_at hl 1 rfl) ?_
        refine lv_iload hx hb dX0_passBlocks_27 (lv_at hl 8 rfl) ?_
        refine lv_iload hx hb dX0_passBlocks_29 (lv_at hl 8 rfl) ?_
        refine lv_iload hx hb dX0_passBlocks_31 (lv_at hl 6 rfl) ?_
        refine lv_iadd hx hb dX0_passBlocks_33 ?_
        refine lv_topi (fun v_3 ev_3 => ?_)
        have hv_3 : v_3 = nI (hf + b * ((mem - 2) * per) + ((mem - 2) * per)) := ev_3.trans (nI_add _ _)
        clear ev_3; subst hv_3
        refine lv_iload_n hx hb dX0_passBlocks_34 rfl (lv_at hl 2 rfl) ?_
        refine va_mmin hx hb (by rw [hml]; exact hl.1.symm) hown (hts (.methodLink RX0 62 Lib.Math.min.name) (by decide +kernel)) (hts (.static Lib.Math.min.name) (by decide +kernel)) (hts (.initialized "java/lang/Math") (by decide +kernel)) (hts (.code Lib.Math.min.name Lib.Math.min.code 2 (some .int)) (by decide +kernel)) (by decide +kernel) (Nat.le_of_ble_eq_true rfl) (Nat.zero_le _) (Nat.zero_le _) dX0_passBlocks_35 ?_
        refine lv_topi (fun v_4 ev_4 => ?_)
        have hv_4 : v_4 = nI (hf + b * ((mem - 2) * per) + (jb_blk ((mem - 2) * per) hs b).length) := ev_4.trans ((jb_imin (by omega) (by omega)).trans (congrArg nI (by rw [hbk]; omega)))
        clear ev_4; subst hv_4
        refine lv_aload hx hb dX0_passBlocks_38 (lv_at hl 3 rfl) ?_
        refine lv_iload hx hb dX0_passBlocks_40 (lv_at hl 4 rfl) ?_
        refine lv_iload hx hb dX0_passBlocks_42 (lv_at hl 5 rfl) ?_
        have hsum := jb_bps_b (isL := false) (kh := KK) (ko := K) (step := ((mem - 2) * per)) (hs := hs) (os := os) (b := b)
        refine jb_cv (wc := [(hJ, .inr (0, [.ref aS, .ref hR, .ref hL, .ref gL])), (hR, .inr (1, [.ref hF, .ref hE, .ref hQ, .int ((jc_pairs (jb_bps false KK K ((mem - 2) * per) hs os b) x).2.2.2)])), (hF, .inl (cI, 11, .inl ((jc_pairs (jb_bps false KK K ((mem - 2) * per) hs os b) x).1))), (hE, .inl (cI, 1500, .inl ((jc_pairs (jb_bps false KK K ((mem - 2) * per) hs os b) x).2.1))), (hQ, .inl (cI, 4000, .inl ((jc_pairs (jb_bps false KK K ((mem - 2) * per) hs os b) x).2.2.1))), (hL, .inr (2, [.ref aS, .int 1, .ref kA, .ref vA, .ref oA, .ref sA, .ref eA, .int (nI n)])), (kA, .inl (cI, 500, .inl K)), (vA, .inl (cI, 500, .inl V)), (oA, .inl (cI, 500, .inl (jb_O o))), (sA, .inl (cI, 500, .inl Sp)), (eA, .inl (cI, 152, .inl Pe)), (gL, .inr (2, [.ref aS, .int 0, .ref kB, .ref vB, .ref oB, .ref sB, .ref eB, .int (nI nn)])), (kB, .inl (cI, 500, .inl KK)), (vB, .inl (cI, 500, .inl VV)), (oB, .inl (cI, 500, .inl (jb_O oo))), (sB, .inl (cI, 500, .inl Sq)), (eB, .inl (cI, 152, .inl Pf))]) (wr := [(aS, .inr (3, [.ref aN])), (aN, .inl (cI, 3, .inl (jb_now per mem par)))]) (va_runV (As := [.ref gL, .int (nI (hf + b * ((mem - 2) * per))), .int (nI (hf + b * ((mem - 2) * per) + (jb_blk ((mem - 2) * per) hs b).length)), .ref hL, .int (nI of), .int (nI (of + os.length))]) (rest := []) ⟨hx, hb, hml, hown, hts⟩ (c_matchR l dC dI cI H.size hJ aS aN hR hF hE hQ hL kA vA oA sA eA gL kB vB oB sB eB per mem par K V o Sp Pe n KK VV oo Sq Pf nn (jc_pairs (jb_bps false KK K ((mem - 2) * per) hs os b) x) (jb_blk ((mem - 2) * per) hs b) os (hf + b * ((mem - 2) * per)) of (np + (jb_bps false KK K ((mem - 2) * per) hs os b).length) (jb_blk_in hin) hin2 (fun r hr => hb5 r (jb_blk_mem hr)) hb6 (by omega) hto2 hn hn2 (jc_pairs_n _ hnp) (by omega)) (cwV 6 hts gX0_passBlocks_X0_matchRows rfl rfl rfl (by decide +kernel) ⟨(by decide +kernel), (by decide +kernel)⟩)  ⟨jb_M_blind, va_recv hK hP (ci := 0) (q0 := 0) rfl rfl, jb_M_pre (hP.sub (ws' := [(hJ, .inr (0, [.ref aS, .ref hR, .ref hL, .ref gL])), (hR, .inr (1, [.ref hF, .ref hE, .ref hQ, .int ((jc_pairs (jb_bps false KK K ((mem - 2) * per) hs os b) x).2.2.2)])), (hF, .inl (cI, 11, .inl ((jc_pairs (jb_bps false KK K ((mem - 2) * per) hs os b) x).1))), (hE, .inl (cI, 1500, .inl ((jc_pairs (jb_bps false KK K ((mem - 2) * per) hs os b) x).2.1))), (hQ, .inl (cI, 4000, .inl ((jc_pairs (jb_bps false KK K ((mem - 2) * per) hs os b) x).2.2.1))), (hL, .inr (2, [.ref aS, .int 1, .ref kA, .ref vA, .ref oA, .ref sA, .ref eA, .int (nI n)])), (kA, .inl (cI, 500, .inl K)), (vA, .inl (cI, 500, .inl V)), (oA, .inl (cI, 500, .inl (jb_O o))), (sA, .inl (cI, 500, .inl Sp)), (eA, .inl (cI, 152, .inl Pe)), (gL, .inr (2, [.ref aS, .int 0, .ref kB, .ref vB, .ref oB, .ref sB, .ref eB, .int (nI nn)])), (kB, .inl (cI, 500, .inl KK)), (vB, .inl (cI, 500, .inl VV)), (oB, .inl (cI, 500, .inl (jb_O oo))), (sB, .inl (cI, 500, .inl Sq)), (eB, .inl (cI, 152, .inl Pf))]) [0, 3, 4, 5, 6, 7, 8, 9, 10, 11, 12, 13, 14, 15, 16, 17, 18] rfl) (hD.sub (ws' := [(hJ, .inr (0, [.ref aS, .ref hR, .ref hL, .ref gL])), (hR, .inr (1, [.ref hF, .ref hE, .ref hQ, .int ((jc_pairs (jb_bps false KK K ((mem - 2) * per) hs os b) x).2.2.2)])), (hF, .inl (cI, 11, .inl ((jc_pairs (jb_bps false KK K ((mem - 2) * per) hs os b) x).1))), (hE, .inl (cI, 1500, .inl ((jc_pairs (jb_bps false KK K ((mem - 2) * per) hs os b) x).2.1))), (hQ, .inl (cI, 4000, .inl ((jc_pairs (jb_bps false KK K ((mem - 2) * per) hs os b) x).2.2.1))), (hL, .inr (2, [.ref aS, .int 1, .ref kA, .ref vA, .ref oA, .ref sA, .ref eA, .int (nI n)])), (kA, .inl (cI, 500, .inl K)), (vA, .inl (cI, 500, .inl V)), (oA, .inl (cI, 500, .inl (jb_O o))), (sA, .inl (cI, 500, .inl Sp)), (eA, .inl (cI, 152, .inl Pe)), (gL, .inr (2, [.ref aS, .int 0, .ref kB, .ref vB, .ref oB, .ref sB, .ref eB, .int (nI nn)])), (kB, .inl (cI, 500, .inl KK)), (vB, .inl (cI, 500, .inl VV)), (oB, .inl (cI, 500, .inl (jb_O oo))), (sB, .inl (cI, 500, .inl Sq)), (eB, .inl (cI, 152, .inl Pf))]) [0, 3, 4, 5, 6, 7, 8, 9, 10, 11, 12, 13, 14, 15, 16, 17, 18] (by decide) rfl) hK hNw⟩ rfl rfl hl.1 rfl (lv_room (Nat.le_of_ble_eq_true rfl)) dX0_passBlocks_44 ⟨by decide +kernel, by decide +kernel⟩) hP hD hS hA [0, 3, 4, 5, 6, 7, 8, 9, 10, 11, 12, 13, 14, 15, 16, 17, 18] [1, 2] rfl rfl (by decide) (by decide) (fun u_5 H locs hu_5 hP hD hS => ?_)
        have hP : va_P (dC, dI) vwCl [(hJ, .inr (0, [.ref aS, .ref hR, .ref hL, .ref gL])), (aS, .inr (3, [.ref aN])), (aN, .inl (cI, 3, .inl (jb_now per mem par))), (hR, .inr (1, [.ref hF, .ref hE, .ref hQ, .int ((jc_pairs (jb_meet false KK K (jb_blk ((mem - 2) * per) hs b) os) (jc_pairs (jb_bps false KK K ((mem - 2) * per) hs os b) x)).2.2.2)])), (hF, .inl (cI, 11, .inl ((jc_pairs (jb_meet false KK K (jb_blk ((mem - 2) * per) hs b) os) (jc_pairs (jb_bps false KK K ((mem - 2) * per) hs os b) x)).1))), (hE, .inl (cI, 1500, .inl ((jc_pairs (jb_meet false KK K (jb_blk ((mem - 2) * per) hs b) os) (jc_pairs (jb_bps false KK K ((mem - 2) * per) hs os b) x)).2.1))), (hQ, .inl (cI, 4000, .inl ((jc_pairs (jb_meet false KK K (jb_blk ((mem - 2) * per) hs b) os) (jc_pairs (jb_bps false KK K ((mem - 2) * per) hs os b) x)).2.2.1))), (hL, .inr (2, [.ref aS, .int 1, .ref kA, .ref vA, .ref oA, .ref sA, .ref eA, .int (nI n)])), (kA, .inl (cI, 500, .inl K)), (vA, .inl (cI, 500, .inl V)), (oA, .inl (cI, 500, .inl (jb_O o))), (sA, .inl (cI, 500, .inl Sp)), (eA, .inl (cI, 152, .inl Pe)), (gL, .inr (2, [.ref aS, .int 0, .ref kB, .ref vB, .ref oB, .ref sB, .ref eB, .int (nI nn)])), (kB, .inl (cI, 500, .inl KK)), (vB, .inl (cI, 500, .inl VV)), (oB, .inl (cI, 500, .inl (jb_O oo))), (sB, .inl (cI, 500, .inl Sq)), (eB, .inl (cI, 152, .inl Pf))] H := hP.sub [2, 0, 1, 3, 4, 5, 6, 7, 8, 9, 10, 11, 12, 13, 14, 15, 16, 17, 18] rfl
        have hD : va_D A [(hJ, .inr (0, [.ref aS, .ref hR, .ref hL, .ref gL])), (aS, .inr (3, [.ref aN])), (aN, .inl (cI, 3, .inl (jb_now per mem par))), (hR, .inr (1, [.ref hF, .ref hE, .ref hQ, .int ((jc_pairs (jb_meet false KK K (jb_blk ((mem - 2) * per) hs b) os) (jc_pairs (jb_bps false KK K ((mem - 2) * per) hs os b) x)).2.2.2)])), (hF, .inl (cI, 11, .inl ((jc_pairs (jb_meet false KK K (jb_blk ((mem - 2) * per) hs b) os) (jc_pairs (jb_bps false KK K ((mem - 2) * per) hs os b) x)).1))), (hE, .inl (cI, 1500, .inl ((jc_pairs (jb_meet false KK K (jb_blk ((mem - 2) * per) hs b) os) (jc_pairs (jb_bps false KK K ((mem - 2) * per) hs os b) x)).2.1))), (hQ, .inl (cI, 4000, .inl ((jc_pairs (jb_meet false KK K (jb_blk ((mem - 2) * per) hs b) os) (jc_pairs (jb_bps false KK K ((mem - 2) * per) hs os b) x)).2.2.1))), (hL, .inr (2, [.ref aS, .int 1, .ref kA, .ref vA, .ref oA, .ref sA, .ref eA, .int (nI n)])), (kA, .inl (cI, 500, .inl K)), (vA, .inl (cI, 500, .inl V)), (oA, .inl (cI, 500, .inl (jb_O o))), (sA, .inl (cI, 500, .inl Sp)), (eA, .inl (cI, 152, .inl Pe)), (gL, .inr (2, [.ref aS, .int 0, .ref kB, .ref vB, .ref oB, .ref sB, .ref eB, .int (nI nn)])), (kB, .inl (cI, 500, .inl KK)), (vB, .inl (cI, 500, .inl VV)), (oB, .inl (cI, 500, .inl (jb_O oo))), (sB, .inl (cI, 500, .inl Sq)), (eB, .inl (cI, 152, .inl Pf))] := hD.sub [2, 0, 1, 3, 4, 5, 6, 7, 8, 9, 10, 11, 12, 13, 14, 15, 16, 17, 18] (by decide) rfl
        rw [← jc_pairs_app] at hP hD
        have hP : va_P (dC, dI) vwCl [(hJ, .inr (0, [.ref aS, .ref hR, .ref hL, .ref gL])), (aS, .inr (3, [.ref aN])), (aN, .inl (cI, 3, .inl (jb_now per mem par))), (hR, .inr (1, [.ref hF, .ref hE, .ref hQ, .int ((jc_pairs (jb_bps false KK K ((mem - 2) * per) hs os (b + 1)) x).2.2.2)])), (hF, .inl (cI, 11, .inl ((jc_pairs (jb_bps false KK K ((mem - 2) * per) hs os (b + 1)) x).1))), (hE, .inl (cI, 1500, .inl ((jc_pairs (jb_bps false KK K ((mem - 2) * per) hs os (b + 1)) x).2.1))), (hQ, .inl (cI, 4000, .inl ((jc_pairs (jb_bps false KK K ((mem - 2) * per) hs os (b + 1)) x).2.2.1))), (hL, .inr (2, [.ref aS, .int 1, .ref kA, .ref vA, .ref oA, .ref sA, .ref eA, .int (nI n)])), (kA, .inl (cI, 500, .inl K)), (vA, .inl (cI, 500, .inl V)), (oA, .inl (cI, 500, .inl (jb_O o))), (sA, .inl (cI, 500, .inl Sp)), (eA, .inl (cI, 152, .inl Pe)), (gL, .inr (2, [.ref aS, .int 0, .ref kB, .ref vB, .ref oB, .ref sB, .ref eB, .int (nI nn)])), (kB, .inl (cI, 500, .inl KK)), (vB, .inl (cI, 500, .inl VV)), (oB, .inl (cI, 500, .inl (jb_O oo))), (sB, .inl (cI, 500, .inl Sq)), (eB, .inl (cI, 152, .inl Pf))] H := hP
        have hD : va_D A [(hJ, .inr (0, [.ref aS, .ref hR, .ref hL, .ref gL])), (aS, .inr (3, [.ref aN])), (aN, .inl (cI, 3, .inl (jb_now per mem par))), (hR, .inr (1, [.ref hF, .ref hE, .ref hQ, .int ((jc_pairs (jb_bps false KK K ((mem - 2) * per) hs os (b + 1)) x).2.2.2)])), (hF, .inl (cI, 11, .inl ((jc_pairs (jb_bps false KK K ((mem - 2) * per) hs os (b + 1)) x).1))), (hE, .inl (cI, 1500, .inl ((jc_pairs (jb_bps false KK K ((mem - 2) * per) hs os (b + 1)) x).2.1))), (hQ, .inl (cI, 4000, .inl ((jc_pairs (jb_bps false KK K ((mem - 2) * per) hs os (b + 1)) x).2.2.1))), (hL, .inr (2, [.ref aS, .int 1, .ref kA, .ref vA, .ref oA, .ref sA, .ref eA, .int (nI n)])), (kA, .inl (cI, 500, .inl K)), (vA, .inl (cI, 500, .inl V)), (oA, .inl (cI, 500, .inl (jb_O o))), (sA, .inl (cI, 500, .inl Sp)), (eA, .inl (cI, 152, .inl Pe)), (gL, .inr (2, [.ref aS, .int 0, .ref kB, .ref vB, .ref oB, .ref sB, .ref eB, .int (nI nn)])), (kB, .inl (cI, 500, .inl KK)), (vB, .inl (cI, 500, .inl VV)), (oB, .inl (cI, 500, .inl (jb_O oo))), (sB, .inl (cI, 500, .inl Sq)), (eB, .inl (cI, 152, .inl Pf))] := hD
        refine lv_iinc (v := nI (b + 1)) (lv' := [(8, .int (nI (b + 1))), (0, .ref hJ), (1, .ref gL), (3, .int (nI (hf + hs.length))), (4, .ref hL), (5, .int (nI of)), (6, .int (nI (of + os.length))), (7, .int (nI ((mem - 2) * per))), (9, .int (nI (hf + b * ((mem - 2) * per))))]) hx hb dX0_passBlocks_47 hl (k := 7) rfl (nI_1 b) (by decide) rfl (fun ls hl => ?_)
        refine lv_iload hx hb dX0_passBlocks_50 (lv_at hl 8 rfl) ?_
        refine lv_iload hx hb dX0_passBlocks_52 (lv_at hl 7 rfl) ?_
        refine lv_iadd hx hb dX0_passBlocks_54 ?_
        refine lv_topi (fun v_6 ev_6 => ?_)
        have hv_6 : v_6 = nI (hf + (b + 1) * ((mem - 2) * per)) := ev_6.trans ((nI_add _ _).trans (congrArg nI (by rw [Nat.succ_mul]; omega)))
        clear ev_6; subst hv_6
        refine lv_istore (lv' := [(9, .int (nI (hf + (b + 1) * ((mem - 2) * per)))), (8, .int (nI (b + 1))), (0, .ref hJ), (1, .ref gL), (3, .int (nI (hf + hs.length))), (4, .ref hL), (5, .int (nI of)), (6, .int (nI (of + os.length))), (7, .int (nI ((mem - 2) * per)))]) hx hb dX0_passBlocks_55 hl (by decide) rfl (fun ls hl => ?_)
        refine lv_goto (tgt := 19) hx hb dX0_passBlocks_57 (by decide) ?_
        exact ih_a (b + 1) (by omega) hbl H locs hP hD hS ls (lv_sub hl [2, 3, 4, 5, 6, 7, 8, 1, 0] rfl)
  exact hl_a (jb_nb ((mem - 2) * per) hs.length - 0 + 1) 0 (by omega) (Nat.zero_le _) s.heap [] hP hD hS ls (lv_sub hl [3, 4, 6, 7, 8, 9, 2, 1, 0] rfl)
theorem iX0_joinBlocks_X0 : ∀ w ∈ wsX00, w ∈ wsX0_joinBlocks := by decide +kernel
set_option maxHeartbeats 1000000 in
set_option maxRecDepth 100000 in
/-- Joiner.joinBlocks -/
theorem c_joinBlocks (l : Launch) (dC : Nat → ClassId) (dI : Nat → Nat → Nat) (cI : ClassId) (sz : Nat) (hJ aS aN hR hF hE hQ hL kA vA oA sA eA gL kB vB oB sB eB per mem par : Nat) (K V : Nat → Int32) (o : Nat → Nat) (Sp Pe : Nat → Int32) (n : Nat) (KK VV : Nat → Int32) (oo : Nat → Nat) (Sq Pf : Nat → Int32) (nn : Nat) (x : jbR) (la lb : List Nat) (lf rf np : Nat) (hin : jb_in o lf la) (hin2 : jb_in oo rf lb) (hb5 : ∀ r ∈ la, r < 500) (hb6 : ∀ r ∈ lb, r < 500) (hto : lf + la.length ≤ n) (hto2 : rf + lb.length ≤ nn) (hn : n ≤ 500) (hn2 : nn ≤ 500) (h1 : 1 ≤ per) (hp : per ≤ 16) (hm : 3 ≤ mem) (hm2 : mem ≤ 20) (hnp : x.1 10 = nI np) (hbd : np + la.length * lb.length < 1000000) : Met l yX0_joinBlocks wsX0_joinBlocks ({ frames := 5, cells := 0, slots := 0, locals := 200 } : Room) (va_Pc [.ref hJ, .int (nI lf), .int (nI (lf + la.length)), .int (nI rf), .int (nI (rf + lb.length))] (jb_M dC dI cI sz [(hJ, .inr (0, [.ref aS, .ref hR, .ref hL, .ref gL])), (aS, .inr (3, [.ref aN])), (aN, .inl (cI, 3, .inl (jb_now per mem par))), (hR, .inr (1, [.ref hF, .ref hE, .ref hQ, .int x.2.2.2])), (hF, .inl (cI, 11, .inl x.1)), (hE, .inl (cI, 1500, .inl x.2.1)), (hQ, .inl (cI, 4000, .inl x.2.2.1)), (hL, .inr (2, [.ref aS, .int 1, .ref kA, .ref vA, .ref oA, .ref sA, .ref eA, .int (nI n)])), (kA, .inl (cI, 500, .inl K)), (vA, .inl (cI, 500, .inl V)), (oA, .inl (cI, 500, .inl (jb_O o))), (sA, .inl (cI, 500, .inl Sp)), (eA, .inl (cI, 152, .inl Pe)), (gL, .inr (2, [.ref aS, .int 0, .ref kB, .ref vB, .ref oB, .ref sB, .ref eB, .int (nI nn)])), (kB, .inl (cI, 500, .inl KK)), (vB, .inl (cI, 500, .inl VV)), (oB, .inl (cI, 500, .inl (jb_O oo))), (sB, .inl (cI, 500, .inl Sq)), (eB, .inl (cI, 152, .inl Pf))])) (va_Qi (fun r (_ : Unit) => r = nI (jb_rd per mem la.length lb.length)) (jb_B dC dI (va_A [(hJ, .inr (0, [.ref aS, .ref hR, .ref hL, .ref gL])), (aS, .inr (3, [.ref aN])), (aN, .inl (cI, 3, .inl (jb_now per mem par))), (hR, .inr (1, [.ref hF, .ref hE, .ref hQ, .int x.2.2.2])), (hF, .inl (cI, 11, .inl x.1)), (hE, .inl (cI, 1500, .inl x.2.1)), (hQ, .inl (cI, 4000, .inl x.2.2.1)), (hL, .inr (2, [.ref aS, .int 1, .ref kA, .ref vA, .ref oA, .ref sA, .ref eA, .int (nI n)])), (kA, .inl (cI, 500, .inl K)), (vA, .inl (cI, 500, .inl V)), (oA, .inl (cI, 500, .inl (jb_O o))), (sA, .inl (cI, 500, .inl Sp)), (eA, .inl (cI, 152, .inl Pe)), (gL, .inr (2, [.ref aS, .int 0, .ref kB, .ref vB, .ref oB, .ref sB, .ref eB, .int (nI nn)])), (kB, .inl (cI, 500, .inl KK)), (vB, .inl (cI, 500, .inl VV)), (oB, .inl (cI, 500, .inl (jb_O oo))), (sB, .inl (cI, 500, .inl Sq)), (eB, .inl (cI, 152, .inl Pf))] sz) (fun _ => [(hJ, .inr (0, [.ref aS, .ref hR, .ref hL, .ref gL])), (aS, .inr (3, [.ref aN])), (aN, .inl (cI, 3, .inl (jb_now per mem par))), (hR, .inr (1, [.ref hF, .ref hE, .ref hQ, .int ((jc_pairs (jb_ps per mem K KK la lb) (jc_mem (jb_tk per mem la.length lb.length) x)).2.2.2)])), (hF, .inl (cI, 11, .inl ((jc_pairs (jb_ps per mem K KK la lb) (jc_mem (jb_tk per mem la.length lb.length) x)).1))), (hE, .inl (cI, 1500, .inl ((jc_pairs (jb_ps per mem K KK la lb) (jc_mem (jb_tk per mem la.length lb.length) x)).2.1))), (hQ, .inl (cI, 4000, .inl ((jc_pairs (jb_ps per mem K KK la lb) (jc_mem (jb_tk per mem la.length lb.length) x)).2.2.1))), (hL, .inr (2, [.ref aS, .int 1, .ref kA, .ref vA, .ref oA, .ref sA, .ref eA, .int (nI n)])), (kA, .inl (cI, 500, .inl K)), (vA, .inl (cI, 500, .inl V)), (oA, .inl (cI, 500, .inl (jb_O o))), (sA, .inl (cI, 500, .inl Sp)), (eA, .inl (cI, 152, .inl Pe)), (gL, .inr (2, [.ref aS, .int 0, .ref kB, .ref vB, .ref oB, .ref sB, .ref eB, .int (nI nn)])), (kB, .inl (cI, 500, .inl KK)), (vB, .inl (cI, 500, .inl VV)), (oB, .inl (cI, 500, .inl (jb_O oo))), (sB, .inl (cI, 500, .inl Sq)), (eB, .inl (cI, 152, .inl Pf))])) (va_A [(hJ, .inr (0, [.ref aS, .ref hR, .ref hL, .ref gL])), (aS, .inr (3, [.ref aN])), (aN, .inl (cI, 3, .inl (jb_now per mem par))), (hR, .inr (1, [.ref hF, .ref hE, .ref hQ, .int x.2.2.2])), (hF, .inl (cI, 11, .inl x.1)), (hE, .inl (cI, 1500, .inl x.2.1)), (hQ, .inl (cI, 4000, .inl x.2.2.1)), (hL, .inr (2, [.ref aS, .int 1, .ref kA, .ref vA, .ref oA, .ref sA, .ref eA, .int (nI n)])), (kA, .inl (cI, 500, .inl K)), (vA, .inl (cI, 500, .inl V)), (oA, .inl (cI, 500, .inl (jb_O o))), (sA, .inl (cI, 500, .inl Sp)), (eA, .inl (cI, 152, .inl Pe)), (gL, .inr (2, [.ref aS, .int 0, .ref kB, .ref vB, .ref oB, .ref sB, .ref eB, .int (nI nn)])), (kB, .inl (cI, 500, .inl KK)), (vB, .inl (cI, 500, .inl VV)), (oB, .inl (cI, 500, .inl (jb_O oo))), (sB, .inl (cI, 500, .inl Sq)), (eB, .inl (cI, 152, .inl Pf))] sz)) 0 0 (va_A [(hJ, .inr (0, [.ref aS, .ref hR, .ref hL, .ref gL])), (aS, .inr (3, [.ref aN])), (aN, .inl (cI, 3, .inl (jb_now per mem par))), (hR, .inr (1, [.ref hF, .ref hE, .ref hQ, .int x.2.2.2])), (hF, .inl (cI, 11, .inl x.1)), (hE, .inl (cI, 1500, .inl x.2.1)), (hQ, .inl (cI, 4000, .inl x.2.2.1)), (hL, .inr (2, [.ref aS, .int 1, .ref kA, .ref vA, .ref oA, .ref sA, .ref eA, .int (nI n)])), (kA, .inl (cI, 500, .inl K)), (vA, .inl (cI, 500, .inl V)), (oA, .inl (cI, 500, .inl (jb_O o))), (sA, .inl (cI, 500, .inl Sp)), (eA, .inl (cI, 152, .inl Pe)), (gL, .inr (2, [.ref aS, .int 0, .ref kB, .ref vB, .ref oB, .ref sB, .ref eB, .int (nI nn)])), (kB, .inl (cI, 500, .inl KK)), (vB, .inl (cI, 500, .inl VV)), (oB, .inl (cI, 500, .inl (jb_O oo))), (sB, .inl (cI, 500, .inl Sq)), (eB, .inl (cI, 152, .inl Pf))] sz) := by
  refine Met.ofW (cc := cX0_joinBlocks) (maxL := 8) (ret := (some .int)) (by decide) rfl ?_
  intro p e s m args below meth c s₁ B hml hv
  obtain ⟨rfl, hsz, hP, hK, hNw, hD0⟩ := hv
  have hx := B.exec
  have hb := B.bytes
  have hr := B.returns
  have hts := atoms_spec (ws := wsX0_joinBlocks) B.pre
  have hown : s.vm.findClass RX0 = some m.cls := findClass_of_methodNamed B.named
  have hlocks := B.notSynchronized
  subst hsz
  have hD := hD0.self (sz := s.heap.size)
  generalize hAe : va_A [(hJ, .inr (0, [.ref aS, .ref hR, .ref hL, .ref gL])), (aS, .inr (3, [.ref aN])), (aN, .inl (cI, 3, .inl (jb_now per mem par))), (hR, .inr (1, [.ref hF, .ref hE, .ref hQ, .int x.2.2.2])), (hF, .inl (cI, 11, .inl x.1)), (hE, .inl (cI, 1500, .inl x.2.1)), (hQ, .inl (cI, 4000, .inl x.2.2.1)), (hL, .inr (2, [.ref aS, .int 1, .ref kA, .ref vA, .ref oA, .ref sA, .ref eA, .int (nI n)])), (kA, .inl (cI, 500, .inl K)), (vA, .inl (cI, 500, .inl V)), (oA, .inl (cI, 500, .inl (jb_O o))), (sA, .inl (cI, 500, .inl Sp)), (eA, .inl (cI, 152, .inl Pe)), (gL, .inr (2, [.ref aS, .int 0, .ref kB, .ref vB, .ref oB, .ref sB, .ref eB, .int (nI nn)])), (kB, .inl (cI, 500, .inl KK)), (vB, .inl (cI, 500, .inl VV)), (oB, .inl (cI, 500, .inl (jb_O oo))), (sB, .inl (cI, 500, .inl Sq)), (eB, .inl (cI, 152, .inl Pf))] s.heap.size = A at hD ⊢
  have hA : ∀ q : Nat, s.heap.size ≤ q → A q := fun q h => by rw [← hAe]; exact Or.inr h
  have hS : va_S A s.heap s.heap [] := va_S.rf
  have hP : va_P (dC, dI) vwCl [(hJ, .inr (0, [.ref aS, .ref hR, .ref hL, .ref gL])), (aS, .inr (3, [.ref aN])), (aN, .inl (cI, 3, .inl (jb_now per mem par))), (hR, .inr (1, [.ref hF, .ref hE, .ref hQ, .int x.2.2.2])), (hF, .inl (cI, 11, .inl x.1)), (hE, .inl (cI, 1500, .inl x.2.1)), (hQ, .inl (cI, 4000, .inl x.2.2.1)), (hL, .inr (2, [.ref aS, .int 1, .ref kA, .ref vA, .ref oA, .ref sA, .ref eA, .int (nI n)])), (kA, .inl (cI, 500, .inl K)), (vA, .inl (cI, 500, .inl V)), (oA, .inl (cI, 500, .inl (jb_O o))), (sA, .inl (cI, 500, .inl Sp)), (eA, .inl (cI, 152, .inl Pe)), (gL, .inr (2, [.ref aS, .int 0, .ref kB, .ref vB, .ref oB, .ref sB, .ref eB, .int (nI nn)])), (kB, .inl (cI, 500, .inl KK)), (vB, .inl (cI, 500, .inl VV)), (oB, .inl (cI, 500, .inl (jb_O oo))), (sB, .inl (cI, 500, .inl Sq)), (eB, .inl (cI, 152, .inl Pf))] s.heap := hP
  have hl := lv_entry ([.ref hJ, .int (nI lf), .int (nI (lf + la.length)), .int (nI rf), .int (nI (rf + lb.length))]) (n := 8) (Nat.le_of_ble_eq_true rfl)
  rw [lg_entry_eq]
  generalize (lg_sl ([.ref hJ, .int (nI lf), .int (nI (lf + la.length)), .int (nI rf), .int (nI (rf + lb.length))]) ++ List.replicate (8 - (lg_sl ([.ref hJ, .int (nI lf), .int (nI (lf + la.length)), .int (nI rf), .int (nI (rf + lb.length))])).length) Slot.unset).toArray = ls at hl ⊢
  have hl : lv_has ls 8 [(0, .ref hJ), (1, .int (nI lf)), (2, .int (nI (lf + la.length))), (3, .int (nI rf)), (4, .int (nI (rf + lb.length)))] := hl
  refine lv_aload_n hx hb dX0_joinBlocks_0 rfl (lv_at hl 0 rfl) ?_
  refine va_get (D := (dC, dI)) (ci := 0) (v := .ref aS) (C := RX0) (T := TX0) (N := 4) hx hb hts iX0_joinBlocks_X0 hown hK hP 0 rfl rfl 0 (by decide) (hts (.fieldLink RX0 9 "JoinBench$Joiner" "sizes" "LJoinBench$Sizes;") (by decide +kernel)) (fun _ h9 => h9) rfl dX0_joinBlocks_1 ?_
  refine lv_iload_n hx hb dX0_joinBlocks_4 rfl (lv_at hl 2 rfl) ?_
  refine lv_iload_n hx hb dX0_joinBlocks_5 rfl (lv_at hl 1 rfl) ?_
  refine lv_isub hx hb dX0_joinBlocks_6 ?_
  refine lv_topi (fun v_1 ev_1 => ?_)
  have hv_1 : v_1 = nI la.length := ev_1.trans ((pk_sub (by omega)).trans (congrArg nI (by omega)))
  clear ev_1; subst hv_1
  refine vp_callSi (va_runV (As := [.int (nI la.length)]) (rest := []) ⟨hx, hb, hml, hown, hts⟩ (c_pagesFor l dC dI cI aS aN per mem par la.length h1 (by omega) hp) (cwV 1 hts gX0_joinBlocks_X3_pagesFor rfl rfl rfl (by decide +kernel) ⟨(by decide +kernel), (by decide +kernel)⟩)  ⟨jb_R_blind, va_recv hK hP (ci := 3) (q0 := 1) rfl rfl, jb_R_pre (hP.sub (ws' := [(aS, .inr (3, [.ref aN])), (aN, .inl (cI, 3, .inl (jb_now per mem par)))]) [1, 2] rfl) hK hNw⟩ rfl rfl hl.1 rfl (lv_room (Nat.le_of_ble_eq_true rfl)) dX0_joinBlocks_7 ⟨by decide +kernel, by decide +kernel⟩).run (fun r_2 hr_2 => ?_)
  subst hr_2
  refine lv_istore (lv' := [(5, .int (nI (jb_pg per la.length))), (0, .ref hJ), (1, .int (nI lf)), (2, .int (nI (lf + la.length))), (3, .int (nI rf)), (4, .int (nI (rf + lb.length)))]) hx hb dX0_joinBlocks_10 hl (by decide) rfl (fun ls hl => ?_)
  refine lv_aload_n hx hb dX0_joinBlocks_12 rfl (lv_at hl 1 rfl) ?_
  refine va_get (D := (dC, dI)) (ci := 0) (v := .ref aS) (C := RX0) (T := TX0) (N := 4) hx hb hts iX0_joinBlocks_X0 hown hK hP 0 rfl rfl 0 (by decide) (hts (.fieldLink RX0 9 "JoinBench$Joiner" "sizes" "LJoinBench$Sizes;") (by decide +kernel)) (fun _ h9 => h9) rfl dX0_joinBlocks_13 ?_
  refine lv_iload hx hb dX0_joinBlocks_16 (lv_at hl 5 rfl) ?_
  refine lv_iload_n hx hb dX0_joinBlocks_18 rfl (lv_at hl 4 rfl) ?_
  refine lv_isub hx hb dX0_joinBlocks_19 ?_
  refine lv_topi (fun v_3 ev_3 => ?_)
  have hv_3 : v_3 = nI lb.length := ev_3.trans ((pk_sub (by omega)).trans (congrArg nI (by omega)))
  clear ev_3; subst hv_3
  refine vp_callSi (va_runV (As := [.int (nI lb.length)]) (rest := []) ⟨hx, hb, hml, hown, hts⟩ (c_pagesFor l dC dI cI aS aN per mem par lb.length h1 (by omega) hp) (cwV 1 hts gX0_joinBlocks_X3_pagesFor rfl rfl rfl (by decide +kernel) ⟨(by decide +kernel), (by decide +kernel)⟩)  ⟨jb_R_blind, va_recv hK hP (ci := 3) (q0 := 1) rfl rfl, jb_R_pre (hP.sub (ws' := [(aS, .inr (3, [.ref aN])), (aN, .inl (cI, 3, .inl (jb_now per mem par)))]) [1, 2] rfl) hK hNw⟩ rfl rfl hl.1 rfl (lv_room (Nat.le_of_ble_eq_true rfl)) dX0_joinBlocks_20 ⟨by decide +kernel, by decide +kernel⟩).run (fun r_4 hr_4 => ?_)
  subst hr_4
  refine lv_istore (lv' := [(6, .int (nI (jb_pg per lb.length))), (5, .int (nI (jb_pg per la.length))), (0, .ref hJ), (1, .int (nI lf)), (2, .int (nI (lf + la.length))), (3, .int (nI rf)), (4, .int (nI (rf + lb.length)))]) hx hb dX0_joinBlocks_23 hl (by decide) rfl (fun ls hl => ?_)
  have hpl : jb_pg per la.length ≤ la.length := jb_pg_le h1
  have hpr : jb_pg per lb.length ≤ lb.length := jb_pg_le h1
  refine lv_aload_n hx hb dX0_joinBlocks_25 rfl (lv_at hl 2 rfl) ?_
  refine va_get (D := (dC, dI)) (ci := 0) (v := .ref hR) (C := RX0) (T := TX0) (N := 4) hx hb hts iX0_joinBlocks_X0 hown hK hP 0 rfl rfl 1 (by decide) (hts (.fieldLink RX0 15 "JoinBench$Joiner" "report" "LJoinBench$Report;") (by decide +kernel)) (fun _ h9 => h9) rfl dX0_joinBlocks_26 ?_
  refine lv_aload_n hx hb dX0_joinBlocks_29 rfl (lv_at hl 2 rfl) ?_
  refine va_get (D := (dC, dI)) (ci := 0) (v := .ref aS) (C := RX0) (T := TX0) (N := 4) hx hb hts iX0_joinBlocks_X0 hown hK hP 0 rfl rfl 0 (by decide) (hts (.fieldLink RX0 9 "JoinBench$Joiner" "sizes" "LJoinBench$Sizes;") (by decide +kernel)) (fun _ h9 => h9) rfl dX0_joinBlocks_30 ?_
  refine vp_callSi (va_runV (As := []) (rest := [.ref hR]) ⟨hx, hb, hml, hown, hts⟩ (c_blockPages l dC dI cI aS aN per mem par hm) (cwV 0 hts gX0_joinBlocks_X3_blockPages rfl rfl rfl (by decide +kernel) ⟨(by decide +kernel), (by decide +kernel)⟩)  ⟨jb_R_blind, va_recv hK hP (ci := 3) (q0 := 1) rfl rfl, jb_R_pre (hP.sub (ws' := [(aS, .inr (3, [.ref aN])), (aN, .inl (cI, 3, .inl (jb_now per mem par)))]) [1, 2] rfl) hK hNw⟩ rfl rfl hl.1 rfl (lv_room (Nat.le_of_ble_eq_true rfl)) dX0_joinBlocks_33 ⟨by decide +kernel, by decide +kernel⟩).run (fun r_5 hr_5 => ?_)
  subst hr_5
  refine lv_iload hx hb dX0_joinBlocks_36 (lv_at hl 1 rfl) ?_
  refine lv_iload hx hb dX0_joinBlocks_38 (lv_at hl 0 rfl) ?_
  refine va_mmin hx hb (by rw [hml]; exact hl.1.symm) hown (hts (.methodLink RX0 62 Lib.Math.min.name) (by decide +kernel)) (hts (.static Lib.Math.min.name) (by decide +kernel)) (hts (.initialized "java/lang/Math") (by decide +kernel)) (hts (.code Lib.Math.min.name Lib.Math.min.code 2 (some .int)) (by decide +kernel)) (by decide +kernel) (Nat.le_of_ble_eq_true rfl) (Nat.zero_le _) (Nat.zero_le _) dX0_joinBlocks_40 ?_
  refine lv_topi (fun v_6 ev_6 => ?_)
  have hv_6 : v_6 = nI (min (jb_pg per la.length) (jb_pg per lb.length)) := ev_6.trans (jb_imin (by omega) (by omega))
  clear ev_6; subst hv_6
  refine va_mmin hx hb (by rw [hml]; exact hl.1.symm) hown (hts (.methodLink RX0 62 Lib.Math.min.name) (by decide +kernel)) (hts (.static Lib.Math.min.name) (by decide +kernel)) (hts (.initialized "java/lang/Math") (by decide +kernel)) (hts (.code Lib.Math.min.name Lib.Math.min.code 2 (some .int)) (by decide +kernel)) (by decide +kernel) (Nat.le_of_ble_eq_true rfl) (Nat.zero_le _) (Nat.zero_le _) dX0_joinBlocks_43 ?_
  refine lv_topi (fun v_7 ev_7 => ?_)
  have hv_7 : v_7 = nI (min (mem - 2) (min (jb_pg per la.length) (jb_pg per lb.length))) := ev_7.trans (jb_imin (by omega) (by omega))
  clear ev_7; subst hv_7
  refine lv_iconst (v := 2) hx hb dX0_joinBlocks_46 (by decide) ?_
  refine lv_iadd hx hb dX0_joinBlocks_47 ?_
  refine lv_topi (fun v_8 ev_8 => ?_)
  have hv_8 : v_8 = nI (jb_tk per mem la.length lb.length) := ev_8.trans (nI_add _ 2)
  clear ev_8; subst hv_8
  refine jb_cv (wc := [(hR, .inr (1, [.ref hF, .ref hE, .ref hQ, .int x.2.2.2])), (hF, .inl (cI, 11, .inl x.1)), (hE, .inl (cI, 1500, .inl x.2.1)), (hQ, .inl (cI, 4000, .inl x.2.2.1))]) (wr := [(hJ, .inr (0, [.ref aS, .ref hR, .ref hL, .ref gL])), (aS, .inr (3, [.ref aN])), (aN, .inl (cI, 3, .inl (jb_now per mem par))), (hL, .inr (2, [.ref aS, .int 1, .ref kA, .ref vA, .ref oA, .ref sA, .ref eA, .int (nI n)])), (kA, .inl (cI, 500, .inl K)), (vA, .inl (cI, 500, .inl V)), (oA, .inl (cI, 500, .inl (jb_O o))), (sA, .inl (cI, 500, .inl Sp)), (eA, .inl (cI, 152, .inl Pe)), (gL, .inr (2, [.ref aS, .int 0, .ref kB, .ref vB, .ref oB, .ref sB, .ref eB, .int (nI nn)])), (kB, .inl (cI, 500, .inl KK)), (vB, .inl (cI, 500, .inl VV)), (oB, .inl (cI, 500, .inl (jb_O oo))), (sB, .inl (cI, 500, .inl Sq)), (eB, .inl (cI, 152, .inl Pf))]) (va_runV (As := [.int (nI (jb_tk per mem la.length lb.length))]) (rest := []) ⟨hx, hb, hml, hown, hts⟩ (c_takeMemory l dC dI cI s.heap.size hR hF hE hQ x.1 x.2.1 x.2.2.1 x.2.2.2 (nI (jb_tk per mem la.length lb.length))) (cwV 1 hts gX0_joinBlocks_X1_takeMemory rfl rfl rfl (by decide +kernel) ⟨(by decide +kernel), (by decide +kernel)⟩)  ⟨jb_M_blind, va_recv hK hP (ci := 1) (q0 := 3) rfl rfl, jb_M_pre (hP.sub (ws' := [(hR, .inr (1, [.ref hF, .ref hE, .ref hQ, .int x.2.2.2])), (hF, .inl (cI, 11, .inl x.1)), (hE, .inl (cI, 1500, .inl x.2.1)), (hQ, .inl (cI, 4000, .inl x.2.2.1))]) [3, 4, 5, 6] rfl) (hD.sub (ws' := [(hR, .inr (1, [.ref hF, .ref hE, .ref hQ, .int x.2.2.2])), (hF, .inl (cI, 11, .inl x.1)), (hE, .inl (cI, 1500, .inl x.2.1)), (hQ, .inl (cI, 4000, .inl x.2.2.1))]) [3, 4, 5, 6] (by decide) rfl) hK hNw⟩ rfl rfl hl.1 rfl (lv_room (Nat.le_of_ble_eq_true rfl)) dX0_joinBlocks_48 ⟨by decide +kernel, by decide +kernel⟩) hP hD hS hA [3, 4, 5, 6] [0, 1, 2, 7, 8, 9, 10, 11, 12, 13, 14, 15, 16, 17, 18] rfl rfl (by decide) (by decide) (fun u_9 H locs hu_9 hP hD hS => ?_)
  have hP : va_P (dC, dI) vwCl [(hJ, .inr (0, [.ref aS, .ref hR, .ref hL, .ref gL])), (aS, .inr (3, [.ref aN])), (aN, .inl (cI, 3, .inl (jb_now per mem par))), (hR, .inr (1, [.ref hF, .ref hE, .ref hQ, .int ((jc_mem (jb_tk per mem la.length lb.length) x).2.2.2)])), (hF, .inl (cI, 11, .inl ((jc_mem (jb_tk per mem la.length lb.length) x).1))), (hE, .inl (cI, 1500, .inl ((jc_mem (jb_tk per mem la.length lb.length) x).2.1))), (hQ, .inl (cI, 4000, .inl ((jc_mem (jb_tk per mem la.length lb.length) x).2.2.1))), (hL, .inr (2, [.ref aS, .int 1, .ref kA, .ref vA, .ref oA, .ref sA, .ref eA, .int (nI n)])), (kA, .inl (cI, 500, .inl K)), (vA, .inl (cI, 500, .inl V)), (oA, .inl (cI, 500, .inl (jb_O o))), (sA, .inl (cI, 500, .inl Sp)), (eA, .inl (cI, 152, .inl Pe)), (gL, .inr (2, [.ref aS, .int 0, .ref kB, .ref vB, .ref oB, .ref sB, .ref eB, .int (nI nn)])), (kB, .inl (cI, 500, .inl KK)), (vB, .inl (cI, 500, .inl VV)), (oB, .inl (cI, 500, .inl (jb_O oo))), (sB, .inl (cI, 500, .inl Sq)), (eB, .inl (cI, 152, .inl Pf))] H := hP.sub [0, 1, 2, 15, 16, 17, 18, 3, 4, 5, 6, 7, 8, 9, 10, 11, 12, 13, 14] rfl
  have hD : va_D A [(hJ, .inr (0, [.ref aS, .ref hR, .ref hL, .ref gL])), (aS, .inr (3, [.ref aN])), (aN, .inl (cI, 3, .inl (jb_now per mem par))), (hR, .inr (1, [.ref hF, .ref hE, .ref hQ, .int ((jc_mem (jb_tk per mem la.length lb.length) x).2.2.2)])), (hF, .inl (cI, 11, .inl ((jc_mem (jb_tk per mem la.length lb.length) x).1))), (hE, .inl (cI, 1500, .inl ((jc_mem (jb_tk per mem la.length lb.length) x).2.1))), (hQ, .inl (cI, 4000, .inl ((jc_mem (jb_tk per mem la.length lb.length) x).2.2.1))), (hL, .inr (2, [.ref aS, .int 1, .ref kA, .ref vA, .ref oA, .ref sA, .ref eA, .int (nI n)])), (kA, .inl (cI, 500, .inl K)), (vA, .inl (cI, 500, .inl V)), (oA, .inl (cI, 500, .inl (jb_O o))), (sA, .inl (cI, 500, .inl Sp)), (eA, .inl (cI, 152, .inl Pe)), (gL, .inr (2, [.ref aS, .int 0, .ref kB, .ref vB, .ref oB, .ref sB, .ref eB, .int (nI nn)])), (kB, .inl (cI, 500, .inl KK)), (vB, .inl (cI, 500, .inl VV)), (oB, .inl (cI, 500, .inl (jb_O oo))), (sB, .inl (cI, 500, .inl Sq)), (eB, .inl (cI, 152, .inl Pf))] := hD.sub [0, 1, 2, 15, 16, 17, 18, 3, 4, 5, 6, 7, 8, 9, 10, 11, 12, 13, 14] (by decide) rfl
  refine lv_iload hx hb dX0_joinBlocks_51 (lv_at hl 1 rfl) ?_
  refine lv_iload hx hb dX0_joinBlocks_53 (lv_at hl 0 rfl) ?_
  refine lv_icmp_gt (tgt := 86) hx hb dX0_joinBlocks_55 (by decide) (fun c_55 => ?_) (fun c_55 => ?_)
  · have hc : ¬ jb_pg per la.length ≤ jb_pg per lb.length := by have := (nI_ltI (a := jb_pg per lb.length) (b := jb_pg per la.length) (by omega) (by omega)).mp c_55; omega
    refine lv_aload_n hx hb dX0_joinBlocks_86 rfl (lv_at hl 2 rfl) ?_
    refine lv_aload_n hx hb dX0_joinBlocks_87 rfl (lv_at hl 2 rfl) ?_
    refine va_get (D := (dC, dI)) (ci := 0) (v := .ref gL) (C := RX0) (T := TX0) (N := 4) hx hb hts iX0_joinBlocks_X0 hown hK hP 0 rfl rfl 3 (by decide) (hts (.fieldLink RX0 28 "JoinBench$Joiner" "right" "LJoinBench$Side;") (by decide +kernel)) (fun _ h9 => h9) rfl dX0_joinBlocks_88 ?_
    refine lv_iload_n hx hb dX0_joinBlocks_91 rfl (lv_at hl 5 rfl) ?_
    refine lv_iload hx hb dX0_joinBlocks_92 (lv_at hl 6 rfl) ?_
    refine lv_aload_n hx hb dX0_joinBlocks_94 rfl (lv_at hl 2 rfl) ?_
    refine va_get (D := (dC, dI)) (ci := 0) (v := .ref hL) (C := RX0) (T := TX0) (N := 4) hx hb hts iX0_joinBlocks_X0 hown hK hP 0 rfl rfl 2 (by decide) (hts (.fieldLink RX0 24 "JoinBench$Joiner" "left" "LJoinBench$Side;") (by decide +kernel)) (fun _ h9 => h9) rfl dX0_joinBlocks_95 ?_
    refine lv_iload_n hx hb dX0_joinBlocks_98 rfl (lv_at hl 3 rfl) ?_
    refine lv_iload_n hx hb dX0_joinBlocks_99 rfl (lv_at hl 4 rfl) ?_
    refine jb_ci (wc := [(hJ, .inr (0, [.ref aS, .ref hR, .ref hL, .ref gL])), (aS, .inr (3, [.ref aN])), (aN, .inl (cI, 3, .inl (jb_now per mem par))), (hR, .inr (1, [.ref hF, .ref hE, .ref hQ, .int ((jc_mem (jb_tk per mem la.length lb.length) x).2.2.2)])), (hF, .inl (cI, 11, .inl ((jc_mem (jb_tk per mem la.length lb.length) x).1))), (hE, .inl (cI, 1500, .inl ((jc_mem (jb_tk per mem la.length lb.length) x).2.1))), (hQ, .inl (cI, 4000, .inl ((jc_mem (jb_tk per mem la.length lb.length) x).2.2.1))), (hL, .inr (2, [.ref aS, .int 1, .ref kA, .ref vA, .ref oA, .ref sA, .ref eA, .int (nI n)])), (kA, .inl (cI, 500, .inl K)), (vA, .inl (cI, 500, .inl V)), (oA, .inl (cI, 500, .inl (jb_O o))), (sA, .inl (cI, 500, .inl Sp)), (eA, .inl (cI, 152, .inl Pe)), (gL, .inr (2, [.ref aS, .int 0, .ref kB, .ref vB, .ref oB, .ref sB, .ref eB, .int (nI nn)])), (kB, .inl (cI, 500, .inl KK)), (vB, .inl (cI, 500, .inl VV)), (oB, .inl (cI, 500, .inl (jb_O oo))), (sB, .inl (cI, 500, .inl Sq)), (eB, .inl (cI, 152, .inl Pf))]) (wr := []) (va_runV (As := [.ref gL, .int (nI rf), .int (nI (rf + lb.length)), .ref hL, .int (nI lf), .int (nI (lf + la.length))]) (rest := []) ⟨hx, hb, hml, hown, hts⟩ (c_passR l dC dI cI H.size hJ aS aN hR hF hE hQ hL kA vA oA sA eA gL kB vB oB sB eB per mem par K V o Sp Pe n KK VV oo Sq Pf nn (jc_mem (jb_tk per mem la.length lb.length) x) lb la rf lf np hin2 hin hb6 hb5 hto2 hto hn hn2 h1 hp hm hm2 ((jc_mem_o (by decide)).trans hnp) (by rw [Nat.mul_comm]; omega)) (cwV 6 hts gX0_joinBlocks_X0_passBlocks rfl rfl rfl (by decide +kernel) ⟨(by decide +kernel), (by decide +kernel)⟩)  ⟨jb_M_blind, va_recv hK hP (ci := 0) (q0 := 0) rfl rfl, jb_M_pre (hP.sub (ws' := [(hJ, .inr (0, [.ref aS, .ref hR, .ref hL, .ref gL])), (aS, .inr (3, [.ref aN])), (aN, .inl (cI, 3, .inl (jb_now per mem par))), (hR, .inr (1, [.ref hF, .ref hE, .ref hQ, .int ((jc_mem (jb_tk per mem la.length lb.length) x).2.2.2)])), (hF, .inl (cI, 11, .inl ((jc_mem (jb_tk per mem la.length lb.length) x).1))), (hE, .inl (cI, 1500, .inl ((jc_mem (jb_tk per mem la.length lb.length) x).2.1))), (hQ, .inl (cI, 4000, .inl ((jc_mem (jb_tk per mem la.length lb.length) x).2.2.1))), (hL, .inr (2, [.ref aS, .int 1, .ref kA, .ref vA, .ref oA, .ref sA, .ref eA, .int (nI n)])), (kA, .inl (cI, 500, .inl K)), (vA, .inl (cI, 500, .inl V)), (oA, .inl (cI, 500, .inl (jb_O o))), (sA, .inl (cI, 500, .inl Sp)), (eA, .inl (cI, 152, .inl Pe)), (gL, .inr (2, [.ref aS, .int 0, .ref kB, .ref vB, .ref oB, .ref sB, .ref eB, .int (nI nn)])), (kB, .inl (cI, 500, .inl KK)), (vB, .inl (cI, 500, .inl VV)), (oB, .inl (cI, 500, .inl (jb_O oo))), (sB, .inl (cI, 500, .inl Sq)), (eB, .inl (cI, 152, .inl Pf))]) [0, 1, 2, 3, 4, 5, 6, 7, 8, 9, 10, 11, 12, 13, 14, 15, 16, 17, 18] rfl) (hD.sub (ws' := [(hJ, .inr (0, [.ref aS, .ref hR, .ref hL, .ref gL])), (aS, .inr (3, [.ref aN])), (aN, .inl (cI, 3, .inl (jb_now per mem par))), (hR, .inr (1, [.ref hF, .ref hE, .ref hQ, .int ((jc_mem (jb_tk per mem la.length lb.length) x).2.2.2)])), (hF, .inl (cI, 11, .inl ((jc_mem (jb_tk per mem la.length lb.length) x).1))), (hE, .inl (cI, 1500, .inl ((jc_mem (jb_tk per mem la.length lb.length) x).2.1))), (hQ, .inl (cI, 4000, .inl ((jc_mem (jb_tk per mem la.length lb.length) x).2.2.1))), (hL, .inr (2, [.ref aS, .int 1, .ref kA, .ref vA, .ref oA, .ref sA, .ref eA, .int (nI n)])), (kA, .inl (cI, 500, .inl K)), (vA, .inl (cI, 500, .inl V)), (oA, .inl (cI, 500, .inl (jb_O o))), (sA, .inl (cI, 500, .inl Sp)), (eA, .inl (cI, 152, .inl Pe)), (gL, .inr (2, [.ref aS, .int 0, .ref kB, .ref vB, .ref oB, .ref sB, .ref eB, .int (nI nn)])), (kB, .inl (cI, 500, .inl KK)), (vB, .inl (cI, 500, .inl VV)), (oB, .inl (cI, 500, .inl (jb_O oo))), (sB, .inl (cI, 500, .inl Sq)), (eB, .inl (cI, 152, .inl Pf))]) [0, 1, 2, 3, 4, 5, 6, 7, 8, 9, 10, 11, 12, 13, 14, 15, 16, 17, 18] (by decide) rfl) hK hNw⟩ rfl rfl hl.1 rfl (lv_room (Nat.le_of_ble_eq_true rfl)) dX0_joinBlocks_100 ⟨by decide +kernel, by decide +kernel⟩) hP hD hS hA [0, 1, 2, 3, 4, 5, 6, 7, 8, 9, 10, 11, 12, 13, 14, 15, 16, 17, 18] [] rfl rfl (by decide) (by decide) (fun r_10 u_10 H locs hu_10 hP hD hS => ?_)
    subst hu_10
    have hP : va_P (dC, dI) vwCl [(hJ, .inr (0, [.ref aS, .ref hR, .ref hL, .ref gL])), (aS, .inr (3, [.ref aN])), (aN, .inl (cI, 3, .inl (jb_now per mem par))), (hR, .inr (1, [.ref hF, .ref hE, .ref hQ, .int ((jc_pairs (jb_bps false KK K ((mem - 2) * per) lb la (jb_nb ((mem - 2) * per) lb.length)) (jc_mem (jb_tk per mem la.length lb.length) x)).2.2.2)])), (hF, .inl (cI, 11, .inl ((jc_pairs (jb_bps false KK K ((mem - 2) * per) lb la (jb_nb ((mem - 2) * per) lb.length)) (jc_mem (jb_tk per mem la.length lb.length) x)).1))), (hE, .inl (cI, 1500, .inl ((jc_pairs (jb_bps false KK K ((mem - 2) * per) lb la (jb_nb ((mem - 2) * per) lb.length)) (jc_mem (jb_tk per mem la.length lb.length) x)).2.1))), (hQ, .inl (cI, 4000, .inl ((jc_pairs (jb_bps false KK K ((mem - 2) * per) lb la (jb_nb ((mem - 2) * per) lb.length)) (jc_mem (jb_tk per mem la.length lb.length) x)).2.2.1))), (hL, .inr (2, [.ref aS, .int 1, .ref kA, .ref vA, .ref oA, .ref sA, .ref eA, .int (nI n)])), (kA, .inl (cI, 500, .inl K)), (vA, .inl (cI, 500, .inl V)), (oA, .inl (cI, 500, .inl (jb_O o))), (sA, .inl (cI, 500, .inl Sp)), (eA, .inl (cI, 152, .inl Pe)), (gL, .inr (2, [.ref aS, .int 0, .ref kB, .ref vB, .ref oB, .ref sB, .ref eB, .int (nI nn)])), (kB, .inl (cI, 500, .inl KK)), (vB, .inl (cI, 500, .inl VV)), (oB, .inl (cI, 500, .inl (jb_O oo))), (sB, .inl (cI, 500, .inl Sq)), (eB, .inl (cI, 152, .inl Pf))] H := hP.sub [0, 1, 2, 3, 4, 5, 6, 7, 8, 9, 10, 11, 12, 13, 14, 15, 16, 17, 18] rfl
    have hD : va_D A [(hJ, .inr (0, [.ref aS, .ref hR, .ref hL, .ref gL])), (aS, .inr (3, [.ref aN])), (aN, .inl (cI, 3, .inl (jb_now per mem par))), (hR, .inr (1, [.ref hF, .ref hE, .ref hQ, .int ((jc_pairs (jb_bps false KK K ((mem - 2) * per) lb la (jb_nb ((mem - 2) * per) lb.length)) (jc_mem (jb_tk per mem la.length lb.length) x)).2.2.2)])), (hF, .inl (cI, 11, .inl ((jc_pairs (jb_bps false KK K ((mem - 2) * per) lb la (jb_nb ((mem - 2) * per) lb.length)) (jc_mem (jb_tk per mem la.length lb.length) x)).1))), (hE, .inl (cI, 1500, .inl ((jc_pairs (jb_bps false KK K ((mem - 2) * per) lb la (jb_nb ((mem - 2) * per) lb.length)) (jc_mem (jb_tk per mem la.length lb.length) x)).2.1))), (hQ, .inl (cI, 4000, .inl ((jc_pairs (jb_bps false KK K ((mem - 2) * per) lb la (jb_nb ((mem - 2) * per) lb.length)) (jc_mem (jb_tk per mem la.length lb.length) x)).2.2.1))), (hL, .inr (2, [.ref aS, .int 1, .ref kA, .ref vA, .ref oA, .ref sA, .ref eA, .int (nI n)])), (kA, .inl (cI, 500, .inl K)), (vA, .inl (cI, 500, .inl V)), (oA, .inl (cI, 500, .inl (jb_O o))), (sA, .inl (cI, 500, .inl Sp)), (eA, .inl (cI, 152, .inl Pe)), (gL, .inr (2, [.ref aS, .int 0, .ref kB, .ref vB, .ref oB, .ref sB, .ref eB, .int (nI nn)])), (kB, .inl (cI, 500, .inl KK)), (vB, .inl (cI, 500, .inl VV)), (oB, .inl (cI, 500, .inl (jb_O oo))), (sB, .inl (cI, 500, .inl Sq)), (eB, .inl (cI, 152, .inl Pf))] := hD.sub [0, 1, 2, 3, 4, 5, 6, 7, 8, 9, 10, 11, 12, 13, 14, 15, 16, 17, 18] (by decide) rfl
    refine lv_istore (lv' := [(7, .int (nI (jb_nb ((mem - 2) * per) lb.length))), (6, .int (nI (jb_pg per lb.length))), (5, .int (nI (jb_pg per la.length))), (0, .ref hJ), (1, .int (nI lf)), (2, .int (nI (lf + la.length))), (3, .int (nI rf)), (4, .int (nI (rf + lb.length)))]) hx hb dX0_joinBlocks_103 hl (by decide) rfl (fun ls hl => ?_)
    refine lv_iload hx hb dX0_joinBlocks_105 (lv_at hl 1 rfl) ?_
    refine lv_iload hx hb dX0_joinBlocks_107 (lv_at hl 0 rfl) ?_
    refine lv_iload hx hb dX0_joinBlocks_109 (lv_at hl 2 rfl) ?_
    refine lv_imul hx hb dX0_joinBlocks_111 ?_
    refine lv_iadd hx hb dX0_joinBlocks_112 ?_
    have hP9 : va_P (dC, dI) vwCl [(hJ, .inr (0, [.ref aS, .ref hR, .ref hL, .ref gL])), (aS, .inr (3, [.ref aN])), (aN, .inl (cI, 3, .inl (jb_now per mem par))), (hR, .inr (1, [.ref hF, .ref hE, .ref hQ, .int ((jc_pairs (jb_ps per mem K KK la lb) (jc_mem (jb_tk per mem la.length lb.length) x)).2.2.2)])), (hF, .inl (cI, 11, .inl ((jc_pairs (jb_ps per mem K KK la lb) (jc_mem (jb_tk per mem la.length lb.length) x)).1))), (hE, .inl (cI, 1500, .inl ((jc_pairs (jb_ps per mem K KK la lb) (jc_mem (jb_tk per mem la.length lb.length) x)).2.1))), (hQ, .inl (cI, 4000, .inl ((jc_pairs (jb_ps per mem K KK la lb) (jc_mem (jb_tk per mem la.length lb.length) x)).2.2.1))), (hL, .inr (2, [.ref aS, .int 1, .ref kA, .ref vA, .ref oA, .ref sA, .ref eA, .int (nI n)])), (kA, .inl (cI, 500, .inl K)), (vA, .inl (cI, 500, .inl V)), (oA, .inl (cI, 500, .inl (jb_O o))), (sA, .inl (cI, 500, .inl Sp)), (eA, .inl (cI, 152, .inl Pe)), (gL, .inr (2, [.ref aS, .int 0, .ref kB, .ref vB, .ref oB, .ref sB, .ref eB, .int (nI nn)])), (kB, .inl (cI, 500, .inl KK)), (vB, .inl (cI, 500, .inl VV)), (oB, .inl (cI, 500, .inl (jb_O oo))), (sB, .inl (cI, 500, .inl Sq)), (eB, .inl (cI, 152, .inl Pf))] H := by rw [show jb_ps per mem K KK la lb = jb_bps false KK K ((mem - 2) * per) lb la (jb_nb ((mem - 2) * per) lb.length) from if_neg hc]; exact hP.sub [0, 1, 2, 3, 4, 5, 6, 7, 8, 9, 10, 11, 12, 13, 14, 15, 16, 17, 18] rfl
    have hD9 : va_D A [(hJ, .inr (0, [.ref aS, .ref hR, .ref hL, .ref gL])), (aS, .inr (3, [.ref aN])), (aN, .inl (cI, 3, .inl (jb_now per mem par))), (hR, .inr (1, [.ref hF, .ref hE, .ref hQ, .int ((jc_pairs (jb_ps per mem K KK la lb) (jc_mem (jb_tk per mem la.length lb.length) x)).2.2.2)])), (hF, .inl (cI, 11, .inl ((jc_pairs (jb_ps per mem K KK la lb) (jc_mem (jb_tk per mem la.length lb.length) x)).1))), (hE, .inl (cI, 1500, .inl ((jc_pairs (jb_ps per mem K KK la lb) (jc_mem (jb_tk per mem la.length lb.length) x)).2.1))), (hQ, .inl (cI, 4000, .inl ((jc_pairs (jb_ps per mem K KK la lb) (jc_mem (jb_tk per mem la.length lb.length) x)).2.2.1))), (hL, .inr (2, [.ref aS, .int 1, .ref kA, .ref vA, .ref oA, .ref sA, .ref eA, .int (nI n)])), (kA, .inl (cI, 500, .inl K)), (vA, .inl (cI, 500, .inl V)), (oA, .inl (cI, 500, .inl (jb_O o))), (sA, .inl (cI, 500, .inl Sp)), (eA, .inl (cI, 152, .inl Pe)), (gL, .inr (2, [.ref aS, .int 0, .ref kB, .ref vB, .ref oB, .ref sB, .ref eB, .int (nI nn)])), (kB, .inl (cI, 500, .inl KK)), (vB, .inl (cI, 500, .inl VV)), (oB, .inl (cI, 500, .inl (jb_O oo))), (sB, .inl (cI, 500, .inl Sq)), (eB, .inl (cI, 152, .inl Pf))] := by rw [show jb_ps per mem K KK la lb = jb_bps false KK K ((mem - 2) * per) lb la (jb_nb ((mem - 2) * per) lb.length) from if_neg hc]; exact hD.sub [0, 1, 2, 3, 4, 5, 6, 7, 8, 9, 10, 11, 12, 13, 14, 15, 16, 17, 18] (by decide) rfl
    exact W.iret (v := (nI (jb_pg per lb.length) + (nI (jb_nb ((mem - 2) * per) lb.length) * nI (jb_pg per la.length)))) hx hb hr (fun t ht hW => ⟨⟨_, (), rfl, by rw [jb_nmul, nI_add, show jb_rd per mem la.length lb.length = _ from if_neg hc], by rw [ht]; exact hP9, hD9⟩, hS.F ht⟩) hS.2.2 dX0_joinBlocks_113
  · have hc : jb_pg per la.length ≤ jb_pg per lb.length := by have := (jb_nlt (a := jb_pg per lb.length) (b := jb_pg per la.length) (by omega) (by omega)).mp c_55; omega
    refine lv_aload_n hx hb dX0_joinBlocks_58 rfl (lv_at hl 2 rfl) ?_
    refine lv_aload_n hx hb dX0_joinBlocks_59 rfl (lv_at hl 2 rfl) ?_
    refine va_get (D := (dC, dI)) (ci := 0) (v := .ref hL) (C := RX0) (T := TX0) (N := 4) hx hb hts iX0_joinBlocks_X0 hown hK hP 0 rfl rfl 2 (by decide) (hts (.fieldLink RX0 24 "JoinBench$Joiner" "left" "LJoinBench$Side;") (by decide +kernel)) (fun _ h9 => h9) rfl dX0_joinBlocks_60 ?_
    refine lv_iload_n hx hb dX0_joinBlocks_63 rfl (lv_at hl 3 rfl) ?_
    refine lv_iload_n hx hb dX0_joinBlocks_64 rfl (lv_at hl 4 rfl) ?_
    refine lv_aload_n hx hb dX0_joinBlocks_65 rfl (lv_at hl 2 rfl) ?_
    refine va_get (D := (dC, dI)) (ci := 0) (v := .ref gL) (C := RX0) (T := TX0) (N := 4) hx hb hts iX0_joinBlocks_X0 hown hK hP 0 rfl rfl 3 (by decide) (hts (.fieldLink RX0 28 "JoinBench$Joiner" "right" "LJoinBench$Side;") (by decide +kernel)) (fun _ h9 => h9) rfl dX0_joinBlocks_66 ?_
    refine lv_iload_n hx hb dX0_joinBlocks_69 rfl (lv_at hl 5 rfl) ?_
    refine lv_iload hx hb dX0_joinBlocks_70 (lv_at hl 6 rfl) ?_
    refine jb_ci (wc := [(hJ, .inr (0, [.ref aS, .ref hR, .ref hL, .ref gL])), (aS, .inr (3, [.ref aN])), (aN, .inl (cI, 3, .inl (jb_now per mem par))), (hR, .inr (1, [.ref hF, .ref hE, .ref hQ, .int ((jc_mem (jb_tk per mem la.length lb.length) x).2.2.2)])), (hF, .inl (cI, 11, .inl ((jc_mem (jb_tk per mem la.length lb.length) x).1))), (hE, .inl (cI, 1500, .inl ((jc_mem (jb_tk per mem la.length lb.length) x).2.1))), (hQ, .inl (cI, 4000, .inl ((jc_mem (jb_tk per mem la.length lb.length) x).2.2.1))), (hL, .inr (2, [.ref aS, .int 1, .ref kA, .ref vA, .ref oA, .ref sA, .ref eA, .int (nI n)])), (kA, .inl (cI, 500, .inl K)), (vA, .inl (cI, 500, .inl V)), (oA, .inl (cI, 500, .inl (jb_O o))), (sA, .inl (cI, 500, .inl Sp)), (eA, .inl (cI, 152, .inl Pe)), (gL, .inr (2, [.ref aS, .int 0, .ref kB, .ref vB, .ref oB, .ref sB, .ref eB, .int (nI nn)])), (kB, .inl (cI, 500, .inl KK)), (vB, .inl (cI, 500, .inl VV)), (oB, .inl (cI, 500, .inl (jb_O oo))), (sB, .inl (cI, 500, .inl Sq)), (eB, .inl (cI, 152, .inl Pf))]) (wr := []) (va_runV (As := [.ref hL, .int (nI lf), .int (nI (lf + la.length)), .ref gL, .int (nI rf), .int (nI (rf + lb.length))]) (rest := []) ⟨hx, hb, hml, hown, hts⟩ (c_passL l dC dI cI H.size hJ aS aN hR hF hE hQ hL kA vA oA sA eA gL kB vB oB sB eB per mem par K V o Sp Pe n KK VV oo Sq Pf nn (jc_mem (jb_tk per mem la.length lb.length) x) la lb lf rf np hin hin2 hb5 hb6 hto hto2 hn hn2 h1 hp hm hm2 ((jc_mem_o (by decide)).trans hnp) (by omega)) (cwV 6 hts gX0_joinBlocks_X0_passBlocks rfl rfl rfl (by decide +kernel) ⟨(by decide +kernel), (by decide +kernel)⟩)  ⟨jb_M_blind, va_recv hK hP (ci := 0) (q0 := 0) rfl rfl, jb_M_pre (hP.sub (ws' := [(hJ, .inr (0, [.ref aS, .ref hR, .ref hL, .ref gL])), (aS, .inr (3, [.ref aN])), (aN, .inl (cI, 3, .inl (jb_now per mem par))), (hR, .inr (1, [.ref hF, .ref hE, .ref hQ, .int ((jc_mem (jb_tk per mem la.length lb.length) x).2.2.2)])), (hF, .inl (cI, 11, .inl ((jc_mem (jb_tk per mem la.length lb.length) x).1))), (hE, .inl (cI, 1500, .inl ((jc_mem (jb_tk per mem la.length lb.length) x).2.1))), (hQ, .inl (cI, 4000, .inl ((jc_mem (jb_tk per mem la.length lb.length) x).2.2.1))), (hL, .inr (2, [.ref aS, .int 1, .ref kA, .ref vA, .ref oA, .ref sA, .ref eA, .int (nI n)])), (kA, .inl (cI, 500, .inl K)), (vA, .inl (cI, 500, .inl V)), (oA, .inl (cI, 500, .inl (jb_O o))), (sA, .inl (cI, 500, .inl Sp)), (eA, .inl (cI, 152, .inl Pe)), (gL, .inr (2, [.ref aS, .int 0, .ref kB, .ref vB, .ref oB, .ref sB, .ref eB, .int (nI nn)])), (kB, .inl (cI, 500, .inl KK)), (vB, .inl (cI, 500, .inl VV)), (oB, .inl (cI, 500, .inl (jb_O oo))), (sB, .inl (cI, 500, .inl Sq)), (eB, .inl (cI, 152, .inl Pf))]) [0, 1, 2, 3, 4, 5, 6, 7, 8, 9, 10, 11, 12, 13, 14, 15, 16, 17, 18] rfl) (hD.sub (ws' := [(hJ, .inr (0, [.ref aS, .ref hR, .ref hL, .ref gL])), (aS, .inr (3, [.ref aN])), (aN, .inl (cI, 3, .inl (jb_now per mem par))), (hR, .inr (1, [.ref hF, .ref hE, .ref hQ, .int ((jc_mem (jb_tk per mem la.length lb.length) x).2.2.2)])), (hF, .inl (cI, 11, .inl ((jc_mem (jb_tk per mem la.length lb.length) x).1))), (hE, .inl (cI, 1500, .inl ((jc_mem (jb_tk per mem la.length lb.length) x).2.1))), (hQ, .inl (cI, 4000, .inl ((jc_mem (jb_tk per mem la.length lb.length) x).2.2.1))), (hL, .inr (2, [.ref aS, .int 1, .ref kA, .ref vA, .ref oA, .ref sA, .ref eA, .int (nI n)])), (kA, .inl (cI, 500, .inl K)), (vA, .inl (cI, 500, .inl V)), (oA, .inl (cI, 500, .inl (jb_O o))), (sA, .inl (cI, 500, .inl Sp)), (eA, .inl (cI, 152, .inl Pe)), (gL, .inr (2, [.ref aS, .int 0, .ref kB, .ref vB, .ref oB, .ref sB, .ref eB, .int (nI nn)])), (kB, .inl (cI, 500, .inl KK)), (vB, .inl (cI, 500, .inl VV)), (oB, .inl (cI, 500, .inl (jb_O oo))), (sB, .inl (cI, 500, .inl Sq)), (eB, .inl (cI, 152, .inl Pf))]) [0, 1, 2, 3, 4, 5, 6, 7, 8, 9, 10, 11, 12, 13, 14, 15, 16, 17, 18] (by decide) rfl) hK hNw⟩ rfl rfl hl.1 rfl (lv_room (Nat.le_of_ble_eq_true rfl)) dX0_joinBlocks_72 ⟨by decide +kernel, by decide +kernel⟩) hP hD hS hA [0, 1, 2, 3, 4, 5, 6, 7, 8, 9, 10, 11, 12, 13, 14, 15, 16, 17, 18] [] rfl rfl (by decide) (by decide) (fun r_11 u_11 H locs hu_11 hP hD hS => ?_)
    subst hu_11
    have hP : va_P (dC, dI) vwCl [(hJ, .inr (0, [.ref aS, .ref hR, .ref hL, .ref gL])), (aS, .inr (3, [.ref aN])), (aN, .inl (cI, 3, .inl (jb_now per mem par))), (hR, .inr (1, [.ref hF, .ref hE, .ref hQ, .int ((jc_pairs (jb_bps true K KK ((mem - 2) * per) la lb (jb_nb ((mem - 2) * per) la.length)) (jc_mem (jb_tk per mem la.length lb.length) x)).2.2.2)])), (hF, .inl (cI, 11, .inl ((jc_pairs (jb_bps true K KK ((mem - 2) * per) la lb (jb_nb ((mem - 2) * per) la.length)) (jc_mem (jb_tk per mem la.length lb.length) x)).1))), (hE, .inl (cI, 1500, .inl ((jc_pairs (jb_bps true K KK ((mem - 2) * per) la lb (jb_nb ((mem - 2) * per) la.length)) (jc_mem (jb_tk per mem la.length lb.length) x)).2.1))), (hQ, .inl (cI, 4000, .inl ((jc_pairs (jb_bps true K KK ((mem - 2) * per) la lb (jb_nb ((mem - 2) * per) la.length)) (jc_mem (jb_tk per mem la.length lb.length) x)).2.2.1))), (hL, .inr (2, [.ref aS, .int 1, .ref kA, .ref vA, .ref oA, .ref sA, .ref eA, .int (nI n)])), (kA, .inl (cI, 500, .inl K)), (vA, .inl (cI, 500, .inl V)), (oA, .inl (cI, 500, .inl (jb_O o))), (sA, .inl (cI, 500, .inl Sp)), (eA, .inl (cI, 152, .inl Pe)), (gL, .inr (2, [.ref aS, .int 0, .ref kB, .ref vB, .ref oB, .ref sB, .ref eB, .int (nI nn)])), (kB, .inl (cI, 500, .inl KK)), (vB, .inl (cI, 500, .inl VV)), (oB, .inl (cI, 500, .inl (jb_O oo))), (sB, .inl (cI, 500, .inl Sq)), (eB, .inl (cI, 152, .inl Pf))] H := hP.sub [0, 1, 2, 3, 4, 5, 6, 7, 8, 9, 10, 11, 12, 13, 14, 15, 16, 17, 18] rfl
    have hD : va_D A [(hJ, .inr (0, [.ref aS, .ref hR, .ref hL, .ref gL])), (aS, .inr (3, [.ref aN])), (aN, .inl (cI, 3, .inl (jb_now per mem par))), (hR, .inr (1, [.ref hF, .ref hE, .ref hQ, .int ((jc_pairs (jb_bps true K KK ((mem - 2) * per) la lb (jb_nb ((mem - 2) * per) la.length)) (jc_mem (jb_tk per mem la.length lb.length) x)).2.2.2)])), (hF, .inl (cI, 11, .inl ((jc_pairs (jb_bps true K KK ((mem - 2) * per) la lb (jb_nb ((mem - 2) * per) la.length)) (jc_mem (jb_tk per mem la.length lb.length) x)).1))), (hE, .inl (cI, 1500, .inl ((jc_pairs (jb_bps true K KK ((mem - 2) * per) la lb (jb_nb ((mem - 2) * per) la.length)) (jc_mem (jb_tk per mem la.length lb.length) x)).2.1))), (hQ, .inl (cI, 4000, .inl ((jc_pairs (jb_bps true K KK ((mem - 2) * per) la lb (jb_nb ((mem - 2) * per) la.length)) (jc_mem (jb_tk per mem la.length lb.length) x)).2.2.1))), (hL, .inr (2, [.ref aS, .int 1, .ref kA, .ref vA, .ref oA, .ref sA, .ref eA, .int (nI n)])), (kA, .inl (cI, 500, .inl K)), (vA, .inl (cI, 500, .inl V)), (oA, .inl (cI, 500, .inl (jb_O o))), (sA, .inl (cI, 500, .inl Sp)), (eA, .inl (cI, 152, .inl Pe)), (gL, .inr (2, [.ref aS, .int 0, .ref kB, .ref vB, .ref oB, .ref sB, .ref eB, .int (nI nn)])), (kB, .inl (cI, 500, .inl KK)), (vB, .inl (cI, 500, .inl VV)), (oB, .inl (cI, 500, .inl (jb_O oo))), (sB, .inl (cI, 500, .inl Sq)), (eB, .inl (cI, 152, .inl Pf))] := hD.sub [0, 1, 2, 3, 4, 5, 6, 7, 8, 9, 10, 11, 12, 13, 14, 15, 16, 17, 18] (by decide) rfl
    refine lv_istore (lv' := [(7, .int (nI (jb_nb ((mem - 2) * per) la.length))), (6, .int (nI (jb_pg per lb.length))), (5, .int (nI (jb_pg per la.length))), (0, .ref hJ), (1, .int (nI lf)), (2, .int (nI (lf + la.length))), (3, .int (nI rf)), (4, .int (nI (rf + lb.length)))]) hx hb dX0_joinBlocks_75 hl (by decide) rfl (fun ls hl => ?_)
    refine lv_iload hx hb dX0_joinBlocks_77 (lv_at hl 2 rfl) ?_
    refine lv_iload hx hb dX0_joinBlocks_79 (lv_at hl 0 rfl) ?_
    refine lv_iload hx hb dX0_joinBlocks_81 (lv_at hl 1 rfl) ?_
    refine lv_imul hx hb dX0_joinBlocks_83 ?_
    refine lv_iadd hx hb dX0_joinBlocks_84 ?_
    have hP9 : va_P (dC, dI) vwCl [(hJ, .inr (0, [.ref aS, .ref hR, .ref hL, .ref gL])), (aS, .inr (3, [.ref aN])), (aN, .inl (cI, 3, .inl (jb_now per mem par))), (hR, .inr (1, [.ref hF, .ref hE, .ref hQ, .int ((jc_pairs (jb_ps per mem K KK la lb) (jc_mem (jb_tk per mem la.length lb.length) x)).2.2.2)])), (hF, .inl (cI, 11, .inl ((jc_pairs (jb_ps per mem K KK la lb) (jc_mem (jb_tk per mem la.length lb.length) x)).1))), (hE, .inl (cI, 1500, .inl ((jc_pairs (jb_ps per mem K KK la lb) (jc_mem (jb_tk per mem la.length lb.length) x)).2.1))), (hQ, .inl (cI, 4000, .inl ((jc_pairs (jb_ps per mem K KK la lb) (jc_mem (jb_tk per mem la.length lb.length) x)).2.2.1))), (hL, .inr (2, [.ref aS, .int 1, .ref kA, .ref vA, .ref oA, .ref sA, .ref eA, .int (nI n)])), (kA, .inl (cI, 500, .inl K)), (vA, .inl (cI, 500, .inl V)), (oA, .inl (cI, 500, .inl (jb_O o))), (sA, .inl (cI, 500, .inl Sp)), (eA, .inl (cI, 152, .inl Pe)), (gL, .inr (2, [.ref aS, .int 0, .ref kB, .ref vB, .ref oB, .ref sB, .ref eB, .int (nI nn)])), (kB, .inl (cI, 500, .inl KK)), (vB, .inl (cI, 500, .inl VV)), (oB, .inl (cI, 500, .inl (jb_O oo))), (sB, .inl (cI, 500, .inl Sq)), (eB, .inl (cI, 152, .inl Pf))] H := by rw [show jb_ps per mem K KK la lb = jb_bps true K KK ((mem - 2) * per) la lb (jb_nb ((mem - 2) * per) la.length) from if_pos hc]; exact hP.sub [0, 1, 2, 3, 4, 5, 6, 7, 8, 9, 10, 11, 12, 13, 14, 15, 16, 17, 18] rfl
    have hD9 : va_D A [(hJ, .inr (0, [.ref aS, .ref hR, .ref hL, .ref gL])), (aS, .inr (3, [.ref aN])), (aN, .inl (cI, 3, .inl (jb_now per mem par))), (hR, .inr (1, [.ref hF, .ref hE, .ref hQ, .int ((jc_pairs (jb_ps per mem K KK la lb) (jc_mem (jb_tk per mem la.length lb.length) x)).2.2.2)])), (hF, .inl (cI, 11, .inl ((jc_pairs (jb_ps per mem K KK la lb) (jc_mem (jb_tk per mem la.length lb.length) x)).1))), (hE, .inl (cI, 1500, .inl ((jc_pairs (jb_ps per mem K KK la lb) (jc_mem (jb_tk per mem la.length lb.length) x)).2.1))), (hQ, .inl (cI, 4000, .inl ((jc_pairs (jb_ps per mem K KK la lb) (jc_mem (jb_tk per mem la.length lb.length) x)).2.2.1))), (hL, .inr (2, [.ref aS, .int 1, .ref kA, .ref vA, .ref oA, .ref sA, .ref eA, .int (nI n)])), (kA, .inl (cI, 500, .inl K)), (vA, .inl (cI, 500, .inl V)), (oA, .inl (cI, 500, .inl (jb_O o))), (sA, .inl (cI, 500, .inl Sp)), (eA, .inl (cI, 152, .inl Pe)), (gL, .inr (2, [.ref aS, .int 0, .ref kB, .ref vB, .ref oB, .ref sB, .ref eB, .int (nI nn)])), (kB, .inl (cI, 500, .inl KK)), (vB, .inl (cI, 500, .inl VV)), (oB, .inl (cI, 500, .inl (jb_O oo))), (sB, .inl (cI, 500, .inl Sq)), (eB, .inl (cI, 152, .inl Pf))] := by rw [show jb_ps per mem K KK la lb = jb_bps true K KK ((mem - 2) * per) la lb (jb_nb ((mem - 2) * per) la.length) from if_pos hc]; exact hD.sub [0, 1, 2, 3, 4, 5, 6, 7, 8, 9, 10, 11, 12, 13, 14, 15, 16, 17, 18] (by decide) rfl
    exact W.iret (v := (nI (jb_pg per la.length) + (nI (jb_nb ((mem - 2) * per) la.length) * nI (jb_pg per lb.length)))) hx hb hr (fun t ht hW => ⟨⟨_, (), rfl, by rw [jb_nmul, nI_add, show jb_rd per mem la.length lb.length = _ from if_pos hc], by rw [ht]; exact hP9, hD9⟩, hS.F ht⟩) hS.2.2 dX0_joinBlocks_85
end
