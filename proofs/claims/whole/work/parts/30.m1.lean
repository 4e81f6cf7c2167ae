/-! the reference (X6), first part: reads, and what a report's pieces do -/
def jb_two (a b : Nat) : Nat → Int32 := fun k => if k = 0 then nI a else if k = 1 then nI b else 0
-- the reference's report: pairLeft, pairRight, pairKey, valueLeft, valueRight, ofKind, eventRow; pairs, read, written, mostMemory, disk, mostDisk, level, events
abbrev jmR : Type := (Nat → Int32) × (Nat → Int32) × (Nat → Int32) × (Nat → Int32) × (Nat → Int32) × (Nat → Int32) × (Nat → Int32) × Int32 × Int32 × Int32 × Int32 × Int32 × Int32 × Int32 × Int32
/-- the part k of a side at a level holds the list ls -/
def jm_set (Rf Bf : Nat → Int32) (sd a k b : Nat) (ls : List Nat) : Prop := Bf (42 * a + 21 * sd + k) = nI b ∧ Bf (42 * a + 21 * sd + (k + 1)) = nI (b + ls.length) ∧ b + ls.length ≤ 500 ∧ ∀ i, i < ls.length → Rf (1000 * a + 500 * sd + b + i) = nI (ls.getD i 0)
def jm_k (Kf : Nat → Int32) (sd : Nat) : Nat → Int32 := fun r => Kf (500 * sd + r)
def jb_isT (t : Int32) : Int32 := if t = 0 ∨ t = 1 then 1 else 0
theorem jb_mulc (a b : Nat) : nI a * nI b = nI (b * a) := by rw [jb_nmul, Nat.mul_comm]
set_option maxHeartbeats 1000000 in
set_option maxRecDepth 100000 in
/-- isTable -/
theorem m_isTable (l : Launch) (t : Int32) : Met l yX6_isTable wsX6_isTable ({ frames := 1, cells := 0, slots := 0, locals := 40 } : Room) (va_Pc [.int t] (jb_Z)) (vp_Si (fun r => r = jb_isT t)) 0 0 (fun _ => False) := by
  refine Met.ofW (cc := cX6_isTable) (maxL := 1) (ret := (some .boolean)) (by decide) rfl ?_
  intro p e s m args below meth c s₁ B hml hv
  obtain ⟨rfl, -⟩ := hv
  have hx := B.exec
  have hb := B.bytes
  have hr := B.returns
  have hts := atoms_spec (ws := wsX6_isTable) B.pre
  have hown : s.vm.findClass RX6 = some m.cls := findClass_of_methodNamed B.named
  have hlocks := B.notSynchronized
  have hl := lv_entry ([.int t]) (n := 1) (Nat.le_of_ble_eq_true rfl)
  rw [lg_entry_eq]
  generalize (lg_sl ([.int t]) ++ List.replicate (1 - (lg_sl ([.int t])).length) Slot.unset).toArray = ls at hl ⊢
  have hl : lv_has ls 1 [(0, .int t)] := hl
  refine lv_iload_n hx hb dX6_isTable_0 rfl (lv_at hl 0 rfl) ?_
  refine lv_if_eq (tgt := 9) hx hb dX6_isTable_1 (by decide) (fun c_1 => ?_) (fun c_1 => ?_)
  · refine lv_iconst (v := 1) hx hb dX6_isTable_9 (by decide) ?_
    refine lv_goto (tgt := 14) hx hb dX6_isTable_10 (by decide) ?_
    exact W.zret (v := 1) hx hb hr (by first | rfl | decide | (split <;> rfl)) (fun t ht hW => ⟨_, rfl, (if_pos (Or.inl c_1)).symm, ht⟩) (fun _ h => by cases h) dX6_isTable_14
  · refine lv_iload_n hx hb dX6_isTable_4 rfl (lv_at hl 0 rfl) ?_
    refine lv_iconst (v := 1) hx hb dX6_isTable_5 (by decide) ?_
    refine lv_icmp_ne (tgt := 13) hx hb dX6_isTable_6 (by decide) (fun c_6 => ?_) (fun c_6 => ?_)
    · refine lv_iconst (v := 0) hx hb dX6_isTable_13 (by decide) ?_
      exact W.zret (v := 0) hx hb hr (by first | rfl | decide | (split <;> rfl)) (fun t ht hW => ⟨_, rfl, (if_neg (fun h => h.elim c_1 c_6)).symm, ht⟩) (fun _ h => by cases h) dX6_isTable_14
    · refine lv_iconst (v := 1) hx hb dX6_isTable_9 (by decide) ?_
      refine lv_goto (tgt := 14) hx hb dX6_isTable_10 (by decide) ?_
      exact W.zret (v := 1) hx hb hr (by first | rfl | decide | (split <;> rfl)) (fun t ht hW => ⟨_, rfl, (if_pos (Or.inr c_6)).symm, ht⟩) (fun _ h => by cases h) dX6_isTable_14
theorem iX6_pagesOf_X6 : ∀ w ∈ wsX60, w ∈ wsX6_pagesOf := by decide +kernel
set_option maxHeartbeats 1000000 in
set_option maxRecDepth 100000 in
/-- pagesOf -/
theorem m_pagesOf (l : Launch) (dC : Nat → ClassId) (dI : Nat → Nat → Nat) (cI : ClassId) (hM mK mV mN mR mB mX m1 m2 m3 m4 m5 m6 m7 : Nat) (Kf Vf : Nat → Int32) (nl nr per mem par : Nat) (Rf Bf Nf : Nat → Int32) (y : jmR) (n : Nat) (h1 : 1 ≤ per) (hn : n < 1000000) (hp : per ≤ 16) : Met l yX6_pagesOf wsX6_pagesOf ({ frames := 1, cells := 0, slots := 0, locals := 40 } : Room) (va_Pc [.ref hM, .int (nI n)] (jb_R dC dI cI [(hM, .inr (6, [.ref mK, .ref mV, .ref mN, .int (nI per), .int (nI mem), .int (nI par), .ref mR, .ref mB, .ref mX, .ref m1, .ref m2, .ref m3, .ref m4, .ref m5, .int y.2.2.2.2.2.2.2.1, .int y.2.2.2.2.2.2.2.2.1, .int y.2.2.2.2.2.2.2.2.2.1, .int y.2.2.2.2.2.2.2.2.2.2.1, .int y.2.2.2.2.2.2.2.2.2.2.2.1, .int y.2.2.2.2.2.2.2.2.2.2.2.2.1, .int y.2.2.2.2.2.2.2.2.2.2.2.2.2.1, .int y.2.2.2.2.2.2.2.2.2.2.2.2.2.2, .ref m6, .ref m7])), (mK, .inl (cI, 1000, .inl Kf)), (mV, .inl (cI, 1000, .inl Vf)), (mN, .inl (cI, 2, .inl (jb_two nl nr))), (mR, .inl (cI, 10000, .inl Rf)), (mB, .inl (cI, 420, .inl Bf)), (mX, .inl (cI, 10, .inl Nf)), (m1, .inl (cI, 4000, .inl y.1)), (m2, .inl (cI, 4000, .inl y.2.1)), (m3, .inl (cI, 4000, .inl y.2.2.1)), (m4, .inl (cI, 4000, .inl y.2.2.2.1)), (m5, .inl (cI, 4000, .inl y.2.2.2.2.1)), (m6, .inl (cI, 4, .inl y.2.2.2.2.2.1)), (m7, .inl (cI, 1500, .inl y.2.2.2.2.2.2.1))])) (vp_Si (fun r => r = nI (jb_pg per n))) 0 0 (fun _ => False) := by
  refine Met.ofW (cc := cX6_pagesOf) (maxL := 2) (ret := (some .int)) (by decide) rfl ?_
  intro p e s m args below meth c s₁ B hml hv
  obtain ⟨rfl, hP, hK, hNw⟩ := hv
  have hx := B.exec
  have hb := B.bytes
  have hr := B.returns
  have hts := atoms_spec (ws := wsX6_pagesOf) B.pre
  have hown : s.vm.findClass RX6 = some m.cls := findClass_of_methodNamed B.named
  have hlocks := B.notSynchronized
  have hl := lv_entry ([.ref hM, .int (nI n)]) (n := 2) (Nat.le_of_ble_eq_true rfl)
  rw [lg_entry_eq]
  generalize (lg_sl ([.ref hM, .int (nI n)]) ++ List.replicate (2 - (lg_sl ([.ref hM, .int (nI n)])).length) Slot.unset).toArray = ls at hl ⊢
  have hl : lv_has ls 2 [(0, .ref hM), (1, .int (nI n))] := hl
  refine lv_iload_n hx hb dX6_pagesOf_0 rfl (lv_at hl 1 rfl) ?_
  refine lv_aload_n hx hb dX6_pagesOf_1 rfl (lv_at hl 0 rfl) ?_
  refine va_get (D := (dC, dI)) (ci := 6) (v := .int (nI per)) (C := RX6) (T := TX6) (N := 24) hx hb hts iX6_pagesOf_X6 hown hK hP 0 rfl rfl 3 (by decide) (hts (.fieldLink RX6 19 "JoinBenchModel" "per" "I") (by decide +kernel)) (fun _ h9 => h9) rfl dX6_pagesOf_2 ?_
  refine lv_iadd hx hb dX6_pagesOf_5 ?_
  refine lv_iconst (v := 1) hx hb dX6_pagesOf_6 (by decide) ?_
  refine lv_isub hx hb dX6_pagesOf_7 ?_
  refine lv_aload_n hx hb dX6_pagesOf_8 rfl (lv_at hl 0 rfl) ?_
  refine va_get (D := (dC, dI)) (ci := 6) (v := .int (nI per)) (C := RX6) (T := TX6) (N := 24) hx hb hts iX6_pagesOf_X6 hown hK hP 0 rfl rfl 3 (by decide) (hts (.fieldLink RX6 19 "JoinBenchModel" "per" "I") (by decide +kernel)) (fun _ h9 => h9) rfl dX6_pagesOf_9 ?_
  refine lv_idiv hx hb dX6_pagesOf_12 (nI_ne0 (by omega) (by omega)) ?_
  exact W.iret (v := (((nI n + nI per) - 1) / nI per)) hx hb hr (fun t ht hW => ⟨_, rfl, jb_pgpos h1 hn hp, ht⟩) (fun _ h => by cases h) dX6_pagesOf_13
theorem iX6_partOf_X6 : ∀ w ∈ wsX60, w ∈ wsX6_partOf := by decide +kernel
set_option maxHeartbeats 1000000 in
set_option maxRecDepth 100000 in
/-- partOf -/
theorem m_partOf (l : Launch) (dC : Nat → ClassId) (dI : Nat → Nat → Nat) (cI : ClassId) (hM mK mV mN mR mB mX m1 m2 m3 m4 m5 m6 m7 : Nat) (Kf Vf : Nat → Int32) (nl nr per mem par : Nat) (Rf Bf Nf : Nat → Int32) (y : jmR) (key lv : Int32) (hm : 3 ≤ mem) (hm2 : mem ≤ 20) : Met l yX6_partOf wsX6_partOf ({ frames := 1, cells := 0, slots := 0, locals := 40 } : Room) (va_Pc [.ref hM, .int key, .int lv] (jb_R dC dI cI [(hM, .inr (6, [.ref mK, .ref mV, .ref mN, .int (nI per), .int (nI mem), .int (nI par), .ref mR, .ref mB, .ref mX, .ref m1, .ref m2, .ref m3, .ref m4, .ref m5, .int y.2.2.2.2.2.2.2.1, .int y.2.2.2.2.2.2.2.2.1, .int y.2.2.2.2.2.2.2.2.2.1, .int y.2.2.2.2.2.2.2.2.2.2.1, .int y.2.2.2.2.2.2.2.2.2.2.2.1, .int y.2.2.2.2.2.2.2.2.2.2.2.2.1, .int y.2.2.2.2.2.2.2.2.2.2.2.2.2.1, .int y.2.2.2.2.2.2.2.2.2.2.2.2.2.2, .ref m6, .ref m7])), (mK, .inl (cI, 1000, .inl Kf)), (mV, .inl (cI, 1000, .inl Vf)), (mN, .inl (cI, 2, .inl (jb_two nl nr))), (mR, .inl (cI, 10000, .inl Rf)), (mB, .inl (cI, 420, .inl Bf)), (mX, .inl (cI, 10, .inl Nf)), (m1, .inl (cI, 4000, .inl y.1)), (m2, .inl (cI, 4000, .inl y.2.1)), (m3, .inl (cI, 4000, .inl y.2.2.1)), (m4, .inl (cI, 4000, .inl y.2.2.2.1)), (m5, .inl (cI, 4000, .inl y.2.2.2.2.1)), (m6, .inl (cI, 4, .inl y.2.2.2.2.2.1)), (m7, .inl (cI, 1500, .inl y.2.2.2.2.2.2.1))])) (vp_Si (fun r => r = nI (jb_pt mem key lv))) 0 0 (fun _ => False) := by
  refine Met.ofW (cc := cX6_partOf) (maxL := 4) (ret := (some .int)) (by decide) rfl ?_
  intro p e s m args below meth c s₁ B hml hv
  obtain ⟨rfl, hP, hK, hNw⟩ := hv
  have hx := B.exec
  have hb := B.bytes
  have hr := B.returns
  have hts := atoms_spec (ws := wsX6_partOf) B.pre
  have hown : s.vm.findClass RX6 = some m.cls := findClass_of_methodNamed B.named
  have hlocks := B.notSynchronized
  have hl := lv_entry ([.ref hM, .int key, .int lv]) (n := 4) (Nat.le_of_ble_eq_true rfl)
  rw [lg_entry_eq]
  generalize (lg_sl ([.ref hM, .int key, .int lv]) ++ List.replicate (4 - (lg_sl ([.ref hM, .int key, .int lv])).length) Slot.unset).toArray = ls at hl ⊢
  have hl : lv_has ls 4 [(0, .ref hM), (1, .int key), (2, .int lv)] := hl
  refine lv_iload_n hx hb dX6_partOf_0 rfl (lv_at hl 1 rfl) ?_
  refine lv_ldc (v := (-1640531527)) hx hb hown (hts (.constant RX6 70 (-1640531527)) (by decide +kernel)) dX6_partOf_1 ?_
  refine lv_imul hx hb dX6_partOf_3 ?_
  refine lv_iload_n hx hb dX6_partOf_4 rfl (lv_at hl 2 rfl) ?_
  refine lv_ldc (v := 1013904243) hx hb hown (hts (.constant RX6 71 (1013904243)) (by decide +kernel)) dX6_partOf_5 ?_
  refine lv_imul hx hb dX6_partOf_7 ?_
  refine lv_iadd hx hb dX6_partOf_8 ?_
  refine lv_istore_n (lv' := [(3, .int ((key * (-1640531527)) + (lv * 1013904243))), (0, .ref hM), (1, .int key), (2, .int lv)]) hx hb dX6_partOf_9 rfl hl (by decide) rfl (fun ls hl => ?_)
  refine lv_iload_n hx hb dX6_partOf_10 rfl (lv_at hl 0 rfl) ?_
  refine lv_iload_n hx hb dX6_partOf_11 rfl (lv_at hl 0 rfl) ?_
  refine lv_bipush (v := 15) hx hb dX6_partOf_12 (by decide) ?_
  refine lv_iushr hx hb dX6_partOf_14 rfl ?_
  refine lv_ixor hx hb dX6_partOf_15 ?_
  refine lv_istore_n (lv' := [(3, .int (((key * (-1640531527)) + (lv * 1013904243)) ^^^ (((key * (-1640531527)) + (lv * 1013904243)).toUInt32 >>> ((15 : Int32).toUInt32 &&& Int32.toUInt32 31)).toInt32)), (0, .ref hM), (1, .int key), (2, .int lv)]) hx hb dX6_partOf_16 rfl hl (by decide) rfl (fun ls hl => ?_)
  refine lv_iload_n hx hb dX6_partOf_17 rfl (lv_at hl 0 rfl) ?_
  refine lv_ldc (v := (-2048144777)) hx hb hown (hts (.constant RX6 72 (-2048144777)) (by decide +kernel)) dX6_partOf_18 ?_
  refine lv_imul hx hb dX6_partOf_20 ?_
  refine lv_istore_n (lv' := [(3, .int ((((key * (-1640531527)) + (lv * 1013904243)) ^^^ (((key * (-1640531527)) + (lv * 1013904243)).toUInt32 >>> ((15 : Int32).toUInt32 &&& Int32.toUInt32 31)).toInt32) * (-2048144777))), (0, .ref hM), (1, .int key), (2, .int lv)]) hx hb dX6_partOf_21 rfl hl (by decide) rfl (fun ls hl => ?_)
  refine lv_iload_n hx hb dX6_partOf_22 rfl (lv_at hl 0 rfl) ?_
  refine lv_iload_n hx hb dX6_partOf_23 rfl (lv_at hl 0 rfl) ?_
  refine lv_bipush (v := 13) hx hb dX6_partOf_24 (by decide) ?_
  refine lv_iushr hx hb dX6_partOf_26 rfl ?_
  refine lv_ixor hx hb dX6_partOf_27 ?_
  refine lv_istore_n (lv' := [(3, .int (((((key * (-1640531527)) + (lv * 1013904243)) ^^^ (((key * (-1640531527)) + (lv * 1013904243)).toUInt32 >>> ((15 : Int32).toUInt32 &&& Int32.toUInt32 31)).toInt32) * (-2048144777)) ^^^ (((((key * (-1640531527)) + (lv * 1013904243)) ^^^ (((key * (-1640531527)) + (lv * 1013904243)).toUInt32 >>> ((15 : Int32).toUInt32 &&& Int32.toUInt32 31)).toInt32) * (-2048144777)).toUInt32 >>> ((13 : Int32).toUInt32 &&& Int32.toUInt32 31)).toInt32)), (0, .ref hM), (1, .int key), (2, .int lv)]) hx hb dX6_partOf_28 rfl hl (by decide) rfl (fun ls hl => ?_)
  refine lv_iload_n hx hb dX6_partOf_29 rfl (lv_at hl 0 rfl) ?_
  refine lv_i2l hx hb dX6_partOf_30 rfl ?_
  refine lv_ldc2 (v := 4294967295) hx hb hown (hts (.constantLong RX6 73 (4294967295)) (by decide +kernel)) dX6_partOf_31 ?_
  refine lv_land hx hb dX6_partOf_34 ?_
  refine lv_topl (fun un eun => ?_)
  have eun : un = lN (jb_hash key lv).toBitVec.toNat := eun.trans (jb_un (jb_hash key lv))
  refine lv_aload_n hx hb dX6_partOf_35 rfl (lv_at hl 1 rfl) ?_
  refine va_get (D := (dC, dI)) (ci := 6) (v := .int (nI mem)) (C := RX6) (T := TX6) (N := 24) hx hb hts iX6_partOf_X6 hown hK hP 0 rfl rfl 4 (by decide) (hts (.fieldLink RX6 23 "JoinBenchModel" "memory" "I") (by decide +kernel)) (fun _ h9 => h9) rfl dX6_partOf_36 ?_
  refine lv_iconst (v := 1) hx hb dX6_partOf_39 (by decide) ?_
  refine lv_isub hx hb dX6_partOf_40 ?_
  refine lv_topi (fun v_1 ev_1 => ?_)
  have hv_1 : v_1 = nI (mem - 1) := ev_1.trans (pk_sub (a := mem) (b := 1) (by omega))
  clear ev_1; subst hv_1
  refine lv_i2l hx hb dX6_partOf_41 rfl ?_
  refine lv_lrem hx hb dX6_partOf_42 (by rw [nI_l (by omega)]; intro h; have := (lN_eq (a := mem - 1) (b := 0) (by omega) (by omega)).mp h; omega) ?_
  refine lv_l2i hx hb dX6_partOf_43 rfl ?_
  exact W.iret (v := (un - un / (nI (mem - 1)).toInt64 * (nI (mem - 1)).toInt64).toInt32) hx hb hr (fun t ht hW => ⟨_, rfl, by rw [eun, nI_l (by omega), pk_lRem (by have := (jb_hash key lv).toBitVec.isLt; omega) (by omega) (by omega), lN_i]; rfl, ht⟩) (fun _ h => by cases h) dX6_partOf_44
set_option maxHeartbeats 1000000 in
set_option maxRecDepth 100000 in
/-- part -/
theorem m_part (l : Launch) (dC : Nat → ClassId) (dI : Nat → Nat → Nat) (cI : ClassId) (hM mK mV mN mR mB mX m1 m2 m3 m4 m5 m6 m7 : Nat) (Kf Vf : Nat → Int32) (nl nr per mem par : Nat) (Rf Bf Nf : Nat → Int32) (y : jmR) (key lv : Int32) (hm : 3 ≤ mem) (hm2 : mem ≤ 20) : Met l yX6_part wsX6_part ({ frames := 2, cells := 0, slots := 0, locals := 80 } : Room) (va_Pc [.ref hM, .int key, .int lv] (jb_R dC dI cI [(hM, .inr (6, [.ref mK, .ref mV, .ref mN, .int (nI per), .int (nI mem), .int (nI par), .ref mR, .ref mB, .ref mX, .ref m1, .ref m2, .ref m3, .ref m4, .ref m5, .int y.2.2.2.2.2.2.2.1, .int y.2.2.2.2.2.2.2.2.1, .int y.2.2.2.2.2.2.2.2.2.1, .int y.2.2.2.2.2.2.2.2.2.2.1, .int y.2.2.2.2.2.2.2.2.2.2.2.1, .int y.2.2.2.2.2.2.2.2.2.2.2.2.1, .int y.2.2.2.2.2.2.2.2.2.2.2.2.2.1, .int y.2.2.2.2.2.2.2.2.2.2.2.2.2.2, .ref m6, .ref m7])), (mK, .inl (cI, 1000, .inl Kf)), (mV, .inl (cI, 1000, .inl Vf)), (mN, .inl (cI, 2, .inl (jb_two nl nr))), (mR, .inl (cI, 10000, .inl Rf)), (mB, .inl (cI, 420, .inl Bf)), (mX, .inl (cI, 10, .inl Nf)), (m1, .inl (cI, 4000, .inl y.1)), (m2, .inl (cI, 4000, .inl y.2.1)), (m3, .inl (cI, 4000, .inl y.2.2.1)), (m4, .inl (cI, 4000, .inl y.2.2.2.1)), (m5, .inl (cI, 4000, .inl y.2.2.2.2.1)), (m6, .inl (cI, 4, .inl y.2.2.2.2.2.1)), (m7, .inl (cI, 1500, .inl y.2.2.2.2.2.2.1))])) (vp_Si (fun r => r = jb_partA mem key lv)) 0 0 (fun _ => False) := by
  refine Met.ofW (cc := cX6_part) (maxL := 3) (ret := (some .int)) (by decide) rfl ?_
  intro p e s m args below meth c s₁ B hml hv
  obtain ⟨rfl, hP, hK, hNw⟩ := hv
  have hx := B.exec
  have hb := B.bytes
  have hr := B.returns
  have hts := atoms_spec (ws := wsX6_part) B.pre
  have hown : s.vm.findClass RX6 = some m.cls := findClass_of_methodNamed B.named
  have hlocks := B.notSynchronized
  have hl := lv_entry ([.ref hM, .int key, .int lv]) (n := 3) (Nat.le_of_ble_eq_true rfl)
  rw [lg_entry_eq]
  generalize (lg_sl ([.ref hM, .int key, .int lv]) ++ List.replicate (3 - (lg_sl ([.ref hM, .int key, .int lv])).length) Slot.unset).toArray = ls at hl ⊢
  have hl : lv_has ls 3 [(0, .ref hM), (1, .int key), (2, .int lv)] := hl
  refine lv_iload_n hx hb dX6_part_0 rfl (lv_at hl 2 rfl) ?_
  refine lv_if_lt (tgt := 10) hx hb dX6_part_1 (by decide) (fun c_1 => ?_) (fun c_1 => ?_)
  · refine lv_iconst (v := (-1)) hx hb dX6_part_10 (by decide) ?_
    refine lv_goto (tgt := 20) hx hb dX6_part_11 (by decide) ?_
    exact W.iret (v := (-1)) hx hb hr (fun t ht hW => ⟨_, rfl, (if_pos (Or.inl c_1)).symm, ht⟩) (fun _ h => by cases h) dX6_part_20
  · refine lv_iload_n hx hb dX6_part_4 rfl (lv_at hl 2 rfl) ?_
    refine lv_bipush (v := 8) hx hb dX6_part_5 (by decide) ?_
    refine lv_icmp_le (tgt := 14) hx hb dX6_part_7 (by decide) (fun c_7 => ?_) (fun c_7 => ?_)
    · refine lv_aload_n hx hb dX6_part_14 rfl (lv_at hl 0 rfl) ?_
      refine lv_iload_n hx hb dX6_part_15 rfl (lv_at hl 1 rfl) ?_
      refine lv_iload_n hx hb dX6_part_16 rfl (lv_at hl 2 rfl) ?_
      refine vp_callSi (va_runV (As := [.int key, .int lv]) (rest := []) ⟨hx, hb, hml, hown, hts⟩ (m_partOf l dC dI cI hM mK mV mN mR mB mX m1 m2 m3 m4 m5 m6 m7 Kf Vf nl nr per mem par Rf Bf Nf y key lv hm hm2) (cwV 2 hts gX6_part_X6_partOf rfl rfl rfl (by decide +kernel) ⟨(by decide +kernel), (by decide +kernel)⟩)  ⟨jb_R_blind, va_recv hK hP (ci := 6) (q0 := 0) rfl rfl, jb_R_pre (hP.sub (ws' := [(hM, .inr (6, [.ref mK, .ref mV, .ref mN, .int (nI per), .int (nI mem), .int (nI par), .ref mR, .ref mB, .ref mX, .ref m1, .ref m2, .ref m3, .ref m4, .ref m5, .int y.2.2.2.2.2.2.2.1, .int y.2.2.2.2.2.2.2.2.1, .int y.2.2.2.2.2.2.2.2.2.1, .int y.2.2.2.2.2.2.2.2.2.2.1, .int y.2.2.2.2.2.2.2.2.2.2.2.1, .int y.2.2.2.2.2.2.2.2.2.2.2.2.1, .int y.2.2.2.2.2.2.2.2.2.2.2.2.2.1, .int y.2.2.2.2.2.2.2.2.2.2.2.2.2.2, .ref m6, .ref m7])), (mK, .inl (cI, 1000, .inl Kf)), (mV, .inl (cI, 1000, .inl Vf)), (mN, .inl (cI, 2, .inl (jb_two nl nr))), (mR, .inl (cI, 10000, .inl Rf)), (mB, .inl (cI, 420, .inl Bf)), (mX, .inl (cI, 10, .inl Nf)), (m1, .inl (cI, 4000, .inl y.1)), (m2, .inl (cI, 4000, .inl y.2.1)), (m3, .inl (cI, 4000, .inl y.2.2.1)), (m4, .inl (cI, 4000, .inl y.2.2.2.1)), (m5, .inl (cI, 4000, .inl y.2.2.2.2.1)), (m6, .inl (cI, 4, .inl y.2.2.2.2.2.1)), (m7, .inl (cI, 1500, .inl y.2.2.2.2.2.2.1))]) [0, 1, 2, 3, 4, 5, 6, 7, 8, 9, 10, 11, 12, 13] rfl) hK hNw⟩ rfl rfl hl.1 rfl (lv_room (Nat.le_of_ble_eq_true rfl)) dX6_part_17 ⟨by decide +kernel, by decide +kernel⟩).run (fun r_1 hr_1 => ?_)
      subst hr_1
      exact W.iret (v := nI (jb_pt mem key lv)) hx hb hr (fun t ht hW => ⟨_, rfl, (if_neg (fun h => h.elim c_1 (fun h => Int32.not_le.mpr h c_7))).symm, ht⟩) (fun _ h => by cases h) dX6_part_20
    · refine lv_iconst (v := (-1)) hx hb dX6_part_10 (by decide) ?_
      refine lv_goto (tgt := 20) hx hb dX6_part_11 (by decide) ?_
      exact W.iret (v := (-1)) hx hb hr (fun t ht hW => ⟨_, rfl, (if_pos (Or.inr (Int32.not_le.mp c_7))).symm, ht⟩) (fun _ h => by cases h) dX6_part_20
theorem iX6_beginOf_X6 : ∀ w ∈ wsX60, w ∈ wsX6_beginOf := by decide +kernel
set_option maxHeartbeats 1000000 in
set_option maxRecDepth 100000 in
/-- beginOf -/
theorem m_beginOf (l : Launch) (dC : Nat → ClassId) (dI : Nat → Nat → Nat) (cI : ClassId) (hM mK mV mN mR mB mX m1 m2 m3 m4 m5 m6 m7 : Nat) (Kf Vf : Nat → Int32) (nl nr per mem par : Nat) (Rf Bf Nf : Nat → Int32) (y : jmR) (sd a k : Nat) (hsd : sd < 2) (ha : a < 10) (hk : k < 21) : Met l yX6_beginOf wsX6_beginOf ({ frames := 1, cells := 0, slots := 0, locals := 40 } : Room) (va_Pc [.ref hM, .int (nI sd), .int (nI a), .int (nI k)] (jb_R dC dI cI [(hM, .inr (6, [.ref mK, .ref mV, .ref mN, .int (nI per), .int (nI mem), .int (nI par), .ref mR, .ref mB, .ref mX, .ref m1, .ref m2, .ref m3, .ref m4, .ref m5, .int y.2.2.2.2.2.2.2.1, .int y.2.2.2.2.2.2.2.2.1, .int y.2.2.2.2.2.2.2.2.2.1, .int y.2.2.2.2.2.2.2.2.2.2.1, .int y.2.2.2.2.2.2.2.2.2.2.2.1, .int y.2.2.2.2.2.2.2.2.2.2.2.2.1, .int y.2.2.2.2.2.2.2.2.2.2.2.2.2.1, .int y.2.2.2.2.2.2.2.2.2.2.2.2.2.2, .ref m6, .ref m7])), (mK, .inl (cI, 1000, .inl Kf)), (mV, .inl (cI, 1000, .inl Vf)), (mN, .inl (cI, 2, .inl (jb_two nl nr))), (mR, .inl (cI, 10000, .inl Rf)), (mB, .inl (cI, 420, .inl Bf)), (mX, .inl (cI, 10, .inl Nf)), (m1, .inl (cI, 4000, .inl y.1)), (m2, .inl (cI, 4000, .inl y.2.1)), (m3, .inl (cI, 4000, .inl y.2.2.1)), (m4, .inl (cI, 4000, .inl y.2.2.2.1)), (m5, .inl (cI, 4000, .inl y.2.2.2.2.1)), (m6, .inl (cI, 4, .inl y.2.2.2.2.2.1)), (m7, .inl (cI, 1500, .inl y.2.2.2.2.2.2.1))])) (vp_Si (fun r => r = Bf (42 * a + 21 * sd + k))) 0 0 (fun _ => False) := by
  refine Met.ofW (cc := cX6_beginOf) (maxL := 4) (ret := (some .int)) (by decide) rfl ?_
  intro p e s m args below meth c s₁ B hml hv
  obtain ⟨rfl, hP, hK, hNw⟩ := hv
  have hx := B.exec
  have hb := B.bytes
  have hr := B.returns
  have hts := atoms_spec (ws := wsX6_beginOf) B.pre
  have hown : s.vm.findClass RX6 = some m.cls := findClass_of_methodNamed B.named
  have hlocks := B.notSynchronized
  have hl := lv_entry ([.ref hM, .int (nI sd), .int (nI a), .int (nI k)]) (n := 4) (Nat.le_of_ble_eq_true rfl)
  rw [lg_entry_eq]
  generalize (lg_sl ([.ref hM, .int (nI sd), .int (nI a), .int (nI k)]) ++ List.replicate (4 - (lg_sl ([.ref hM, .int (nI sd), .int (nI a), .int (nI k)])).length) Slot.unset).toArray = ls at hl ⊢
  have hl : lv_has ls 4 [(0, .ref hM), (1, .int (nI sd)), (2, .int (nI a)), (3, .int (nI k))] := hl
  refine lv_aload_n hx hb dX6_beginOf_0 rfl (lv_at hl 0 rfl) ?_
  refine va_get (D := (dC, dI)) (ci := 6) (v := .ref mB) (C := RX6) (T := TX6) (N := 24) hx hb hts iX6_beginOf_X6 hown hK hP 0 rfl rfl 7 (by decide) (hts (.fieldLink RX6 32 "JoinBenchModel" "begins" "[I") (by decide +kernel)) (fun _ h9 => h9) rfl dX6_beginOf_1 ?_
  refine lv_bipush (v := 42) hx hb dX6_beginOf_4 (by decide) ?_
  refine lv_iload_n hx hb dX6_beginOf_6 rfl (lv_at hl 2 rfl) ?_
  refine lv_imul hx hb dX6_beginOf_7 ?_
  refine lv_topi (fun v_1 ev_1 => ?_)
  have hv_1 : v_1 = nI (42 * a) := ev_1.trans (jb_nmul 42 a)
  clear ev_1; subst hv_1
  refine lv_bipush (v := 21) hx hb dX6_beginOf_8 (by decide) ?_
  refine lv_iload_n hx hb dX6_beginOf_10 rfl (lv_at hl 1 rfl) ?_
  refine lv_imul hx hb dX6_beginOf_11 ?_
  refine lv_topi (fun v_2 ev_2 => ?_)
  have hv_2 : v_2 = nI (21 * sd) := ev_2.trans (jb_nmul 21 sd)
  clear ev_2; subst hv_2
  refine lv_iadd hx hb dX6_beginOf_12 ?_
  refine lv_topi (fun v_3 ev_3 => ?_)
  have hv_3 : v_3 = nI (42 * a + 21 * sd) := ev_3.trans (nI_add _ _)
  clear ev_3; subst hv_3
  refine lv_iload_n hx hb dX6_beginOf_13 rfl (lv_at hl 3 rfl) ?_
  refine lv_iadd hx hb dX6_beginOf_14 ?_
  refine lv_topi (fun v_4 ev_4 => ?_)
  have hv_4 : v_4 = nI (42 * a + 21 * sd + k) := ev_4.trans (nI_add _ _)
  clear ev_4; subst hv_4
  refine va_iald hx hb hK hP 5 0 rfl rfl (i := nI (42 * a + 21 * sd + k)) (vp_in_nI (n := 42 * a + 21 * sd + k) (by omega) (by decide)) dX6_beginOf_15 ?_
  refine lv_topi (fun v_5 ev_5 => ?_)
  have hv_5 : v_5 = (Bf (42 * a + 21 * sd + k)) := ev_5.trans (congrArg _ (nI_clamp (by omega)))
  clear ev_5; subst hv_5
  exact W.iret (v := (Bf (42 * a + 21 * sd + k))) hx hb hr (fun t ht hW => ⟨_, rfl, rfl, ht⟩) (fun _ h => by cases h) dX6_beginOf_16
set_option maxHeartbeats 1000000 in
set_option maxRecDepth 100000 in
/-- sizeOf -/
theorem m_sizeOf (l : Launch) (dC : Nat → ClassId) (dI : Nat → Nat → Nat) (cI : ClassId) (hM mK mV mN mR mB mX m1 m2 m3 m4 m5 m6 m7 : Nat) (Kf Vf : Nat → Int32) (nl nr per mem par : Nat) (Rf Bf Nf : Nat → Int32) (y : jmR) (sd a k b : Nat) (ls1 : List Nat) (hset : jm_set Rf Bf sd a k b ls1) (hsd : sd < 2) (ha : a < 10) (hk : k < 20) : Met l yX6_sizeOf wsX6_sizeOf ({ frames := 2, cells := 0, slots := 0, locals := 80 } : Room) (va_Pc [.ref hM, .int (nI sd), .int (nI a), .int (nI k)] (jb_R dC dI cI [(hM, .inr (6, [.ref mK, .ref mV, .ref mN, .int (nI per), .int (nI mem), .int (nI par), .ref mR, .ref mB, .ref mX, .ref m1, .ref m2, .ref m3, .ref m4, .ref m5, .int y.2.2.2.2.2.2.2.1, .int y.2.2.2.2.2.2.2.2.1, .int y.2.2.2.2.2.2.2.2.2.1, .int y.2.2.2.2.2.2.2.2.2.2.1, .int y.2.2.2.2.2.2.2.2.2.2.2.1, .int y.2.2.2.2.2.2.2.2.2.2.2.2.1, .int y.2.2.2.2.2.2.2.2.2.2.2.2.2.1, .int y.2.2.2.2.2.2.2.2.2.2.2.2.2.2, .ref m6, .ref m7])), (mK, .inl (cI, 1000, .inl Kf)), (mV, .inl (cI, 1000, .inl Vf)), (mN, .inl (cI, 2, .inl (jb_two nl nr))), (mR, .inl (cI, 10000, .inl Rf)), (mB, .inl (cI, 420, .inl Bf)), (mX, .inl (cI, 10, .inl Nf)), (m1, .inl (cI, 4000, .inl y.1)), (m2, .inl (cI, 4000, .inl y.2.1)), (m3, .inl (cI, 4000, .inl y.2.2.1)), (m4, .inl (cI, 4000, .inl y.2.2.2.1)), (m5, .inl (cI, 4000, .inl y.2.2.2.2.1)), (m6, .inl (cI, 4, .inl y.2.2.2.2.2.1)), (m7, .inl (cI, 1500, .inl y.2.2.2.2.2.2.1))])) (vp_Si (fun r => r = nI ls1.length)) 0 0 (fun _ => False) := by
  refine Met.ofW (cc := cX6_sizeOf) (maxL := 4) (ret := (some .int)) (by decide) rfl ?_
  intro p e s m args below meth c s₁ B hml hv
  obtain ⟨rfl, hP, hK, hNw⟩ := hv
  have hx := B.exec
  have hb := B.bytes
  have hr := B.returns
  have hts := atoms_spec (ws := wsX6_sizeOf) B.pre
  have hown : s.vm.findClass RX6 = some m.cls := findClass_of_methodNamed B.named
  have hlocks := B.notSynchronized
  have hl := lv_entry ([.ref hM, .int (nI sd), .int (nI a), .int (nI k)]) (n := 4) (Nat.le_of_ble_eq_true rfl)
  rw [lg_entry_eq]
  generalize (lg_sl ([.ref hM, .int (nI sd), .int (nI a), .int (nI k)]) ++ List.replicate (4 - (lg_sl ([.ref hM, .int (nI sd), .int (nI a), .int (nI k)])).length) Slot.unset).toArray = ls at hl ⊢
  have hl : lv_has ls 4 [(0, .ref hM), (1, .int (nI sd)), (2, .int (nI a)), (3, .int (nI k))] := hl
  refine lv_aload_n hx hb dX6_sizeOf_0 rfl (lv_at hl 0 rfl) ?_
  refine lv_iload_n hx hb dX6_sizeOf_1 rfl (lv_at hl 1 rfl) ?_
  refine lv_iload_n hx hb dX6_sizeOf_2 rfl (lv_at hl 2 rfl) ?_
  refine lv_iload_n hx hb dX6_sizeOf_3 rfl (lv_at hl 3 rfl) ?_
  refine lv_iconst (v := 1) hx hb dX6_sizeOf_4 (by decide) ?_
  refine lv_iadd hx hb dX6_sizeOf_5 ?_
  refine lv_topi (fun v_1 ev_1 => ?_)
  have hv_1 : v_1 = nI (k + 1) := ev_1.trans (nI_1 k)
  clear ev_1; subst hv_1
  refine vp_callSi (va_runV (As := [.int (nI sd), .int (nI a), .int (nI (k + 1))]) (rest := []) ⟨hx, hb, hml, hown, hts⟩ (m_beginOf l dC dI cI hM mK mV mN mR mB mX m1 m2 m3 m4 m5 m6 m7 Kf Vf nl nr per mem par Rf Bf Nf y sd a (k + 1) hsd ha (by omega)) (cwV 3 hts gX6_sizeOf_X6_beginOf rfl rfl rfl (by decide +kernel) ⟨(by decide +kernel), (by decide +kernel)⟩)  ⟨jb_R_blind, va_recv hK hP (ci := 6) (q0 := 0) rfl rfl, jb_R_pre (hP.sub (ws' := [(hM, .inr (6, [.ref mK, .ref mV, .ref mN, .int (nI per), .int (nI mem), .int (nI par), .ref mR, .ref mB, .ref mX, .ref m1, .ref m2, .ref m3, .ref m4, .ref m5, .int y.2.2.2.2.2.2.2.1, .int y.2.2.2.2.2.2.2.2.1, .int y.2.2.2.2.2.2.2.2.2.1, .int y.2.2.2.2.2.2.2.2.2.2.1, .int y.2.2.2.2.2.2.2.2.2.2.2.1, .int y.2.2.2.2.2.2.2.2.2.2.2.2.1, .int y.2.2.2.2.2.2.2.2.2.2.2.2.2.1, .int y.2.2.2.2.2.2.2.2.2.2.2.2.2.2, .ref m6, .ref m7])), (mK, .inl (cI, 1000, .inl Kf)), (mV, .inl (cI, 1000, .inl Vf)), (mN, .inl (cI, 2, .inl (jb_two nl nr))), (mR, .inl (cI, 10000, .inl Rf)), (mB, .inl (cI, 420, .inl Bf)), (mX, .inl (cI, 10, .inl Nf)), (m1, .inl (cI, 4000, .inl y.1)), (m2, .inl (cI, 4000, .inl y.2.1)), (m3, .inl (cI, 4000, .inl y.2.2.1)), (m4, .inl (cI, 4000, .inl y.2.2.2.1)), (m5, .inl (cI, 4000, .inl y.2.2.2.2.1)), (m6, .inl (cI, 4, .inl y.2.2.2.2.2.1)), (m7, .inl (cI, 1500, .inl y.2.2.2.2.2.2.1))]) [0, 1, 2, 3, 4, 5, 6, 7, 8, 9, 10, 11, 12, 13] rfl) hK hNw⟩ rfl rfl hl.1 rfl (lv_room (Nat.le_of_ble_eq_true rfl)) dX6_sizeOf_6 ⟨by decide +kernel, by decide +kernel⟩).run (fun r_2 hr_2 => ?_)
  subst hr_2
  refine lv_topi (fun v_3 ev_3 => ?_)
  have hv_3 : v_3 = nI (b + ls1.length) := ev_3.trans (hset.2.1)
  clear ev_3; subst hv_3
  refine lv_aload_n hx hb dX6_sizeOf_9 rfl (lv_at hl 0 rfl) ?_
  refine lv_iload_n hx hb dX6_sizeOf_10 rfl (lv_at hl 1 rfl) ?_
  refine lv_iload_n hx hb dX6_sizeOf_11 rfl (lv_at hl 2 rfl) ?_
  refine lv_iload_n hx hb dX6_sizeOf_12 rfl (lv_at hl 3 rfl) ?_
  refine vp_callSi (va_runV (As := [.int (nI sd), .int (nI a), .int (nI k)]) (rest := [.int (nI (b + ls1.length))]) ⟨hx, hb, hml, hown, hts⟩ (m_beginOf l dC dI cI hM mK mV mN mR mB mX m1 m2 m3 m4 m5 m6 m7 Kf Vf nl nr per mem par Rf Bf Nf y sd a k hsd ha (by omega)) (cwV 3 hts gX6_sizeOf_X6_beginOf rfl rfl rfl (by decide +kernel) ⟨(by decide +kernel), (by decide +kernel)⟩)  ⟨jb_R_blind, va_recv hK hP (ci := 6) (q0 := 0) rfl rfl, jb_R_pre (hP.sub (ws' := [(hM, .inr (6, [.ref mK, .ref mV, .ref mN, .int (nI per), .int (nI mem), .int (nI par), .ref mR, .ref mB, .ref mX, .ref m1, .ref m2, .ref m3, .ref m4, .ref m5, .int y.2.2.2.2.2.2.2.1, .int y.2.2.2.2.2.2.2.2.1, .int y.2.2.2.2.2.2.2.2.2.1, .int y.2.2.2.2.2.2.2.2.2.2.1, .int y.2.2.2.2.2.2.2.2.2.2.2.1, .int y.2.2.2.2.2.2.2.2.2.2.2.2.1, .int y.2.2.2.2.2.2.2.2.2.2.2.2.2.1, .int y.2.2.2.2.2.2.2.2.2.2.2.2.2.2, .ref m6, .ref m7])), (mK, .inl (cI, 1000, .inl Kf)), (mV, .inl (cI, 1000, .inl Vf)), (mN, .inl (cI, 2, .inl (jb_two nl nr))), (mR, .inl (cI, 10000, .inl Rf)), (mB, .inl (cI, 420, .inl Bf)), (mX, .inl (cI, 10, .inl Nf)), (m1, .inl (cI, 4000, .inl y.1)), (m2, .inl (cI, 4000, .inl y.2.1)), (m3, .inl (cI, 4000, .inl y.2.2.1)), (m4, .inl (cI, 4000, .inl y.2.2.2.1)), (m5, .inl (cI, 4000, .inl y.2.2.2.2.1)), (m6, .inl (cI, 4, .inl y.2.2.2.2.2.1)), (m7, .inl (cI, 1500, .inl y.2.2.2.2.2.2.1))]) [0, 1, 2, 3, 4, 5, 6, 7, 8, 9, 10, 11, 12, 13] rfl) hK hNw⟩ rfl rfl hl.1 rfl (lv_room (Nat.le_of_ble_eq_true rfl)) dX6_sizeOf_13 ⟨by decide +kernel, by decide +kernel⟩).run (fun r_4 hr_4 => ?_)
  subst hr_4
  refine lv_topi (fun v_5 ev_5 => ?_)
  have hv_5 : v_5 = nI b := ev_5.trans (hset.1)
  clear ev_5; subst hv_5
  refine lv_isub hx hb dX6_sizeOf_16 ?_
  refine lv_topi (fun v_6 ev_6 => ?_)
  have hv_6 : v_6 = nI ls1.length := ev_6.trans ((pk_sub (by omega)).trans (congrArg nI (by omega)))
  clear ev_6; subst hv_6
  exact W.iret (v := nI ls1.length) hx hb hr (fun t ht hW => ⟨_, rfl, rfl, ht⟩) (fun _ h => by cases h) dX6_sizeOf_17
theorem iX6_rowAt_X6 : ∀ w ∈ wsX60, w ∈ wsX6_rowAt := by decide +kernel
set_option maxHeartbeats 1000000 in
set_option maxRecDepth 100000 in
/-- rowAt -/
theorem m_rowAt (l : Launch) (dC : Nat → ClassId) (dI : Nat → Nat → Nat) (cI : ClassId) (hM mK mV mN mR mB mX m1 m2 m3 m4 m5 m6 m7 : Nat) (Kf Vf : Nat → Int32) (nl nr per mem par : Nat) (Rf Bf Nf : Nat → Int32) (y : jmR) (sd a k b : Nat) (ls1 : List Nat) (hset : jm_set Rf Bf sd a k b ls1) (hsd : sd < 2) (ha : a < 10) (hk : k < 20) (i : Nat) (hi : i < ls1.length) : Met l yX6_rowAt wsX6_rowAt ({ frames := 2, cells := 0, slots := 0, locals := 80 } : Room) (va_Pc [.ref hM, .int (nI sd), .int (nI a), .int (nI k), .int (nI i)] (jb_R dC dI cI [(hM, .inr (6, [.ref mK, .ref mV, .ref mN, .int (nI per), .int (nI mem), .int (nI par), .ref mR, .ref mB, .ref mX, .ref m1, .ref m2, .ref m3, .ref m4, .ref m5, .int y.2.2.2.2.2.2.2.1, .int y.2.2.2.2.2.2.2.2.1, .int y.2.2.2.2.2.2.2.2.2.1, .int y.2.2.2.2.2.2.2.2.2.2.1, .int y.2.2.2.2.2.2.2.2.2.2.2.1, .int y.2.2.2.2.2.2.2.2.2.2.2.2.1, .int y.2.2.2.2.2.2.2.2.2.2.2.2.2.1, .int y.2.2.2.2.2.2.2.2.2.2.2.2.2.2, .ref m6, .ref m7])), (mK, .inl (cI, 1000, .inl Kf)), (mV, .inl (cI, 1000, .inl Vf)), (mN, .inl (cI, 2, .inl (jb_two nl nr))), (mR, .inl (cI, 10000, .inl Rf)), (mB, .inl (cI, 420, .inl Bf)), (mX, .inl (cI, 10, .inl Nf)), (m1, .inl (cI, 4000, .inl y.1)), (m2, .inl (cI, 4000, .inl y.2.1)), (m3, .inl (cI, 4000, .inl y.2.2.1)), (m4, .inl (cI, 4000, .inl y.2.2.2.1)), (m5, .inl (cI, 4000, .inl y.2.2.2.2.1)), (m6, .inl (cI, 4, .inl y.2.2.2.2.2.1)), (m7, .inl (cI, 1500, .inl y.2.2.2.2.2.2.1))])) (vp_Si (fun r => r = nI (ls1.getD i 0))) 0 0 (fun _ => False) := by
  refine Met.ofW (cc := cX6_rowAt) (maxL := 5) (ret := (some .int)) (by decide) rfl ?_
  intro p e s m args below meth c s₁ B hml hv
  obtain ⟨rfl, hP, hK, hNw⟩ := hv
  have hx := B.exec
  have hb := B.bytes
  have hr := B.returns
  have hts := atoms_spec (ws := wsX6_rowAt) B.pre
  have hown : s.vm.findClass RX6 = some m.cls := findClass_of_methodNamed B.named
  have hlocks := B.notSynchronized
  have hl := lv_entry ([.ref hM, .int (nI sd), .int (nI a), .int (nI k), .int (nI i)]) (n := 5) (Nat.le_of_ble_eq_true rfl)
  rw [lg_entry_eq]
  generalize (lg_sl ([.ref hM, .int (nI sd), .int (nI a), .int (nI k), .int (nI i)]) ++ List.replicate (5 - (lg_sl ([.ref hM, .int (nI sd), .int (nI a), .int (nI k), .int (nI i)])).length) Slot.unset).toArray = ls at hl ⊢
  have hl : lv_has ls 5 [(0, .ref hM), (1, .int (nI sd)), (2, .int (nI a)), (3, .int (nI k)), (4, .int (nI i))] := hl
  have hb5 := hset.2.2.1
  refine lv_aload_n hx hb dX6_rowAt_0 rfl (lv_at hl 0 rfl) ?_
  refine va_get (D := (dC, dI)) (ci := 6) (v := .ref mR) (C := RX6) (T := TX6) (N := 24) hx hb hts iX6_rowAt_X6 hown hK hP 0 rfl rfl 6 (by decide) (hts (.fieldLink RX6 29 "JoinBenchModel" "rows" "[I") (by decide +kernel)) (fun _ h9 => h9) rfl dX6_rowAt_1 ?_
  refine lv_sipush (v := 1000) hx hb dX6_rowAt_4 (by decide) ?_
  refine lv_iload_n hx hb dX6_rowAt_7 rfl (lv_at hl 2 rfl) ?_
  refine lv_imul hx hb dX6_rowAt_8 ?_
  refine lv_topi (fun v_1 ev_1 => ?_)
  have hv_1 : v_1 = nI (1000 * a) := ev_1.trans (jb_nmul 1000 a)
  clear ev_1; subst hv_1
  refine lv_sipush (v := 500) hx hb dX6_rowAt_9 (by decide) ?_
  refine lv_iload_n hx hb dX6_rowAt_12 rfl (lv_at hl 1 rfl) ?_
  refine lv_imul hx hb dX6_rowAt_13 ?_
  refine lv_topi (fun v_2 ev_2 => ?_)
  have hv_2 : v_2 = nI (500 * sd) := ev_2.trans (jb_nmul 500 sd)
  clear ev_2; subst hv_2
  refine lv_iadd hx hb dX6_rowAt_14 ?_
  refine lv_topi (fun v_3 ev_3 => ?_)
  have hv_3 : v_3 = nI (1000 * a + 500 * sd) := ev_3.trans (nI_add _ _)
  clear ev_3; subst hv_3
  refine lv_aload_n hx hb dX6_rowAt_15 rfl (lv_at hl 0 rfl) ?_
  refine lv_iload_n hx hb dX6_rowAt_16 rfl (lv_at hl 1 rfl) ?_
  refine lv_iload_n hx hb dX6_rowAt_17 rfl (lv_at hl 2 rfl) ?_
  refine lv_iload_n hx hb dX6_rowAt_18 rfl (lv_at hl 3 rfl) ?_
  refine vp_callSi (va_runV (As := [.int (nI sd), .int (nI a), .int (nI k)]) (rest := [.int (nI (1000 * a + 500 * sd)), .ref mR]) ⟨hx, hb, hml, hown, hts⟩ (m_beginOf l dC dI cI hM mK mV mN mR mB mX m1 m2 m3 m4 m5 m6 m7 Kf Vf nl nr per mem par Rf Bf Nf y sd a k hsd ha (by omega)) (cwV 3 hts gX6_rowAt_X6_beginOf rfl rfl rfl (by decide +kernel) ⟨(by decide +kernel), (by decide +kernel)⟩)  ⟨jb_R_blind, va_recv hK hP (ci := 6) (q0 := 0) rfl rfl, jb_R_pre (hP.sub (ws' := [(hM, .inr (6, [.ref mK, .ref mV, .ref mN, .int (nI per), .int (nI mem), .int (nI par), .ref mR, .ref mB, .ref mX, .ref m1, .ref m2, .ref m3, .ref m4, .ref m5, .int y.2.2.2.2.2.2.2.1, .int y.2.2.2.2.2.2.2.2.1, .int y.2.2.2.2.2.2.2.2.2.1, .int y.2.2.2.2.2.2.2.2.2.2.1, .int y.2.2.2.2.2.2.2.2.2.2.2.1, .int y.2.2.2.2.2.2.2.2.2.2.2.2.1, .int y.2.2.2.2.2.2.2.2.2.2.2.2.2.1, .int y.2.2.2.2.2.2.2.2.2.2.2.2.2.2, .ref m6, .ref m7])), (mK, .inl (cI, 1000, .inl Kf)), (mV, .inl (cI, 1000, .inl Vf)), (mN, .inl (cI, 2, .inl (jb_two nl nr))), (mR, .inl (cI, 10000, .inl Rf)), (mB, .inl (cI, 420, .inl Bf)), (mX, .inl (cI, 10, .inl Nf)), (m1, .inl (cI, 4000, .inl y.1)), (m2, .inl (cI, 4000, .inl y.2.1)), (m3, .inl (cI, 4000, .inl y.2.2.1)), (m4, .inl (cI, 4000, .inl y.2.2.2.1)), (m5, .inl (cI, 4000, .inl y.2.2.2.2.1)), (m6, .inl (cI, 4, .inl y.2.2.2.2.2.1)), (m7, .inl (cI, 1500, .inl y.2.2.2.2.2.2.1))]) [0, 1, 2, 3, 4, 5, 6, 7, 8, 9, 10, 11, 12, 13] rfl) hK hNw⟩ rfl rfl hl.1 rfl (lv_room (Nat.le_of_ble_eq_true rfl)) dX6_rowAt_19 ⟨by decide +kernel, by decide +kernel⟩).run (fun r_4 hr_4 => ?_)
  subst hr_4
  refine lv_topi (fun v_5 ev_5 => ?_)
  have hv_5 : v_5 = nI b := ev_5.trans (hset.1)
  clear ev_5; subst hv_5
  refine lv_iadd hx hb dX6_rowAt_22 ?_
  refine lv_topi (fun v_6 ev_6 => ?_)
  have hv_6 : v_6 = nI (1000 * a + 500 * sd + b) := ev_6.trans (nI_add _ _)
  clear ev_6; subst hv_6
  refine lv_iload hx hb dX6_rowAt_23 (lv_at hl 4 rfl) ?_
  refine lv_iadd hx hb dX6_rowAt_25 ?_
  refine lv_topi (fun v_7 ev_7 => ?_)
  have hv_7 : v_7 = nI (1000 * a + 500 * sd + b + i) := ev_7.trans (nI_add _ _)
  clear ev_7; subst hv_7
  refine va_iald hx hb hK hP 4 0 rfl rfl (i := nI (1000 * a + 500 * sd + b + i)) (vp_in_nI (n := 1000 * a + 500 * sd + b + i) (by omega) (by decide)) dX6_rowAt_26 ?_
  refine lv_topi (fun v_8 ev_8 => ?_)
  have hv_8 : v_8 = nI (ls1.getD i 0) := ev_8.trans ((congrArg Rf (nI_clamp (by omega))).trans (hset.2.2.2 i hi))
  clear ev_8; subst hv_8
  exact W.iret (v := nI (ls1.getD i 0)) hx hb hr (fun t ht hW => ⟨_, rfl, rfl, ht⟩) (fun _ h => by cases h) dX6_rowAt_27
theorem iX6_keyAt_X6 : ∀ w ∈ wsX60, w ∈ wsX6_keyAt := by decide +kernel
set_option maxHeartbeats 1000000 in
set_option maxRecDepth 100000 in
/-- keyAt -/
theorem m_keyAt (l : Launch) (dC : Nat → ClassId) (dI : Nat → Nat → Nat) (cI : ClassId) (hM mK mV mN mR mB mX m1 m2 m3 m4 m5 m6 m7 : Nat) (Kf Vf : Nat → Int32) (nl nr per mem par : Nat) (Rf Bf Nf : Nat → Int32) (y : jmR) (sd a k b : Nat) (ls1 : List Nat) (hset : jm_set Rf Bf sd a k b ls1) (hsd : sd < 2) (ha : a < 10) (hk : k < 20) (i : Nat) (hi : i < ls1.length) (hr5 : ls1.getD i 0 < 500) : Met l yX6_keyAt wsX6_keyAt ({ frames := 3, cells := 0, slots := 0, locals := 120 } : Room) (va_Pc [.ref hM, .int (nI sd), .int (nI a), .int (nI k), .int (nI i)] (jb_R dC dI cI [(hM, .inr (6, [.ref mK, .ref mV, .ref mN, .int (nI per), .int (nI mem), .int (nI par), .ref mR, .ref mB, .ref mX, .ref m1, .ref m2, .ref m3, .ref m4, .ref m5, .int y.2.2.2.2.2.2.2.1, .int y.2.2.2.2.2.2.2.2.1, .int y.2.2.2.2.2.2.2.2.2.1, .int y.2.2.2.2.2.2.2.2.2.2.1, .int y.2.2.2.2.2.2.2.2.2.2.2.1, .int y.2.2.2.2.2.2.2.2.2.2.2.2.1, .int y.2.2.2.2.2.2.2.2.2.2.2.2.2.1, .int y.2.2.2.2.2.2.2.2.2.2.2.2.2.2, .ref m6, .ref m7])), (mK, .inl (cI, 1000, .inl Kf)), (mV, .inl (cI, 1000, .inl Vf)), (mN, .inl (cI, 2, .inl (jb_two nl nr))), (mR, .inl (cI, 10000, .inl Rf)), (mB, .inl (cI, 420, .inl Bf)), (mX, .inl (cI, 10, .inl Nf)), (m1, .inl (cI, 4000, .inl y.1)), (m2, .inl (cI, 4000, .inl y.2.1)), (m3, .inl (cI, 4000, .inl y.2.2.1)), (m4, .inl (cI, 4000, .inl y.2.2.2.1)), (m5, .inl (cI, 4000, .inl y.2.2.2.2.1)), (m6, .inl (cI, 4, .inl y.2.2.2.2.2.1)), (m7, .inl (cI, 1500, .inl y.2.2.2.2.2.2.1))])) (vp_Si (fun r => r = jm_k Kf sd (ls1.getD i 0))) 0 0 (fun _ => False) := by
  refine Met.ofW (cc := cX6_keyAt) (maxL := 5) (ret := (some .int)) (by decide) rfl ?_
  intro p e s m args below meth c s₁ B hml hv
  obtain ⟨rfl, hP, hK, hNw⟩ := hv
  have hx := B.exec
  have hb := B.bytes
  have hr := B.returns
  have hts := atoms_spec (ws := wsX6_keyAt) B.pre
  have hown : s.vm.findClass RX6 = some m.cls := findClass_of_methodNamed B.named
  have hlocks := B.notSynchronized
  have hl := lv_entry ([.ref hM, .int (nI sd), .int (nI a), .int (nI k), .int (nI i)]) (n := 5) (Nat.le_of_ble_eq_true rfl)
  rw [lg_entry_eq]
  generalize (lg_sl ([.ref hM, .int (nI sd), .int (nI a), .int (nI k), .int (nI i)]) ++ List.replicate (5 - (lg_sl ([.ref hM, .int (nI sd), .int (nI a), .int (nI k), .int (nI i)])).length) Slot.unset).toArray = ls at hl ⊢
  have hl : lv_has ls 5 [(0, .ref hM), (1, .int (nI sd)), (2, .int (nI a)), (3, .int (nI k)), (4, .int (nI i))] := hl
  refine lv_aload_n hx hb dX6_keyAt_0 rfl (lv_at hl 0 rfl) ?_
  refine va_get (D := (dC, dI)) (ci := 6) (v := .ref mK) (C := RX6) (T := TX6) (N := 24) hx hb hts iX6_keyAt_X6 hown hK hP 0 rfl rfl 0 (by decide) (hts (.fieldLink RX6 7 "JoinBenchModel" "keys" "[I") (by decide +kernel)) (fun _ h9 => h9) rfl dX6_keyAt_1 ?_
  refine lv_sipush (v := 500) hx hb dX6_keyAt_4 (by decide) ?_
  refine lv_iload_n hx hb dX6_keyAt_7 rfl (lv_at hl 1 rfl) ?_
  refine lv_imul hx hb dX6_keyAt_8 ?_
  refine lv_topi (fun v_1 ev_1 => ?_)
  have hv_1 : v_1 = nI (500 * sd) := ev_1.trans (jb_nmul 500 sd)
  clear ev_1; subst hv_1
  refine lv_aload_n hx hb dX6_keyAt_9 rfl (lv_at hl 0 rfl) ?_
  refine lv_iload_n hx hb dX6_keyAt_10 rfl (lv_at hl 1 rfl) ?_
  refine lv_iload_n hx hb dX6_keyAt_11 rfl (lv_at hl 2 rfl) ?_
  refine lv_iload_n hx hb dX6_keyAt_12 rfl (lv_at hl 3 rfl) ?_
  refine lv_iload hx hb dX6_keyAt_13 (lv_at hl 4 rfl) ?_
  refine vp_callSi (va_runV (As := [.int (nI sd), .int (nI a), .int (nI k), .int (nI i)]) (rest := [.int (nI (500 * sd)), .ref mK]) ⟨hx, hb, hml, hown, hts⟩ (m_rowAt l dC dI cI hM mK mV mN mR mB mX m1 m2 m3 m4 m5 m6 m7 Kf Vf nl nr per mem par Rf Bf Nf y sd a k b ls1 hset hsd ha hk i hi) (cwV 4 hts gX6_keyAt_X6_rowAt rfl rfl rfl (by decide +kernel) ⟨(by decide +kernel), (by decide +kernel)⟩)  ⟨jb_R_blind, va_recv hK hP (ci := 6) (q0 := 0) rfl rfl, jb_R_pre (hP.sub (ws' := [(hM, .inr (6, [.ref mK, .ref mV, .ref mN, .int (nI per), .int (nI mem), .int (nI par), .ref mR, .ref mB, .ref mX, .ref m1, .ref m2, .ref m3, .ref m4, .ref m5, .int y.2.2.2.2.2.2.2.1, .int y.2.2.2.2.2.2.2.2.1, .int y.2.2.2.2.2.2.2.2.2.1, .int y.2.2.2.2.2.2.2.2.2.2.1, .int y.2.2.2.2.2.2.2.2.2.2.2.1, .int y.2.2.2.2.2.2.2.2.2.2.2.2.1, .int y.2.2.2.2.2.2.2.2.2.2.2.2.2.1, .int y.2.2.2.2.2.2.2.2.2.2.2.2.2.2, .ref m6, .ref m7])), (mK, .inl (cI, 1000, .inl Kf)), (mV, .inl (cI, 1000, .inl Vf)), (mN, .inl (cI, 2, .inl (jb_two nl nr))), (mR, .inl (cI, 10000, .inl Rf)), (mB, .inl (cI, 420, .inl Bf)), (mX, .inl (cI, 10, .inl Nf)), (m1, .inl (cI, 4000, .inl y.1)), (m2, .inl (cI, 4000, .inl y.2.1)), (m3, .inl (cI, 4000, .inl y.2.2.1)), (m4, .inl (cI, 4000, .inl y.2.2.2.1)), (m5, .inl (cI, 4000, .inl y.2.2.2.2.1)), (m6, .inl (cI, 4, .inl y.2.2.2.2.2.1)), (m7, .inl (cI, 1500, .inl y.2.2.2.2.2.2.1))]) [0, 1, 2, 3, 4, 5, 6, 7, 8, 9, 10, 11, 12, 13] rfl) hK hNw⟩ rfl rfl hl.1 rfl (lv_room (Nat.le_of_ble_eq_true rfl)) dX6_keyAt_15 ⟨by decide +kernel, by decide +kernel⟩).run (fun r_2 hr_2 => ?_)
  subst hr_2
  refine lv_iadd hx hb dX6_keyAt_18 ?_
  refine lv_topi (fun v_3 ev_3 => ?_)
  have hv_3 : v_3 = nI (500 * sd + ls1.getD i 0) := ev_3.trans (nI_add _ _)
  clear ev_3; subst hv_3
  refine va_iald hx hb hK hP 1 0 rfl rfl (i := nI (500 * sd + ls1.getD i 0)) (vp_in_nI (n := 500 * sd + ls1.getD i 0) (by omega) (by decide)) dX6_keyAt_19 ?_
  refine lv_topi (fun v_4 ev_4 => ?_)
  have hv_4 : v_4 = (jm_k Kf sd (ls1.getD i 0)) := ev_4.trans (congrArg Kf (nI_clamp (by omega)))
  clear ev_4; subst hv_4
  exact W.iret (v := (jm_k Kf sd (ls1.getD i 0))) hx hb hr (fun t ht hW => ⟨_, rfl, rfl, ht⟩) (fun _ h => by cases h) dX6_keyAt_20
set_option maxHeartbeats 1000000 in
set_option maxRecDepth 100000 in
/-- pagesAt -/
theorem m_pagesAt (l : Launch) (dC : Nat → ClassId) (dI : Nat → Nat → Nat) (cI : ClassId) (hM mK mV mN mR mB mX m1 m2 m3 m4 m5 m6 m7 : Nat) (Kf Vf : Nat → Int32) (nl nr per mem par : Nat) (Rf Bf Nf : Nat → Int32) (y : jmR) (a k ba bb : Nat) (la lb : List Nat) (hsA : jm_set Rf Bf 0 a k ba la) (hsB : jm_set Rf Bf 1 a k bb lb) (ha : a < 10) (hk : k < 20) (h1 : 1 ≤ per) (hp : per ≤ 16) : Met l yX6_pagesAt wsX6_pagesAt ({ frames := 3, cells := 0, slots := 0, locals := 120 } : Room) (va_Pc [.ref hM, .int (nI a), .int (nI k)] (jb_R dC dI cI [(hM, .inr (6, [.ref mK, .ref mV, .ref mN, .int (nI per), .int (nI mem), .int (nI par), .ref mR, .ref mB, .ref mX, .ref m1, .ref m2, .ref m3, .ref m4, .ref m5, .int y.2.2.2.2.2.2.2.1, .int y.2.2.2.2.2.2.2.2.1, .int y.2.2.2.2.2.2.2.2.2.1, .int y.2.2.2.2.2.2.2.2.2.2.1, .int y.2.2.2.2.2.2.2.2.2.2.2.1, .int y.2.2.2.2.2.2.2.2.2.2.2.2.1, .int y.2.2.2.2.2.2.2.2.2.2.2.2.2.1, .int y.2.2.2.2.2.2.2.2.2.2.2.2.2.2, .ref m6, .ref m7])), (mK, .inl (cI, 1000, .inl Kf)), (mV, .inl (cI, 1000, .inl Vf)), (mN, .inl (cI, 2, .inl (jb_two nl nr))), (mR, .inl (cI, 10000, .inl Rf)), (mB, .inl (cI, 420, .inl Bf)), (mX, .inl (cI, 10, .inl Nf)), (m1, .inl (cI, 4000, .inl y.1)), (m2, .inl (cI, 4000, .inl y.2.1)), (m3, .inl (cI, 4000, .inl y.2.2.1)), (m4, .inl (cI, 4000, .inl y.2.2.2.1)), (m5, .inl (cI, 4000, .inl y.2.2.2.2.1)), (m6, .inl (cI, 4, .inl y.2.2.2.2.2.1)), (m7, .inl (cI, 1500, .inl y.2.2.2.2.2.2.1))])) (vp_Si (fun r => r = nI (jb_pg per la.length + jb_pg per lb.length))) 0 0 (fun _ => False) := by
  refine Met.ofW (cc := cX6_pagesAt) (maxL := 3) (ret := (some .int)) (by decide) rfl ?_
  intro p e s m args below meth c s₁ B hml hv
  obtain ⟨rfl, hP, hK, hNw⟩ := hv
  have hx := B.exec
  have hb := B.bytes
  have hr := B.returns
  have hts := atoms_spec (ws := wsX6_pagesAt) B.pre
  have hown : s.vm.findClass RX6 = some m.cls := findClass_of_methodNamed B.named
  have hlocks := B.notSynchronized
  have hl := lv_entry ([.ref hM, .int (nI a), .int (nI k)]) (n := 3) (Nat.le_of_ble_eq_true rfl)
  rw [lg_entry_eq]
  generalize (lg_sl ([.ref hM, .int (nI a), .int (nI k)]) ++ List.replicate (3 - (lg_sl ([.ref hM, .int (nI a), .int (nI k)])).length) Slot.unset).toArray = ls at hl ⊢
  have hl : lv_has ls 3 [(0, .ref hM), (1, .int (nI a)), (2, .int (nI k))] := hl
  have hla := hsA.2.2.1
  have hlb := hsB.2.2.1
  refine lv_aload_n hx hb dX6_pagesAt_0 rfl (lv_at hl 0 rfl) ?_
  refine lv_aload_n hx hb dX6_pagesAt_1 rfl (lv_at hl 0 rfl) ?_
  refine lv_iconst (v := 0) hx hb dX6_pagesAt_2 (by decide) ?_
  refine lv_iload_n hx hb dX6_pagesAt_3 rfl (lv_at hl 1 rfl) ?_
  refine lv_iload_n hx hb dX6_pagesAt_4 rfl (lv_at hl 2 rfl) ?_
  refine vp_callSi (va_runV (As := [.int 0, .int (nI a), .int (nI k)]) (rest := [.ref hM]) ⟨hx, hb, hml, hown, hts⟩ (m_sizeOf l dC dI cI hM mK mV mN mR mB mX m1 m2 m3 m4 m5 m6 m7 Kf Vf nl nr per mem par Rf Bf Nf y 0 a k ba la hsA (by decide) ha hk) (cwV 3 hts gX6_pagesAt_X6_sizeOf rfl rfl rfl (by decide +kernel) ⟨(by decide +kernel), (by decide +kernel)⟩)  ⟨jb_R_blind, va_recv hK hP (ci := 6) (q0 := 0) rfl rfl, jb_R_pre (hP.sub (ws' := [(hM, .inr (6, [.ref mK, .ref mV, .ref mN, .int (nI per), .int (nI mem), .int (nI par), .ref mR, .ref mB, .ref mX, .ref m1, .ref m2, .ref m3, .ref m4, .ref m5, .int y.2.2.2.2.2.2.2.1, .int y.2.2.2.2.2.2.2.2.1, .int y.2.2.2.2.2.2.2.2.2.1, .int y.2.2.2.2.2.2.2.2.2.2.1, .int y.2.2.2.2.2.2.2.2.2.2.2.1, .int y.2.2.2.2.2.2.2.2.2.2.2.2.1, .int y.2.2.2.2.2.2.2.2.2.2.2.2.2.1, .int y.2.2.2.2.2.2.2.2.2.2.2.2.2.2, .ref m6, .ref m7])), (mK, .inl (cI, 1000, .inl Kf)), (mV, .inl (cI, 1000, .inl Vf)), (mN, .inl (cI, 2, .inl (jb_two nl nr))), (mR, .inl (cI, 10000, .inl Rf)), (mB, .inl (cI, 420, .inl Bf)), (mX, .inl (cI, 10, .inl Nf)), (m1, .inl (cI, 4000, .inl y.1)), (m2, .inl (cI, 4000, .inl y.2.1)), (m3, .inl (cI, 4000, .inl y.2.2.1)), (m4, .inl (cI, 4000, .inl y.2.2.2.1)), (m5, .inl (cI, 4000, .inl y.2.2.2.2.1)), (m6, .inl (cI, 4, .inl y.2.2.2.2.2.1)), (m7, .inl (cI, 1500, .inl y.2.2.2.2.2.2.1))]) [0, 1, 2, 3, 4, 5, 6, 7, 8, 9, 10, 11, 12, 13] rfl) hK hNw⟩ rfl rfl hl.1 rfl (lv_room (Nat.le_of_ble_eq_true rfl)) dX6_pagesAt_5 ⟨by decide +kernel, by decide +kernel⟩).run (fun r_1 hr_1 => ?_)
  subst hr_1
  refine vp_callSi (va_runV (As := [.int (nI la.length)]) (rest := []) ⟨hx, hb, hml, hown, hts⟩ (m_pagesOf l dC dI cI hM mK mV mN mR mB mX m1 m2 m3 m4 m5 m6 m7 Kf Vf nl nr per mem par Rf Bf Nf y la.length h1 (by omega) hp) (cwV 1 hts gX6_pagesAt_X6_pagesOf rfl rfl rfl (by decide +kernel) ⟨(by decide +kernel), (by decide +kernel)⟩)  ⟨jb_R_blind, va_recv hK hP (ci := 6) (q0 := 0) rfl rfl, jb_R_pre (hP.sub (ws' := [(hM, .inr (6, [.ref mK, .ref mV, .ref mN, .int (nI per), .int (nI mem), .int (nI par), .ref mR, .ref mB, .ref mX, .ref m1, .ref m2, .ref m3, .ref m4, .ref m5, .int y.2.2.2.2.2.2.2.1, .int y.2.2.2.2.2.2.2.2.1, .int y.2.2.2.2.2.2.2.2.2.1, .int y.2.2.2.2.2.2.2.2.2.2.1, .int y.2.2.2.2.2.2.2.2.2.2.2.1, .int y.2.2.2.2.2.2.2.2.2.2.2.2.1, .int y.2.2.2.2.2.2.2.2.2.2.2.2.2.1, .int y.2.2.2.2.2.2.2.2.2.2.2.2.2.2, .ref m6, .ref m7])), (mK, .inl (cI, 1000, .inl Kf)), (mV, .inl (cI, 1000, .inl Vf)), (mN, .inl (cI, 2, .inl (jb_two nl nr))), (mR, .inl (cI, 10000, .inl Rf)), (mB, .inl (cI, 420, .inl Bf)), (mX, .inl (cI, 10, .inl Nf)), (m1, .inl (cI, 4000, .inl y.1)), (m2, .inl (cI, 4000, .inl y.2.1)), (m3, .inl (cI, 4000, .inl y.2.2.1)), (m4, .inl (cI, 4000, .inl y.2.2.2.1)), (m5, .inl (cI, 4000, .inl y.2.2.2.2.1)), (m6, .inl (cI, 4, .inl y.2.2.2.2.2.1)), (m7, .inl (cI, 1500, .inl y.2.2.2.2.2.2.1))]) [0, 1, 2, 3, 4, 5, 6, 7, 8, 9, 10, 11, 12, 13] rfl) hK hNw⟩ rfl rfl hl.1 rfl (lv_room (Nat.le_of_ble_eq_true rfl)) dX6_pagesAt_8 ⟨by decide +kernel, by decide +kernel⟩).run (fun r_2 hr_2 => ?_)
  subst hr_2
  refine lv_aload_n hx hb dX6_pagesAt_11 rfl (lv_at hl 0 rfl) ?_
  refine lv_aload_n hx hb dX6_pagesAt_12 rfl (lv_at hl 0 rfl) ?_
  refine lv_iconst (v := 1) hx hb dX6_pagesAt_13 (by decide) ?_
  refine lv_iload_n hx hb dX6_pagesAt_14 rfl (lv_at hl 1 rfl) ?_
  refine lv_iload_n hx hb dX6_pagesAt_15 rfl (lv_at hl 2 rfl) ?_
  refine vp_callSi (va_runV (As := [.int 1, .int (nI a), .int (nI k)]) (rest := [.ref hM, .int (nI (jb_pg per la.length))]) ⟨hx, hb, hml, hown, hts⟩ (m_sizeOf l dC dI cI hM mK mV mN mR mB mX m1 m2 m3 m4 m5 m6 m7 Kf Vf nl nr per mem par Rf Bf Nf y 1 a k bb lb hsB (by decide) ha hk) (cwV 3 hts gX6_pagesAt_X6_sizeOf rfl rfl rfl (by decide +kernel) ⟨(by decide +kernel), (by decide +kernel)⟩)  ⟨jb_R_blind, va_recv hK hP (ci := 6) (q0 := 0) rfl rfl, jb_R_pre (hP.sub (ws' := [(hM, .inr (6, [.ref mK, .ref mV, .ref mN, .int (nI per), .int (nI mem), .int (nI par), .ref mR, .ref mB, .ref mX, .ref m1, .ref m2, .ref m3, .ref m4, .ref m5, .int y.2.2.2.2.2.2.2.1, .int y.2.2.2.2.2.2.2.2.1, .int y.2.2.2.2.2.2.2.2.2.1, .int y.2.2.2.2.2.2.2.2.2.2.1, .int y.2.2.2.2.2.2.2.2.2.2.2.1, .int y.2.2.2.2.2.2.2.2.2.2.2.2.1, .int y.2.2.2.2.2.2.2.2.2.2.2.2.2.1, .int y.2.2.2.2.2.2.2.2.2.2.2.2.2.2, .ref m6, .ref m7])), (mK, .inl (cI, 1000, .inl Kf)), (mV, .inl (cI, 1000, .inl Vf)), (mN, .inl (cI, 2, .inl (jb_two nl nr))), (mR, .inl (cI, 10000, .inl Rf)), (mB, .inl (cI, 420, .inl Bf)), (mX, .inl (cI, 10, .inl Nf)), (m1, .inl (cI, 4000, .inl y.1)), (m2, .inl (cI, 4000, .inl y.2.1)), (m3, .inl (cI, 4000, .inl y.2.2.1)), (m4, .inl (cI, 4000, .inl y.2.2.2.1)), (m5, .inl (cI, 4000, .inl y.2.2.2.2.1)), (m6, .inl (cI, 4, .inl y.2.2.2.2.2.1)), (m7, .inl (cI, 1500, .inl y.2.2.2.2.2.2.1))]) [0, 1, 2, 3, 4, 5, 6, 7, 8, 9, 10, 11, 12, 13] rfl) hK hNw⟩ rfl rfl hl.1 rfl (lv_room (Nat.le_of_ble_eq_true rfl)) dX6_pagesAt_16 ⟨by decide +kernel, by decide +kernel⟩).run (fun r_3 hr_3 => ?_)
  subst hr_3
  refine vp_callSi (va_runV (As := [.int (nI lb.length)]) (rest := [.int (nI (jb_pg per la.length))]) ⟨hx, hb, hml, hown, hts⟩ (m_pagesOf l dC dI cI hM mK mV mN mR mB mX m1 m2 m3 m4 m5 m6 m7 Kf Vf nl nr per mem par Rf Bf Nf y lb.length h1 (by omega) hp) (cwV 1 hts gX6_pagesAt_X6_pagesOf rfl rfl rfl (by decide +kernel) ⟨(by decide +kernel), (by decide +kernel)⟩)  ⟨jb_R_blind, va_recv hK hP (ci := 6) (q0 := 0) rfl rfl, jb_R_pre (hP.sub (ws' := [(hM, .inr (6, [.ref mK, .ref mV, .ref mN, .int (nI per), .int (nI mem), .int (nI par), .ref mR, .ref mB, .ref mX, .ref m1, .ref m2, .ref m3, .ref m4, .ref m5, .int y.2.2.2.2.2.2.2.1, .int y.2.2.2.2.2.2.2.2.1, .int y.2.2.2.2.2.2.2.2.2.1, .int y.2.2.2.2.2.2.2.2.2.2.1, .int y.2.2.2.2.2.2.2.2.2.2.2.1, .int y.2.2.2.2.2.2.2.2.2.2.2.2.1, .int y.2.2.2.2.2.2.2.2.2.2.2.2.2.1, .int y.2.2.2.2.2.2.2.2.2.2.2.2.2.2, .ref m6, .ref m7])), (mK, .inl (cI, 1000, .inl Kf)), (mV, .inl (cI, 1000, .inl Vf)), (mN, .inl (cI, 2, .inl (jb_two nl nr))), (mR, .inl (cI, 10000, .inl Rf)), (mB, .inl (cI, 420, .inl Bf)), (mX, .inl (cI, 10, .inl Nf)), (m1, .inl (cI, 4000, .inl y.1)), (m2, .inl (cI, 4000, .inl y.2.1)), (m3, .inl (cI, 4000, .inl y.2.2.1)), (m4, .inl (cI, 4000, .inl y.2.2.2.1)), (m5, .inl (cI, 4000, .inl y.2.2.2.2.1)), (m6, .inl (cI, 4, .inl y.2.2.2.2.2.1)), (m7, .inl (cI, 1500, .inl y.2.2.2.2.2.2.1))]) [0, 1, 2, 3, 4, 5, 6, 7, 8, 9, 10, 11, 12, 13] rfl) hK hNw⟩ rfl rfl hl.1 rfl (lv_room (Nat.le_of_ble_eq_true rfl)) dX6_pagesAt_19 ⟨by decide +kernel, by decide +kernel⟩).run (fun r_4 hr_4 => ?_)
  subst hr_4
  refine lv_iadd hx hb dX6_pagesAt_22 ?_
  refine lv_topi (fun v_5 ev_5 => ?_)
  have hv_5 : v_5 = nI (jb_pg per la.length + jb_pg per lb.length) := ev_5.trans (nI_add _ _)
  clear ev_5; subst hv_5
  exact W.iret (v := nI (jb_pg per la.length + jb_pg per lb.length)) hx hb hr (fun t ht hW => ⟨_, rfl, rfl, ht⟩) (fun _ h => by cases h) dX6_pagesAt_23
def jb_b2i (b : Bool) : Int32 := if b then 1 else 0
theorem jb_all_y {K : Nat → Int32} {key : Int32} {l : List Nat} (h : ∀ i, i < l.length → K (l.getD i 0) = key) : l.all (fun r => K r == key) = true := by
  rw [List.all_eq_true]
  intro r hr
  obtain ⟨i, hi, rfl⟩ := List.getElem_of_mem hr
  have := h i hi
  simp only [List.getD, List.getElem?_eq_getElem hi, Option.getD_some] at this
  simpa using this
theorem jb_all_n {K : Nat → Int32} {key : Int32} {l : List Nat} {i : Nat} (hi : i < l.length) (h : ¬ K (l.getD i 0) = key) : l.all (fun r => K r == key) = false := by
  cases hc : l.all (fun r => K r == key) with
  | false => rfl
  | true =>
    rw [List.all_eq_true] at hc
    exact absurd (by simpa using hc _ (jb_getD_mem hi)) h
set_option maxHeartbeats 1000000 in
set_option maxRecDepth 100000 in
/-- isOneKey -/
theorem m_isOneKey (l : Launch) (dC : Nat → ClassId) (dI : Nat → Nat → Nat) (cI : ClassId) (hM mK mV mN mR mB mX m1 m2 m3 m4 m5 m6 m7 : Nat) (Kf Vf : Nat → Int32) (nl nr per mem par : Nat) (Rf Bf Nf : Nat → Int32) (y : jmR) (a k ba bb : Nat) (la lb : List Nat) (hsA : jm_set Rf Bf 0 a k ba la) (hsB : jm_set Rf Bf 1 a k bb lb) (ha : a < 10) (hk : k < 20) (hb5 : ∀ r ∈ la, r < 500) (hb6 : ∀ r ∈ lb, r < 500) (hpos : 0 < la.length) : Met l yX6_isOneKey wsX6_isOneKey ({ frames := 4, cells := 0, slots := 0, locals := 160 } : Room) (va_Pc [.ref hM, .int (nI a), .int (nI k)] (jb_R dC dI cI [(hM, .inr (6, [.ref mK, .ref mV, .ref mN, .int (nI per), .int (nI mem), .int (nI par), .ref mR, .ref mB, .ref mX, .ref m1, .ref m2, .ref m3, .ref m4, .ref m5, .int y.2.2.2.2.2.2.2.1, .int y.2.2.2.2.2.2.2.2.1, .int y.2.2.2.2.2.2.2.2.2.1, .int y.2.2.2.2.2.2.2.2.2.2.1, .int y.2.2.2.2.2.2.2.2.2.2.2.1, .int y.2.2.2.2.2.2.2.2.2.2.2.2.1, .int y.2.2.2.2.2.2.2.2.2.2.2.2.2.1, .int y.2.2.2.2.2.2.2.2.2.2.2.2.2.2, .ref m6, .ref m7])), (mK, .inl (cI, 1000, .inl Kf)), (mV, .inl (cI, 1000, .inl Vf)), (mN, .inl (cI, 2, .inl (jb_two nl nr))), (mR, .inl (cI, 10000, .inl Rf)), (mB, .inl (cI, 420, .inl Bf)), (mX, .inl (cI, 10, .inl Nf)), (m1, .inl (cI, 4000, .inl y.1)), (m2, .inl (cI, 4000, .inl y.2.1)), (m3, .inl (cI, 4000, .inl y.2.2.1)), (m4, .inl (cI, 4000, .inl y.2.2.2.1)), (m5, .inl (cI, 4000, .inl y.2.2.2.2.1)), (m6, .inl (cI, 4, .inl y.2.2.2.2.2.1)), (m7, .inl (cI, 1500, .inl y.2.2.2.2.2.2.1))])) (vp_Si (fun r => r = jb_b2i (jb_one (jm_k Kf 0) (jm_k Kf 1) la lb))) 0 0 (fun _ => False) := by
  refine Met.ofW (cc := cX6_isOneKey) (maxL := 6) (ret := (some .boolean)) (by decide) rfl ?_
  intro p e s m args below meth c s₁ B hml hv
  obtain ⟨rfl, hP, hK, hNw⟩ := hv
  have hx := B.exec
  have hb := B.bytes
  have hr := B.returns
  have hts := atoms_spec (ws := wsX6_isOneKey) B.pre
  have hown : s.vm.findClass RX6 = some m.cls := findClass_of_methodNamed B.named
  have hlocks := B.notSynchronized
  have hl := lv_entry ([.ref hM, .int (nI a), .int (nI k)]) (n := 6) (Nat.le_of_ble_eq_true rfl)
  rw [lg_entry_eq]
  generalize (lg_sl ([.ref hM, .int (nI a), .int (nI k)]) ++ List.replicate (6 - (lg_sl ([.ref hM, .int (nI a), .int (nI k)])).length) Slot.unset).toArray = ls at hl ⊢
  have hl : lv_has ls 6 [(0, .ref hM), (1, .int (nI a)), (2, .int (nI k))] := hl
  refine lv_aload_n hx hb dX6_isOneKey_0 rfl (lv_at hl 0 rfl) ?_
  refine lv_iconst (v := 0) hx hb dX6_isOneKey_1 (by decide) ?_
  refine lv_iload_n hx hb dX6_isOneKey_2 rfl (lv_at hl 1 rfl) ?_
  refine lv_iload_n hx hb dX6_isOneKey_3 rfl (lv_at hl 2 rfl) ?_
  refine lv_iconst (v := 0) hx hb dX6_isOneKey_4 (by decide) ?_
  refine vp_callSi (va_runV (As := [.int 0, .int (nI a), .int (nI k), .int 0]) (rest := []) ⟨hx, hb, hml, hown, hts⟩ (m_keyAt l dC dI cI hM mK mV mN mR mB mX m1 m2 m3 m4 m5 m6 m7 Kf Vf nl nr per mem par Rf Bf Nf y 0 a k ba la hsA (by decide) ha hk 0 hpos (hb5 _ (jb_getD_mem hpos))) (cwV 4 hts gX6_isOneKey_X6_keyAt rfl rfl rfl (by decide +kernel) ⟨(by decide +kernel), (by decide +kernel)⟩)  ⟨jb_R_blind, va_recv hK hP (ci := 6) (q0 := 0) rfl rfl, jb_R_pre (hP.sub (ws' := [(hM, .inr (6, [.ref mK, .ref mV, .ref mN, .int (nI per), .int (nI mem), .int (nI par), .ref mR, .ref mB, .ref mX, .ref m1, .ref m2, .ref m3, .ref m4, .ref m5, .int y.2.2.2.2.2.2.2.1, .int y.2.2.2.2.2.2.2.2.1, .int y.2.2.2.2.2.2.2.2.2.1, .int y.2.2.2.2.2.2.2.2.2.2.1, .int y.2.2.2.2.2.2.2.2.2.2.2.1, .int y.2.2.2.2.2.2.2.2.2.2.2.2.1, .int y.2.2.2.2.2.2.2.2.2.2.2.2.2.1, .int y.2.2.2.2.2.2.2.2.2.2.2.2.2.2, .ref m6, .ref m7])), (mK, .inl (cI, 1000, .inl Kf)), (mV, .inl (cI, 1000, .inl Vf)), (mN, .inl (cI, 2, .inl (jb_two nl nr))), (mR, .inl (cI, 10000, .inl Rf)), (mB, .inl (cI, 420, .inl Bf)), (mX, .inl (cI, 10, .inl Nf)), (m1, .inl (cI, 4000, .inl y.1)), (m2, .inl (cI, 4000, .inl y.2.1)), (m3, .inl (cI, 4000, .inl y.2.2.1)), (m4, .inl (cI, 4000, .inl y.2.2.2.1)), (m5, .inl (cI, 4000, .inl y.2.2.2.2.1)), (m6, .inl (cI, 4, .inl y.2.2.2.2.2.1)), (m7, .inl (cI, 1500, .inl y.2.2.2.2.2.2.1))]) [0, 1, 2, 3, 4, 5, 6, 7, 8, 9, 10, 11, 12, 13] rfl) hK hNw⟩ rfl rfl hl.1 rfl (lv_room (Nat.le_of_ble_eq_true rfl)) dX6_isOneKey_5 ⟨by decide +kernel, by decide +kernel⟩).run (fun r_1 hr_1 => ?_)
  subst hr_1
  refine lv_istore_n (lv' := [(3, .int ((jm_k Kf 0) (la.getD 0 0))), (0, .ref hM), (1, .int (nI a)), (2, .int (nI k))]) hx hb dX6_isOneKey_8 rfl hl (by decide) rfl (fun ls hl => ?_)
  refine lv_iconst (v := 0) hx hb dX6_isOneKey_9 (by decide) ?_
  refine lv_istore (lv' := [(4, .int 0), (3, .int ((jm_k Kf 0) (la.getD 0 0))), (0, .ref hM), (1, .int (nI a)), (2, .int (nI k))]) hx hb dX6_isOneKey_10 hl (by decide) rfl (fun ls hl => ?_)
  refine lv_iload hx hb dX6_isOneKey_12 (lv_at hl 0 rfl) ?_
  refine lv_iconst (v := 2) hx hb dX6_isOneKey_14 (by decide) ?_
  refine lv_icmp_ge (tgt := 62) hx hb dX6_isOneKey_15 (by decide) (fun c_15 => ?_) (fun c_15 => ?_)
  · exact absurd c_15 (by decide)
  · refine lv_iconst (v := 0) hx hb dX6_isOneKey_18 (by decide) ?_
    refine lv_istore (lv' := [(5, .int 0), (4, .int 0), (3, .int ((jm_k Kf 0) (la.getD 0 0))), (0, .ref hM), (1, .int (nI a)), (2, .int (nI k))]) hx hb dX6_isOneKey_19 hl (by decide) rfl (fun ls hl => ?_)
    have hl_s0 : ∀ (k_s0 : Nat) (i : Nat), la.length - i < k_s0 → (i ≤ la.length) → (∀ j, j < i → (jm_k Kf 0) (la.getD j 0) = ((jm_k Kf 0) (la.getD 0 0))) → ∀ ls : Array Slot, lv_has ls 6 [(0, .ref hM), (1, .int (nI a)), (2, .int (nI k)), (3, .int ((jm_k Kf 0) (la.getD 0 0))), (4, .int 0), (5, .int (nI i))] → W p l e ({ frames := 4, cells := 0, slots := 0, locals := 160 } : Room) s m ([.ref hM, .int (nI a), .int (nI k)] : List Value).toArray below meth c s.heap [] 0 0 (MQ below (vp_Si (fun r => r = jb_b2i (jb_one (jm_k Kf 0) (jm_k Kf 1) la lb))) ([.ref hM, .int (nI a), .int (nI k)] : List Value).toArray s 0 0 (fun _ => False)) (F0 m 21 ls []) := by
      intro k_s0
      induction k_s0 with
      | zero => intro i hk; exact absurd hk (Nat.not_lt_zero _)
      | succ k_s0 ih_s0 =>
        intro i hk_s0 hi hall ls hl
        refine lv_iload hx hb dX6_isOneKey_21 (lv_at hl 5 rfl) ?_
        refine lv_aload_n hx hb dX6_isOneKey_23 rfl (lv_at hl 0 rfl) ?_
        refine lv_iload hx hb dX6_isOneKey_24 (lv_at hl 4 rfl) ?_
        refine lv_iload_n hx hb dX6_isOneKey_26 rfl (lv_at hl 1 rfl) ?_
        refine lv_iload_n hx hb dX6_isOneKey_27 rfl (lv_at hl 2 rfl) ?_
        refine vp_callSi (va_runV (As := [.int 0, .int (nI a), .int (nI k)]) (rest := [.int (nI i)]) ⟨hx, hb, hml, hown, hts⟩ (m_sizeOf l dC dI cI hM mK mV mN mR mB mX m1 m2 m3 m4 m5 m6 m7 Kf Vf nl nr per mem par Rf Bf Nf y 0 a k ba la hsA (by decide) ha hk) (cwV 3 hts gX6_isOneKey_X6_sizeOf rfl rfl rfl (by decide +kernel) ⟨(by decide +kernel), (by decide +kernel)⟩)  ⟨jb_R_blind, va_recv hK hP (ci := 6) (q0 := 0) rfl rfl, jb_R_pre (hP.sub (ws' := [(hM, .inr (6, [.ref mK, .ref mV, .ref mN, .int (nI per), .int (nI mem), .int (nI par), .ref mR, .ref mB, .ref mX, .ref m1, .ref m2, .ref m3, .ref m4, .ref m5, .int y.2.2.2.2.2.2.2.1, .int y.2.2.2.2.2.2.2.2.1, .int y.2.2.2.2.2.2.2.2.2.1, .int y.2.2.2.2.2.2.2.2.2.2.1, .int y.2.2.2.2.2.2.2.2.2.2.2.1, .int y.2.2.2.2.2.2.2.2.2.2.2.2.1, .int y.2.2.2.2.2.2.2.2.2.2.2.2.2.1, .int y.2.2.2.2.2.2.2.2.2.2.2.2.2.2, .ref m6, .ref m7])), (mK, .inl (cI, 1000, .inl Kf)), (mV, .inl (cI, 1000, .inl Vf)), (mN, .inl (cI, 2, .inl (jb_two nl nr))), (mR, .inl (cI, 10000, .inl Rf)), (mB, .inl (cI, 420, .inl Bf)), (mX, .inl (cI, 10, .inl Nf)), (m1, .inl (cI, 4000, .inl y.1)), (m2, .inl (cI, 4000, .inl y.2.1)), (m3, .inl (cI, 4000, .inl y.2.2.1)), (m4, .inl (cI, 4000, .inl y.2.2.2.1)), (m5, .inl (cI, 4000, .inl y.2.2.2.2.1)), (m6, .inl (cI, 4, .inl y.2.2.2.2.2.1)), (m7, .inl (cI, 1500, .inl y.2.2.2.2.2.2.1))]) [0, 1, 2, 3, 4, 5, 6, 7, 8, 9, 10, 11, 12, 13] rfl) hK hNw⟩ rfl rfl hl.1 rfl (lv_room (Nat.le_of_ble_eq_true rfl)) dX6_isOneKey_28 ⟨by decide +kernel, by decide +kernel⟩).run (fun r_2 hr_2 => ?_)
        subst hr_2
        refine lv_icmp_ge (tgt := 56) hx hb dX6_isOneKey_31 (by decide) (fun c_31 => ?_) (fun c_31 => ?_)
        · have hle_la := hsA.2.2.1
          have hge : i = la.length := by have := (nI_leI (a := la.length) (b := i) (by omega) (by omega)).mp c_31; omega
          have hall_la : ∀ j, j < la.length → (jm_k Kf 0) (la.getD j 0) = ((jm_k Kf 0) (la.getD 0 0)) := by rw [← hge]; exact hall
          refine lv_iinc (v := 1) (lv' := [(4, .int 1), (0, .ref hM), (1, .int (nI a)), (2, .int (nI k)), (3, .int ((jm_k Kf 0) (la.getD 0 0))), (5, .int (nI i))]) hx hb dX6_isOneKey_56 hl (k := 4) rfl (by decide) (by decide) rfl (fun ls hl => ?_)
          refine lv_goto (tgt := 12) hx hb dX6_isOneKey_59 (by decide) ?_
          refine lv_iload hx hb dX6_isOneKey_12 (lv_at hl 0 rfl) ?_
          refine lv_iconst (v := 2) hx hb dX6_isOneKey_14 (by decide) ?_
          refine lv_icmp_ge (tgt := 62) hx hb dX6_isOneKey_15 (by decide) (fun c_15 => ?_) (fun c_15 => ?_)
          · exact absurd c_15 (by decide)
          · refine lv_iconst (v := 0) hx hb dX6_isOneKey_18 (by decide) ?_
            refine lv_istore (lv' := [(5, .int 0), (4, .int 1), (0, .ref hM), (1, .int (nI a)), (2, .int (nI k)), (3, .int ((jm_k Kf 0) (la.getD 0 0)))]) hx hb dX6_isOneKey_19 hl (by decide) rfl (fun ls hl => ?_)
            have hl_s1 : ∀ (k_s1 : Nat) (i : Nat), lb.length - i < k_s1 → (i ≤ lb.length) → (∀ j, j < i → (jm_k Kf 1) (lb.getD j 0) = ((jm_k Kf 0) (la.getD 0 0))) → ∀ ls : Array Slot, lv_has ls 6 [(0, .ref hM), (1, .int (nI a)), (2, .int (nI k)), (3, .int ((jm_k Kf 0) (la.getD 0 0))), (4, .int 1), (5, .int (nI i))] → W p l e ({ frames := 4, cells := 0, slots := 0, locals := 160 } : Room) s m ([.ref hM, .int (nI a), .int (nI k)] : List Value).toArray below meth c s.heap [] 0 0 (MQ below (vp_Si (fun r => r = jb_b2i (jb_one (jm_k Kf 0) (jm_k Kf 1) la lb))) ([.ref hM, .int (nI a), .int (nI k)] : List Value).toArray s 0 0 (fun _ => False)) (F0 m 21 ls []) := by
              intro k_s1
              induction k_s1 with
              | zero => intro i hk; exact absurd hk (Nat.not_lt_zero _)
              | succ k_s1 ih_s1 =>
                intro i hk_s1 hi hall ls hl
                refine lv_iload hx hb dX6_isOneKey_21 (lv_at hl 5 rfl) ?_
                refine lv_aload_n hx hb dX6_isOneKey_23 rfl (lv_at hl 0 rfl) ?_
                refine lv_iload hx hb dX6_isOneKey_24 (lv_at hl 4 rfl) ?_
                refine lv_iload_n hx hb dX6_isOneKey_26 rfl (lv_at hl 1 rfl) ?_
                refine lv_iload_n hx hb dX6_isOneKey_27 rfl (lv_at hl 2 rfl) ?_
                refine vp_callSi (va_runV (As := [.int 1, .int (nI a), .int (nI k)]) (rest := [.int (nI i)]) ⟨hx, hb, hml, hown, hts⟩ (m_sizeOf l dC dI cI hM mK mV mN mR mB mX m1 m2 m3 m4 m5 m6 m7 Kf Vf nl nr per mem par Rf Bf Nf y 1 a k bb lb hsB (by decide) ha hk) (cwV 3 hts gX6_isOneKey_X6_sizeOf rfl rfl rfl (by decide +kernel) ⟨(by decide +kernel), (by decide +kernel)⟩)  ⟨jb_R_blind, va_recv hK hP (ci := 6) (q0 := 0) rfl rfl, jb_R_pre (hP.sub (ws' := [(hM, .inr (6, [.ref mK, .ref mV, .ref mN, .int (nI per), .int (nI mem), .int (nI par), .ref mR, .ref mB, .ref mX, .ref m1, .ref m2, .ref m3, .ref m4, .ref m5, .int y.2.2.2.2.2.2.2.1, .int y.2.2.2.2.2.2.2.2.1, .int y.2.2.2.2.2.2.2.2.2.1, .int y.2.2.2.2.2.2.2.2.2.2.1, .int y.2.2.2.2.2.2.2.2.2.2.2.1, .int y.2.2.2.2.2.2.2.2.2.2.2.2.1, .int y.2.2.2.2.2.2.2.2.2.2.2.2.2.1, .int y.2.2.2.2.2.2.2.2.2.2.2.2.2.2, .ref m6, .ref m7])), (mK, .inl (cI, 1000, .inl Kf)), (mV, .inl (cI, 1000, .inl Vf)), (mN, .inl (cI, 2, .inl (jb_two nl nr))), (mR, .inl (cI, 10000, .inl Rf)), (mB, .inl (cI, 420, .inl Bf)), (mX, .inl (cI, 10, .inl Nf)), (m1, .inl (cI, 4000, .inl y.1)), (m2, .inl (cI, 4000, .inl y.2.1)), (m3, .inl (cI, 4000, .inl y.2.2.1)), (m4, .inl (cI, 4000, .inl y.2.2.2.1)), (m5, .inl (cI, 4000, .inl y.2.2.2.2.1)), (m6, .inl (cI, 4, .inl y.2.2.2.2.2.1)), (m7, .inl (cI, 1500, .inl y.2.2.2.2.2.2.1))]) [0, 1, 2, 3, 4, 5, 6, 7, 8, 9, 10, 11, 12, 13] rfl) hK hNw⟩ rfl rfl hl.1 rfl (lv_room (Nat.le_of_ble_eq_true rfl)) dX6_isOneKey_28 ⟨by decide +kernel, by decide +kernel⟩).run (fun r_3 hr_3 => ?_)
                subst hr_3
                refine lv_icmp_ge (tgt := 56) hx hb dX6_isOneKey_31 (by decide) (fun c_31 => ?_) (fun c_31 => ?_)
                · have hle_lb := hsB.2.2.1
                  have hge : i = lb.length := by have := (nI_leI (a := lb.length) (b := i) (by omega) (by omega)).mp c_31; omega
                  have hall_lb : ∀ j, j < lb.length → (jm_k Kf 1) (lb.getD j 0) = ((jm_k Kf 0) (la.getD 0 0)) := by rw [← hge]; exact hall
                  refine lv_iinc (v := 2) (lv' := [(4, .int 2), (0, .ref hM), (1, .int (nI a)), (2, .int (nI k)), (3, .int ((jm_k Kf 0) (la.getD 0 0))), (5, .int (nI i))]) hx hb dX6_isOneKey_56 hl (k := 4) rfl (by decide) (by decide) rfl (fun ls hl => ?_)
                  refine lv_goto (tgt := 12) hx hb dX6_isOneKey_59 (by decide) ?_
                  refine lv_iload hx hb dX6_isOneKey_12 (lv_at hl 0 rfl) ?_
                  refine lv_iconst (v := 2) hx hb dX6_isOneKey_14 (by decide) ?_
                  refine lv_icmp_ge (tgt := 62) hx hb dX6_isOneKey_15 (by decide) (fun c_15 => ?_) (fun c_15 => ?_)
                  · refine lv_iconst (v := 1) hx hb dX6_isOneKey_62 (by decide) ?_
                    exact W.zret (v := 1) hx hb hr (by first | rfl | decide | (split <;> rfl)) (fun t ht hW => ⟨_, rfl, by unfold jb_one; rw [jb_all_y hall_la, jb_all_y hall_lb]; rfl, ht⟩) (fun _ h => by cases h) dX6_isOneKey_63
                  · exact absurd (by decide) c_15
                · have hle_lb := hsB.2.2.1
                  have hlt : i < lb.length := (jb_nle (a := lb.length) (b := i) (by omega) (by omega)).mp c_31
                  refine lv_aload_n hx hb dX6_isOneKey_34 rfl (lv_at hl 0 rfl) ?_
                  refine lv_iload hx hb dX6_isOneKey_35 (lv_at hl 4 rfl) ?_
                  refine lv_iload_n hx hb dX6_isOneKey_37 rfl (lv_at hl 1 rfl) ?_
                  refine lv_iload_n hx hb dX6_isOneKey_38 rfl (lv_at hl 2 rfl) ?_
                  refine lv_iload hx hb dX6_isOneKey_39 (lv_at hl 5 rfl) ?_
                  refine vp_callSi (va_runV (As := [.int 1, .int (nI a), .int (nI k), .int (nI i)]) (rest := []) ⟨hx, hb, hml, hown, hts⟩ (m_keyAt l dC dI cI hM mK mV mN mR mB mX m1 m2 m3 m4 m5 m6 m7 Kf Vf nl nr per mem par Rf Bf Nf y 1 a k bb lb hsB (by decide) ha hk i hlt (hb6 _ (jb_getD_mem hlt))) (cwV 4 hts gX6_isOneKey_X6_keyAt rfl rfl rfl (by decide +kernel) ⟨(by decide +kernel), (by decide +kernel)⟩)  ⟨jb_R_blind, va_recv hK hP (ci := 6) (q0 := 0) rfl rfl, jb_R_pre (hP.sub (ws' := [(hM, .inr (6, [.ref mK, .ref mV, .ref mN, .int (nI per), .int (nI mem), .int (nI par), .ref mR, .ref mB, .ref mX, .ref m1, .ref m2, .ref m3, .ref m4, .ref m5, .int y.2.2.2.2.2.2.2.1, .int y.2.2.2.2.2.2.2.2.1, .int y.2.2.2.2.2.2.2.2.2.1, .int y.2.2.2.2.2.2.2.2.2.2.1, .int y.2.2.2.2.2.2.2.2.2.2.2.1, .int y.2.2.2.2.2.2.2.2.2.2.2.2.1, .int y.2.2.2.2.2.2.2.2.2.2.2.2.2.1, .int y.2.2.2.2.2.2.2.2.2.2.2.2.2.2, .ref m6, .ref m7])), (mK, .inl (cI, 1000, .inl Kf)), (mV, .inl (cI, 1000, .inl Vf)), (mN, .inl (cI, 2, .inl (jb_two nl nr))), (mR, .inl (cI, 10000, .inl Rf)), (mB, .inl (cI, 420, .inl Bf)), (mX, .inl (cI, 10, .inl Nf)), (m1, .inl (cI, 4000, .inl y.1)), (m2, .inl (cI, 4000, .inl y.2.1)), (m3, .inl (cI, 4000, .inl y.2.2.1)), (m4, .inl (cI, 4000, .inl y.2.2.2.1)), (m5, .inl (cI, 4000, .inl y.2.2.2.2.1)), (m6, .inl (cI, 4, .inl y.2.2.2.2.2.1)), (m7, .inl (cI, 1500, .inl y.2.2.2.2.2.2.1))]) [0, 1, 2, 3, 4, 5, 6, 7, 8, 9, 10, 11, 12, 13] rfl) hK hNw⟩ rfl rfl hl.1 rfl (lv_room (Nat.le_of_ble_eq_true rfl)) dX6_isOneKey_41 ⟨by decide +kernel, by decide +kernel⟩).run (fun r_4 hr_4 => ?_)
                  subst hr_4
                  refine lv_iload_n hx hb dX6_isOneKey_44 rfl (lv_at hl 3 rfl) ?_
                  refine lv_icmp_eq (tgt := 50) hx hb dX6_isOneKey_45 (by decide) (fun c_45 => ?_) (fun c_45 => ?_)
                  · refine lv_iinc (v := nI (i + 1)) (lv' := [(5, .int (nI (i + 1))), (0, .ref hM), (1, .int (nI a)), (2, .int (nI k)), (3, .int ((jm_k Kf 0) (la.getD 0 0))), (4, .int 1)]) hx hb dX6_isOneKey_50 hl (k := 5) rfl (nI_1 i) (by decide) rfl (fun ls hl => ?_)
                    refine lv_goto (tgt := 21) hx hb dX6_isOneKey_53 (by decide) ?_
                    exact ih_s1 (i + 1) (by omega) hlt (lt_s hall c_45) ls (lv_sub hl [1, 2, 3, 4, 5, 0] rfl)
                  · refine lv_iconst (v := 0) hx hb dX6_isOneKey_48 (by decide) ?_
                    exact W.zret (v := 0) hx hb hr (by first | rfl | decide | (split <;> rfl)) (fun t ht hW => ⟨_, rfl, by unfold jb_one; rw [jb_all_n hlt c_45, Bool.and_false]; rfl, ht⟩) (fun _ h => by cases h) dX6_isOneKey_49
            exact hl_s1 (lb.length - 0 + 1) 0 (by omega) (Nat.zero_le _) (fun j h => absurd h (Nat.not_lt_zero j)) ls (lv_sub hl [2, 3, 4, 5, 1, 0] rfl)
        · have hle_la := hsA.2.2.1
          have hlt : i < la.length := (jb_nle (a := la.length) (b := i) (by omega) (by omega)).mp c_31
          refine lv_aload_n hx hb dX6_isOneKey_34 rfl (lv_at hl 0 rfl) ?_
          refine lv_iload hx hb dX6_isOneKey_35 (lv_at hl 4 rfl) ?_
          refine lv_iload_n hx hb dX6_isOneKey_37 rfl (lv_at hl 1 rfl) ?_
          refine lv_iload_n hx hb dX6_isOneKey_38 rfl (lv_at hl 2 rfl) ?_
          refine lv_iload hx hb dX6_isOneKey_39 (lv_at hl 5 rfl) ?_
          refine vp_callSi (va_runV (As := [.int 0, .int (nI a), .int (nI k), .int (nI i)]) (rest := []) ⟨hx, hb, hml, hown, hts⟩ (m_keyAt l dC dI cI hM mK mV mN mR mB mX m1 m2 m3 m4 m5 m6 m7 Kf Vf nl nr per mem par Rf Bf Nf y 0 a k ba la hsA (by decide) ha hk i hlt (hb5 _ (jb_getD_mem hlt))) (cwV 4 hts gX6_isOneKey_X6_keyAt rfl rfl rfl (by decide +kernel) ⟨(by decide +kernel), (by decide +kernel)⟩)  ⟨jb_R_blind, va_recv hK hP (ci := 6) (q0 := 0) rfl rfl, jb_R_pre (hP.sub (ws' := [(hM, .inr (6, [.ref mK, .ref mV, .ref mN, .int (nI per), .int (nI mem), .int (nI par), .ref mR, .ref mB, .ref mX, .ref m1, .ref m2, .ref m3, .ref m4, .ref m5, .int y.2.2.2.2.2.2.2.1, .int y.2.2.2.2.2.2.2.2.1, .int y.2.2.2.2.2.2.2.2.2.1, .int y.2.2.2.2.2.2.2.2.2.2.1, .int y.2.2.2.2.2.2.2.2.2.2.2.1, .int y.2.2.2.2.2.2.2.2.2.2.2.2.1, .int y.2.2.2.2.2.2.2.2.2.2.2.2.2.1, .int y.2.2.2.2.2.2.2.2.2.2.2.2.2.2, .ref m6, .ref m7])), (mK, .inl (cI, 1000, .inl Kf)), (mV, .inl (cI, 1000, .inl Vf)), (mN, .inl (cI, 2, .inl (jb_two nl nr))), (mR, .inl (cI, 10000, .inl Rf)), (mB, .inl (cI, 420, .inl Bf)), (mX, .inl (cI, 10, .inl Nf)), (m1, .inl (cI, 4000, .inl y.1)), (m2, .inl (cI, 4000, .inl y.2.1)), (m3, .inl (cI, 4000, .inl y.2.2.1)), (m4, .inl (cI, 4000, .inl y.2.2.2.1)), (m5, .inl (cI, 4000, .inl y.2.2.2.2.1)), (m6, .inl (cI, 4, .inl y.2.2.2.2.2.1)), (m7, .inl (cI, 1500, .inl y.2.2.2.2.2.2.1))]) [0, 1, 2, 3, 4, 5, 6, 7, 8, 9, 10, 11, 12, 13] rfl) hK hNw⟩ rfl rfl hl.1 rfl (lv_room (Nat.le_of_ble_eq_true rfl)) dX6_isOneKey_41 ⟨by decide +kernel, by decide +kernel⟩).run (fun r_5 hr_5 => ?_)
          subst hr_5
          refine lv_iload_n hx hb dX6_isOneKey_44 rfl (lv_at hl 3 rfl) ?_
          refine lv_icmp_eq (tgt := 50) hx hb dX6_isOneKey_45 (by decide) (fun c_45 => ?_) (fun c_45 => ?_)
          · refine lv_iinc (v := nI (i + 1)) (lv' := [(5, .int (nI (i + 1))), (0, .ref hM), (1, .int (nI a)), (2, .int (nI k)), (3, .int ((jm_k Kf 0) (la.getD 0 0))), (4, .int 0)]) hx hb dX6_isOneKey_50 hl (k := 5) rfl (nI_1 i) (by decide) rfl (fun ls hl => ?_)
            refine lv_goto (tgt := 21) hx hb dX6_isOneKey_53 (by decide) ?_
            exact ih_s0 (i + 1) (by omega) hlt (lt_s hall c_45) ls (lv_sub hl [1, 2, 3, 4, 5, 0] rfl)
          · refine lv_iconst (v := 0) hx hb dX6_isOneKey_48 (by decide) ?_
            exact W.zret (v := 0) hx hb hr (by first | rfl | decide | (split <;> rfl)) (fun t ht hW => ⟨_, rfl, by unfold jb_one; rw [jb_all_n hlt c_45]; rfl, ht⟩) (fun _ h => by cases h) dX6_isOneKey_49
    exact hl_s0 (la.length - 0 + 1) 0 (by omega) (Nat.zero_le _) (fun j h => absurd h (Nat.not_lt_zero j)) ls (lv_sub hl [3, 4, 5, 2, 1, 0] rfl)
