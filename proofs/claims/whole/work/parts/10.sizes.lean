/-! PER, MEMORY, PARTINGS: the class JoinBench$Sizes (X3) -/
/-- what 'now' holds -/
def jb_now (per mem par : Nat) : Nat → Int32 := fun k => if k = 0 then nI per else if k = 1 then nI mem else nI par
/-- pages of n rows -/
def jb_pg (per n : Nat) : Nat := (n + per - 1) / per
/-- the hash -/
def jb_hash (key lv : Int32) : Int32 :=
  let h1 := key * (-1640531527) + lv * 1013904243
  let h2 := h1 ^^^ (h1.toUInt32 >>> ((15 : Int32).toUInt32 &&& Int32.toUInt32 31)).toInt32
  let h3 := h2 * (-2048144777)
  h3 ^^^ (h3.toUInt32 >>> ((13 : Int32).toUInt32 &&& Int32.toUInt32 31)).toInt32
/-- the part of a key at a level -/
def jb_pt (mem : Nat) (key lv : Int32) : Nat := (jb_hash key lv).toBitVec.toNat % (mem - 1)
theorem jb_un (h : Int32) : h.toInt64 &&& 4294967295 = lN h.toBitVec.toNat := by
  apply Int64.toBitVec_inj.mp
  have hb : (lN h.toBitVec.toNat).toBitVec = BitVec.ofNat 64 h.toBitVec.toNat := by
    show (Int64.ofNat _).toBitVec = _
    rfl
  rw [hb]
  show h.toInt64.toBitVec &&& 4294967295#64 = _
  have hs : h.toInt64.toBitVec = h.toBitVec.signExtend 64 := rfl
  rw [hs]
  generalize h.toBitVec = x
  apply BitVec.eq_of_getElem_eq
  intro i hi
  have h2 : (BitVec.ofNat 64 x.toNat) = x.setWidth 64 := by
    apply BitVec.eq_of_toNat_eq
    simp [BitVec.toNat_setWidth]
  rw [h2]
  by_cases hlt : i < 32
  · have hm : (4294967295#64).getLsbD i = true := by
      have : ∀ j, j < 32 → (4294967295#64).getLsbD j = true := by decide
      exact this i hlt
    simp [BitVec.getLsbD_signExtend, hlt, hi, BitVec.getElem_setWidth, ← BitVec.getLsbD_eq_getElem, hm]
  · have hm : (4294967295#64).getLsbD i = false := by
      have : ∀ j, j < 64 → ¬ j < 32 → (4294967295#64).getLsbD j = false := by decide
      exact this i hi hlt
    have h3 : x.getLsbD i = false := BitVec.getLsbD_of_ge x i (by omega)
    simp [BitVec.getElem_setWidth, ← BitVec.getLsbD_eq_getElem, hm, h3]
theorem jb_nmul (a b : Nat) : nI a * nI b = nI (a * b) := by
  unfold nI
  exact (Int32.ofNat_mul a b).symm
theorem jb_pgpos {per n : Nat} (h1 : 1 ≤ per) (hn : n < 1000000) (hp : per ≤ 16) : (nI n + nI per - 1) / nI per = nI (jb_pg per n) := by
  have e1 : nI n + nI per - 1 = nI (n + per - 1) := by
    rw [nI_add, show (1 : Int32) = nI 1 from rfl, pk_sub (by omega)]
  rw [e1, pk_div (by omega) (by omega) (by omega)]
  rfl
theorem iX3_memory_X3 : ∀ w ∈ wsX30, w ∈ wsX3_memory := by decide +kernel
set_option maxHeartbeats 1000000 in
set_option maxRecDepth 100000 in
/-- Sizes.memory() -/
theorem c_memory (l : Launch) (dC : Nat → ClassId) (dI : Nat → Nat → Nat) (cI : ClassId) (aS aN per mem par : Nat) : Met l yX3_memory wsX3_memory ({ frames := 2, cells := 0, slots := 0, locals := 80 } : Room) (va_Pc [.ref aS] (jb_R dC dI cI [(aS, .inr (3, [.ref aN])), (aN, .inl (cI, 3, .inl (jb_now per mem par)))])) (vp_Si (fun r => r = nI mem)) 0 0 (fun _ => False) := by
  refine Met.ofW (cc := cX3_memory) (maxL := 1) (ret := (some .int)) (by decide) rfl ?_
  intro p e s m args below meth c s₁ B hml hv
  obtain ⟨rfl, hP, hK, hNw⟩ := hv
  have hx := B.exec
  have hb := B.bytes
  have hr := B.returns
  have hts := atoms_spec (ws := wsX3_memory) B.pre
  have hown : s.vm.findClass RX3 = some m.cls := findClass_of_methodNamed B.named
  have hlocks := B.notSynchronized
  have hl := lv_entry ([.ref aS]) (n := 1) (Nat.le_of_ble_eq_true rfl)
  rw [lg_entry_eq]
  generalize (lg_sl ([.ref aS]) ++ List.replicate (1 - (lg_sl ([.ref aS])).length) Slot.unset).toArray = ls at hl ⊢
  have hl : lv_has ls 1 [(0, .ref aS)] := hl
  refine lv_aload_n hx hb dX3_memory_0 rfl (lv_at hl 0 rfl) ?_
  refine va_get (D := (dC, dI)) (ci := 3) (v := .ref aN) (C := RX3) (T := TX3) (N := 1) hx hb hts iX3_memory_X3 hown hK hP 0 rfl rfl 0 (by decide) (hts (.fieldLink RX3 20 "JoinBench$Sizes" "now" "[I") (by decide +kernel)) (fun _ h9 => h9) rfl dX3_memory_1 ?_
  refine lv_iconst (v := 1) hx hb dX3_memory_4 (by decide) ?_
  refine va_iald hx hb hK hP 1 0 rfl rfl (i := 1) (by unfold vp_in; decide) dX3_memory_5 ?_
  refine lv_topi (fun v_1 ev_1 => ?_)
  have hv_1 : v_1 = nI mem := ev_1.trans (rfl)
  clear ev_1; subst hv_1
  exact W.iret (v := nI mem) hx hb hr (fun t ht hW => ⟨_, rfl, rfl, ht⟩) (fun _ h => by cases h) dX3_memory_6
theorem iX3_partings_X3 : ∀ w ∈ wsX30, w ∈ wsX3_partings := by decide +kernel
set_option maxHeartbeats 1000000 in
set_option maxRecDepth 100000 in
/-- Sizes.partings() -/
theorem c_partings (l : Launch) (dC : Nat → ClassId) (dI : Nat → Nat → Nat) (cI : ClassId) (aS aN per mem par : Nat) : Met l yX3_partings wsX3_partings ({ frames := 2, cells := 0, slots := 0, locals := 80 } : Room) (va_Pc [.ref aS] (jb_R dC dI cI [(aS, .inr (3, [.ref aN])), (aN, .inl (cI, 3, .inl (jb_now per mem par)))])) (vp_Si (fun r => r = nI par)) 0 0 (fun _ => False) := by
  refine Met.ofW (cc := cX3_partings) (maxL := 1) (ret := (some .int)) (by decide) rfl ?_
  intro p e s m args below meth c s₁ B hml hv
  obtain ⟨rfl, hP, hK, hNw⟩ := hv
  have hx := B.exec
  have hb := B.bytes
  have hr := B.returns
  have hts := atoms_spec (ws := wsX3_partings) B.pre
  have hown : s.vm.findClass RX3 = some m.cls := findClass_of_methodNamed B.named
  have hlocks := B.notSynchronized
  have hl := lv_entry ([.ref aS]) (n := 1) (Nat.le_of_ble_eq_true rfl)
  rw [lg_entry_eq]
  generalize (lg_sl ([.ref aS]) ++ List.replicate (1 - (lg_sl ([.ref aS])).length) Slot.unset).toArray = ls at hl ⊢
  have hl : lv_has ls 1 [(0, .ref aS)] := hl
  refine lv_aload_n hx hb dX3_partings_0 rfl (lv_at hl 0 rfl) ?_
  refine va_get (D := (dC, dI)) (ci := 3) (v := .ref aN) (C := RX3) (T := TX3) (N := 1) hx hb hts iX3_partings_X3 hown hK hP 0 rfl rfl 0 (by decide) (hts (.fieldLink RX3 20 "JoinBench$Sizes" "now" "[I") (by decide +kernel)) (fun _ h9 => h9) rfl dX3_partings_1 ?_
  refine lv_iconst (v := 2) hx hb dX3_partings_4 (by decide) ?_
  refine va_iald hx hb hK hP 1 0 rfl rfl (i := 2) (by unfold vp_in; decide) dX3_partings_5 ?_
  refine lv_topi (fun v_1 ev_1 => ?_)
  have hv_1 : v_1 = nI par := ev_1.trans (rfl)
  clear ev_1; subst hv_1
  exact W.iret (v := nI par) hx hb hr (fun t ht hW => ⟨_, rfl, rfl, ht⟩) (fun _ h => by cases h) dX3_partings_6
theorem iX3_parts_X3 : ∀ w ∈ wsX30, w ∈ wsX3_parts := by decide +kernel
set_option maxHeartbeats 1000000 in
set_option maxRecDepth 100000 in
/-- Sizes.parts() -/
theorem c_parts (l : Launch) (dC : Nat → ClassId) (dI : Nat → Nat → Nat) (cI : ClassId) (aS aN per mem par : Nat) (hm : 3 ≤ mem) : Met l yX3_parts wsX3_parts ({ frames := 2, cells := 0, slots := 0, locals := 80 } : Room) (va_Pc [.ref aS] (jb_R dC dI cI [(aS, .inr (3, [.ref aN])), (aN, .inl (cI, 3, .inl (jb_now per mem par)))])) (vp_Si (fun r => r = nI (mem - 1))) 0 0 (fun _ => False) := by
  refine Met.ofW (cc := cX3_parts) (maxL := 1) (ret := (some .int)) (by decide) rfl ?_
  intro p e s m args below meth c s₁ B hml hv
  obtain ⟨rfl, hP, hK, hNw⟩ := hv
  have hx := B.exec
  have hb := B.bytes
  have hr := B.returns
  have hts := atoms_spec (ws := wsX3_parts) B.pre
  have hown : s.vm.findClass RX3 = some m.cls := findClass_of_methodNamed B.named
  have hlocks := B.notSynchronized
  have hl := lv_entry ([.ref aS]) (n := 1) (Nat.le_of_ble_eq_true rfl)
  rw [lg_entry_eq]
  generalize (lg_sl ([.ref aS]) ++ List.replicate (1 - (lg_sl ([.ref aS])).length) Slot.unset).toArray = ls at hl ⊢
  have hl : lv_has ls 1 [(0, .ref aS)] := hl
  refine lv_aload_n hx hb dX3_parts_0 rfl (lv_at hl 0 rfl) ?_
  refine va_get (D := (dC, dI)) (ci := 3) (v := .ref aN) (C := RX3) (T := TX3) (N := 1) hx hb hts iX3_parts_X3 hown hK hP 0 rfl rfl 0 (by decide) (hts (.fieldLink RX3 20 "JoinBench$Sizes" "now" "[I") (by decide +kernel)) (fun _ h9 => h9) rfl dX3_parts_1 ?_
  refine lv_iconst (v := 1) hx hb dX3_parts_4 (by decide) ?_
  refine va_iald hx hb hK hP 1 0 rfl rfl (i := 1) (by unfold vp_in; decide) dX3_parts_5 ?_
  refine lv_topi (fun v_1 ev_1 => ?_)
  have hv_1 : v_1 = nI mem := ev_1.trans (rfl)
  clear ev_1; subst hv_1
  refine lv_iconst (v := 1) hx hb dX3_parts_6 (by decide) ?_
  refine lv_isub hx hb dX3_parts_7 ?_
  refine lv_topi (fun v_2 ev_2 => ?_)
  have hv_2 : v_2 = nI (mem - 1) := ev_2.trans (pk_sub (a := mem) (b := 1) (by omega))
  clear ev_2; subst hv_2
  exact W.iret (v := nI (mem - 1)) hx hb hr (fun t ht hW => ⟨_, rfl, rfl, ht⟩) (fun _ h => by cases h) dX3_parts_8
theorem iX3_blockPages_X3 : ∀ w ∈ wsX30, w ∈ wsX3_blockPages := by decide +kernel
set_option maxHeartbeats 1000000 in
set_option maxRecDepth 100000 in
/-- Sizes.blockPages() -/
theorem c_blockPages (l : Launch) (dC : Nat → ClassId) (dI : Nat → Nat → Nat) (cI : ClassId) (aS aN per mem par : Nat) (hm : 3 ≤ mem) : Met l yX3_blockPages wsX3_blockPages ({ frames := 2, cells := 0, slots := 0, locals := 80 } : Room) (va_Pc [.ref aS] (jb_R dC dI cI [(aS, .inr (3, [.ref aN])), (aN, .inl (cI, 3, .inl (jb_now per mem par)))])) (vp_Si (fun r => r = nI (mem - 2))) 0 0 (fun _ => False) := by
  refine Met.ofW (cc := cX3_blockPages) (maxL := 1) (ret := (some .int)) (by decide) rfl ?_
  intro p e s m args below meth c s₁ B hml hv
  obtain ⟨rfl, hP, hK, hNw⟩ := hv
  have hx := B.exec
  have hb := B.bytes
  have hr := B.returns
  have hts := atoms_spec (ws := wsX3_blockPages) B.pre
  have hown : s.vm.findClass RX3 = some m.cls := findClass_of_methodNamed B.named
  have hlocks := B.notSynchronized
  have hl := lv_entry ([.ref aS]) (n := 1) (Nat.le_of_ble_eq_true rfl)
  rw [lg_entry_eq]
  generalize (lg_sl ([.ref aS]) ++ List.replicate (1 - (lg_sl ([.ref aS])).length) Slot.unset).toArray = ls at hl ⊢
  have hl : lv_has ls 1 [(0, .ref aS)] := hl
  refine lv_aload_n hx hb dX3_blockPages_0 rfl (lv_at hl 0 rfl) ?_
  refine va_get (D := (dC, dI)) (ci := 3) (v := .ref aN) (C := RX3) (T := TX3) (N := 1) hx hb hts iX3_blockPages_X3 hown hK hP 0 rfl rfl 0 (by decide) (hts (.fieldLink RX3 20 "JoinBench$Sizes" "now" "[I") (by decide +kernel)) (fun _ h9 => h9) rfl dX3_blockPages_1 ?_
  refine lv_iconst (v := 1) hx hb dX3_blockPages_4 (by decide) ?_
  refine va_iald hx hb hK hP 1 0 rfl rfl (i := 1) (by unfold vp_in; decide) dX3_blockPages_5 ?_
  refine lv_topi (fun v_1 ev_1 => ?_)
  have hv_1 : v_1 = nI mem := ev_1.trans (rfl)
  clear ev_1; subst hv_1
  refine lv_iconst (v := 2) hx hb dX3_blockPages_6 (by decide) ?_
  refine lv_isub hx hb dX3_blockPages_7 ?_
  refine lv_topi (fun v_2 ev_2 => ?_)
  have hv_2 : v_2 = nI (mem - 2) := ev_2.trans (pk_sub (a := mem) (b := 2) (by omega))
  clear ev_2; subst hv_2
  exact W.iret (v := nI (mem - 2)) hx hb hr (fun t ht hW => ⟨_, rfl, rfl, ht⟩) (fun _ h => by cases h) dX3_blockPages_8
theorem iX3_blockRows_X3 : ∀ w ∈ wsX30, w ∈ wsX3_blockRows := by decide +kernel
set_option maxHeartbeats 1000000 in
set_option maxRecDepth 100000 in
/-- Sizes.blockRows() -/
theorem c_blockRows (l : Launch) (dC : Nat → ClassId) (dI : Nat → Nat → Nat) (cI : ClassId) (aS aN per mem par : Nat) (hm : 3 ≤ mem) : Met l yX3_blockRows wsX3_blockRows ({ frames := 3, cells := 0, slots := 0, locals := 120 } : Room) (va_Pc [.ref aS] (jb_R dC dI cI [(aS, .inr (3, [.ref aN])), (aN, .inl (cI, 3, .inl (jb_now per mem par)))])) (vp_Si (fun r => r = nI ((mem - 2) * per))) 0 0 (fun _ => False) := by
  refine Met.ofW (cc := cX3_blockRows) (maxL := 1) (ret := (some .int)) (by decide) rfl ?_
  intro p e s m args below meth c s₁ B hml hv
  obtain ⟨rfl, hP, hK, hNw⟩ := hv
  have hx := B.exec
  have hb := B.bytes
  have hr := B.returns
  have hts := atoms_spec (ws := wsX3_blockRows) B.pre
  have hown : s.vm.findClass RX3 = some m.cls := findClass_of_methodNamed B.named
  have hlocks := B.notSynchronized
  have hl := lv_entry ([.ref aS]) (n := 1) (Nat.le_of_ble_eq_true rfl)
  rw [lg_entry_eq]
  generalize (lg_sl ([.ref aS]) ++ List.replicate (1 - (lg_sl ([.ref aS])).length) Slot.unset).toArray = ls at hl ⊢
  have hl : lv_has ls 1 [(0, .ref aS)] := hl
  refine lv_aload_n hx hb dX3_blockRows_0 rfl (lv_at hl 0 rfl) ?_
  refine vp_callSi (va_runV (As := []) (rest := []) ⟨hx, hb, hml, hown, hts⟩ (c_blockPages l dC dI cI aS aN per mem par hm) (cwV 0 hts gX3_blockRows_X3_blockPages rfl rfl rfl (by decide +kernel) ⟨(by decide +kernel), (by decide +kernel)⟩)  ⟨jb_R_blind, va_recv hK hP (ci := 3) (q0 := 0) rfl rfl, jb_R_pre (hP.sub (ws' := [(aS, .inr (3, [.ref aN])), (aN, .inl (cI, 3, .inl (jb_now per mem par)))]) [0, 1] rfl) hK hNw⟩ rfl rfl hl.1 rfl (lv_room (Nat.le_of_ble_eq_true rfl)) dX3_blockRows_1 ⟨by decide +kernel, by decide +kernel⟩).run (fun r_1 hr_1 => ?_)
  subst hr_1
  refine lv_aload_n hx hb dX3_blockRows_4 rfl (lv_at hl 0 rfl) ?_
  refine va_get (D := (dC, dI)) (ci := 3) (v := .ref aN) (C := RX3) (T := TX3) (N := 1) hx hb hts iX3_blockRows_X3 hown hK hP 0 rfl rfl 0 (by decide) (hts (.fieldLink RX3 20 "JoinBench$Sizes" "now" "[I") (by decide +kernel)) (fun _ h9 => h9) rfl dX3_blockRows_5 ?_
  refine lv_iconst (v := 0) hx hb dX3_blockRows_8 (by decide) ?_
  refine va_iald hx hb hK hP 1 0 rfl rfl (i := 0) (by unfold vp_in; decide) dX3_blockRows_9 ?_
  refine lv_topi (fun v_2 ev_2 => ?_)
  have hv_2 : v_2 = nI per := ev_2.trans (rfl)
  clear ev_2; subst hv_2
  refine lv_imul hx hb dX3_blockRows_10 ?_
  refine lv_topi (fun v_3 ev_3 => ?_)
  have hv_3 : v_3 = nI ((mem - 2) * per) := ev_3.trans (jb_nmul _ _)
  clear ev_3; subst hv_3
  exact W.iret (v := nI ((mem - 2) * per)) hx hb hr (fun t ht hW => ⟨_, rfl, rfl, ht⟩) (fun _ h => by cases h) dX3_blockRows_11
theorem iX3_pagesFor_X3 : ∀ w ∈ wsX30, w ∈ wsX3_pagesFor := by decide +kernel
set_option maxHeartbeats 1000000 in
set_option maxRecDepth 100000 in
/-- Sizes.pagesFor(rows) -/
theorem c_pagesFor (l : Launch) (dC : Nat → ClassId) (dI : Nat → Nat → Nat) (cI : ClassId) (aS aN per mem par : Nat) (n : Nat) (h1 : 1 ≤ per) (hn : n < 1000000) (hp : per ≤ 16) : Met l yX3_pagesFor wsX3_pagesFor ({ frames := 2, cells := 0, slots := 0, locals := 80 } : Room) (va_Pc [.ref aS, .int (nI n)] (jb_R dC dI cI [(aS, .inr (3, [.ref aN])), (aN, .inl (cI, 3, .inl (jb_now per mem par)))])) (vp_Si (fun r => r = nI (jb_pg per n))) 0 0 (fun _ => False) := by
  refine Met.ofW (cc := cX3_pagesFor) (maxL := 3) (ret := (some .int)) (by decide) rfl ?_
  intro p e s m args below meth c s₁ B hml hv
  obtain ⟨rfl, hP, hK, hNw⟩ := hv
  have hx := B.exec
  have hb := B.bytes
  have hr := B.returns
  have hts := atoms_spec (ws := wsX3_pagesFor) B.pre
  have hown : s.vm.findClass RX3 = some m.cls := findClass_of_methodNamed B.named
  have hlocks := B.notSynchronized
  have hl := lv_entry ([.ref aS, .int (nI n)]) (n := 3) (Nat.le_of_ble_eq_true rfl)
  rw [lg_entry_eq]
  generalize (lg_sl ([.ref aS, .int (nI n)]) ++ List.replicate (3 - (lg_sl ([.ref aS, .int (nI n)])).length) Slot.unset).toArray = ls at hl ⊢
  have hl : lv_has ls 3 [(0, .ref aS), (1, .int (nI n))] := hl
  refine lv_aload_n hx hb dX3_pagesFor_0 rfl (lv_at hl 0 rfl) ?_
  refine va_get (D := (dC, dI)) (ci := 3) (v := .ref aN) (C := RX3) (T := TX3) (N := 1) hx hb hts iX3_pagesFor_X3 hown hK hP 0 rfl rfl 0 (by decide) (hts (.fieldLink RX3 20 "JoinBench$Sizes" "now" "[I") (by decide +kernel)) (fun _ h9 => h9) rfl dX3_pagesFor_1 ?_
  refine lv_iconst (v := 0) hx hb dX3_pagesFor_4 (by decide) ?_
  refine va_iald hx hb hK hP 1 0 rfl rfl (i := 0) (by unfold vp_in; decide) dX3_pagesFor_5 ?_
  refine lv_topi (fun v_1 ev_1 => ?_)
  have hv_1 : v_1 = nI per := ev_1.trans (rfl)
  clear ev_1; subst hv_1
  refine lv_istore_n (lv' := [(2, .int (nI per)), (0, .ref aS), (1, .int (nI n))]) hx hb dX3_pagesFor_6 rfl hl (by decide) rfl (fun ls hl => ?_)
  refine lv_iload_n hx hb dX3_pagesFor_7 rfl (lv_at hl 0 rfl) ?_
  refine lv_iconst (v := 1) hx hb dX3_pagesFor_8 (by decide) ?_
  refine lv_icmp_ge (tgt := 16) hx hb dX3_pagesFor_9 (by decide) (fun c_9 => ?_) (fun c_9 => ?_)
  · refine lv_iload_n hx hb dX3_pagesFor_16 rfl (lv_at hl 2 rfl) ?_
    refine lv_iload_n hx hb dX3_pagesFor_17 rfl (lv_at hl 0 rfl) ?_
    refine lv_iadd hx hb dX3_pagesFor_18 ?_
    refine lv_iconst (v := 1) hx hb dX3_pagesFor_19 (by decide) ?_
    refine lv_isub hx hb dX3_pagesFor_20 ?_
    refine lv_iload_n hx hb dX3_pagesFor_21 rfl (lv_at hl 0 rfl) ?_
    refine lv_idiv hx hb dX3_pagesFor_22 (nI_ne0 (by omega) (by omega)) ?_
    exact W.iret (v := (((nI n + nI per) - 1) / nI per)) hx hb hr (fun t ht hW => ⟨_, rfl, jb_pgpos h1 hn hp, ht⟩) (fun _ h => by cases h) dX3_pagesFor_23
  · exact absurd (nI_le h1 (by omega)) c_9
set_option maxHeartbeats 1000000 in
set_option maxRecDepth 100000 in
/-- Sizes.hashOf(key, level) -/
theorem c_hashOf (l : Launch) (key lv : Int32) : Met l yX3_hashOf wsX3_hashOf ({ frames := 2, cells := 0, slots := 0, locals := 80 } : Room) (va_Pc [.int key, .int lv] (jb_Z)) (vp_Si (fun r => r = jb_hash key lv)) 0 0 (fun _ => False) := by
  refine Met.ofW (cc := cX3_hashOf) (maxL := 3) (ret := (some .int)) (by decide) rfl ?_
  intro p e s m args below meth c s₁ B hml hv
  obtain ⟨rfl, -⟩ := hv
  have hx := B.exec
  have hb := B.bytes
  have hr := B.returns
  have hts := atoms_spec (ws := wsX3_hashOf) B.pre
  have hown : s.vm.findClass RX3 = some m.cls := findClass_of_methodNamed B.named
  have hlocks := B.notSynchronized
  have hl := lv_entry ([.int key, .int lv]) (n := 3) (Nat.le_of_ble_eq_true rfl)
  rw [lg_entry_eq]
  generalize (lg_sl ([.int key, .int lv]) ++ List.replicate (3 - (lg_sl ([.int key, .int lv])).length) Slot.unset).toArray = ls at hl ⊢
  have hl : lv_has ls 3 [(0, .int key), (1, .int lv)] := hl
  refine lv_iload_n hx hb dX3_hashOf_0 rfl (lv_at hl 0 rfl) ?_
  refine lv_ldc (v := (-1640531527)) hx hb hown (hts (.constant RX3 42 (-1640531527)) (by decide +kernel)) dX3_hashOf_1 ?_
  refine lv_imul hx hb dX3_hashOf_3 ?_
  refine lv_iload_n hx hb dX3_hashOf_4 rfl (lv_at hl 1 rfl) ?_
  refine lv_ldc (v := 1013904243) hx hb hown (hts (.constant RX3 43 (1013904243)) (by decide +kernel)) dX3_hashOf_5 ?_
  refine lv_imul hx hb dX3_hashOf_7 ?_
  refine lv_iadd hx hb dX3_hashOf_8 ?_
  refine lv_istore_n (lv' := [(2, .int ((key * (-1640531527)) + (lv * 1013904243))), (0, .int key), (1, .int lv)]) hx hb dX3_hashOf_9 rfl hl (by decide) rfl (fun ls hl => ?_)
  refine lv_iload_n hx hb dX3_hashOf_10 rfl (lv_at hl 0 rfl) ?_
  refine lv_iload_n hx hb dX3_hashOf_11 rfl (lv_at hl 0 rfl) ?_
  refine lv_bipush (v := 15) hx hb dX3_hashOf_12 (by decide) ?_
  refine lv_iushr hx hb dX3_hashOf_14 rfl ?_
  refine lv_ixor hx hb dX3_hashOf_15 ?_
  refine lv_istore_n (lv' := [(2, .int (((key * (-1640531527)) + (lv * 1013904243)) ^^^ (((key * (-1640531527)) + (lv * 1013904243)).toUInt32 >>> ((15 : Int32).toUInt32 &&& Int32.toUInt32 31)).toInt32)), (0, .int key), (1, .int lv)]) hx hb dX3_hashOf_16 rfl hl (by decide) rfl (fun ls hl => ?_)
  refine lv_iload_n hx hb dX3_hashOf_17 rfl (lv_at hl 0 rfl) ?_
  refine lv_ldc (v := (-2048144777)) hx hb hown (hts (.constant RX3 44 (-2048144777)) (by decide +kernel)) dX3_hashOf_18 ?_
  refine lv_imul hx hb dX3_hashOf_20 ?_
  refine lv_istore_n (lv' := [(2, .int ((((key * (-1640531527)) + (lv * 1013904243)) ^^^ (((key * (-1640531527)) + (lv * 1013904243)).toUInt32 >>> ((15 : Int32).toUInt32 &&& Int32.toUInt32 31)).toInt32) * (-2048144777))), (0, .int key), (1, .int lv)]) hx hb dX3_hashOf_21 rfl hl (by decide) rfl (fun ls hl => ?_)
  refine lv_iload_n hx hb dX3_hashOf_22 rfl (lv_at hl 0 rfl) ?_
  refine lv_iload_n hx hb dX3_hashOf_23 rfl (lv_at hl 0 rfl) ?_
  refine lv_bipush (v := 13) hx hb dX3_hashOf_24 (by decide) ?_
  refine lv_iushr hx hb dX3_hashOf_26 rfl ?_
  refine lv_ixor hx hb dX3_hashOf_27 ?_
  exact W.iret (v := (((((key * (-1640531527)) + (lv * 1013904243)) ^^^ (((key * (-1640531527)) + (lv * 1013904243)).toUInt32 >>> ((15 : Int32).toUInt32 &&& Int32.toUInt32 31)).toInt32) * (-2048144777)) ^^^ (((((key * (-1640531527)) + (lv * 1013904243)) ^^^ (((key * (-1640531527)) + (lv * 1013904243)).toUInt32 >>> ((15 : Int32).toUInt32 &&& Int32.toUInt32 31)).toInt32) * (-2048144777)).toUInt32 >>> ((13 : Int32).toUInt32 &&& Int32.toUInt32 31)).toInt32)) hx hb hr (fun t ht hW => ⟨_, rfl, rfl, ht⟩) (fun _ h => by cases h) dX3_hashOf_28
set_option maxHeartbeats 1000000 in
set_option maxRecDepth 100000 in
/-- Sizes.partOf(key, level) -/
theorem c_partOf (l : Launch) (dC : Nat → ClassId) (dI : Nat → Nat → Nat) (cI : ClassId) (aS aN per mem par : Nat) (key lv : Int32) (hm : 3 ≤ mem) (hm2 : mem ≤ 20) : Met l yX3_partOf wsX3_partOf ({ frames := 4, cells := 0, slots := 0, locals := 160 } : Room) (va_Pc [.ref aS, .int key, .int lv] (jb_R dC dI cI [(aS, .inr (3, [.ref aN])), (aN, .inl (cI, 3, .inl (jb_now per mem par)))])) (vp_Si (fun r => r = nI (jb_pt mem key lv))) 0 0 (fun _ => False) := by
  refine Met.ofW (cc := cX3_partOf) (maxL := 6) (ret := (some .int)) (by decide) rfl ?_
  intro p e s m args below meth c s₁ B hml hv
  obtain ⟨rfl, hP, hK, hNw⟩ := hv
  have hx := B.exec
  have hb := B.bytes
  have hr := B.returns
  have hts := atoms_spec (ws := wsX3_partOf) B.pre
  have hown : s.vm.findClass RX3 = some m.cls := findClass_of_methodNamed B.named
  have hlocks := B.notSynchronized
  have hl := lv_entry ([.ref aS, .int key, .int lv]) (n := 6) (Nat.le_of_ble_eq_true rfl)
  rw [lg_entry_eq]
  generalize (lg_sl ([.ref aS, .int key, .int lv]) ++ List.replicate (6 - (lg_sl ([.ref aS, .int key, .int lv])).length) Slot.unset).toArray = ls at hl ⊢
  have hl : lv_has ls 6 [(0, .ref aS), (1, .int key), (2, .int lv)] := hl
  refine lv_iload_n hx hb dX3_partOf_0 rfl (lv_at hl 1 rfl) ?_
  refine lv_iload_n hx hb dX3_partOf_1 rfl (lv_at hl 2 rfl) ?_
  refine vp_callSi (va_runS (As := [.int key, .int lv]) (rest := []) ⟨hx, hb, hml, hown, hts⟩ (c_hashOf l key lv) (va_cwS 2 hts gX3_partOf_X3_hashOf rfl rfl rfl (by decide +kernel) ⟨(by decide +kernel), (by decide +kernel)⟩)  ⟨jb_Z_blind, jb_Z_pre⟩ rfl rfl hl.1 rfl (lv_room (Nat.le_of_ble_eq_true rfl)) dX3_partOf_2 ⟨by decide +kernel, by decide +kernel⟩).run (fun r_1 hr_1 => ?_)
  subst hr_1
  refine lv_i2l hx hb dX3_partOf_5 rfl ?_
  refine lv_ldc2 (v := 4294967295) hx hb hown (hts (.constantLong RX3 37 (4294967295)) (by decide +kernel)) dX3_partOf_6 ?_
  refine lv_land hx hb dX3_partOf_9 ?_
  refine lv_topl (fun un eun => ?_)
  have eun : un = lN (jb_hash key lv).toBitVec.toNat := eun.trans (jb_un _)
  refine lv_lstore_n (lv' := [(3, .long un), (0, .ref aS), (1, .int key), (2, .int lv)]) hx hb dX3_partOf_10 rfl hl (by decide) rfl (fun ls hl => ?_)
  refine lv_aload_n hx hb dX3_partOf_11 rfl (lv_at hl 1 rfl) ?_
  refine vp_callSi (va_runV (As := []) (rest := []) ⟨hx, hb, hml, hown, hts⟩ (c_parts l dC dI cI aS aN per mem par hm) (cwV 0 hts gX3_partOf_X3_parts rfl rfl rfl (by decide +kernel) ⟨(by decide +kernel), (by decide +kernel)⟩)  ⟨jb_R_blind, va_recv hK hP (ci := 3) (q0 := 0) rfl rfl, jb_R_pre (hP.sub (ws' := [(aS, .inr (3, [.ref aN])), (aN, .inl (cI, 3, .inl (jb_now per mem par)))]) [0, 1] rfl) hK hNw⟩ rfl rfl hl.1 rfl (lv_room (Nat.le_of_ble_eq_true rfl)) dX3_partOf_12 ⟨by decide +kernel, by decide +kernel⟩).run (fun r_2 hr_2 => ?_)
  subst hr_2
  refine lv_istore (lv' := [(5, .int (nI (mem - 1))), (3, .long un), (0, .ref aS), (1, .int key), (2, .int lv)]) hx hb dX3_partOf_15 hl (by decide) rfl (fun ls hl => ?_)
  refine lv_iload hx hb dX3_partOf_17 (lv_at hl 0 rfl) ?_
  refine lv_iconst (v := 1) hx hb dX3_partOf_19 (by decide) ?_
  refine lv_icmp_ge (tgt := 27) hx hb dX3_partOf_20 (by decide) (fun c_20 => ?_) (fun c_20 => ?_)
  · refine lv_lload_n hx hb dX3_partOf_27 rfl (lv_at hl 1 rfl) ?_
    refine lv_iload hx hb dX3_partOf_28 (lv_at hl 0 rfl) ?_
    refine lv_i2l hx hb dX3_partOf_30 rfl ?_
    refine lv_lrem hx hb dX3_partOf_31 (by rw [nI_l (by omega)]; intro h; have := (lN_eq (a := mem - 1) (b := 0) (by omega) (by omega)).mp h; omega) ?_
    refine lv_l2i hx hb dX3_partOf_32 rfl ?_
    exact W.iret (v := (un - un / (nI (mem - 1)).toInt64 * (nI (mem - 1)).toInt64).toInt32) hx hb hr (fun t ht hW => ⟨_, rfl, by rw [eun, nI_l (by omega), pk_lRem (by have := (jb_hash key lv).toBitVec.isLt; omega) (by omega) (by omega), lN_i]; rfl, ht⟩) (fun _ h => by cases h) dX3_partOf_33
  · exact absurd (nI_le (a := 1) (b := mem - 1) (by omega) (by omega)) c_20
