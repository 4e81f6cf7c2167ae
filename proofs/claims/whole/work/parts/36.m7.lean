/-! the reference (X6), seventh part: row, cut, size, pages, pair, told, event, and its constructor -/
theorem jb_two_0 (a b c : Nat) : upd (jb_two a b) 0 (nI c) = jb_two c b := by
  funext j
  by_cases h : j = 0
  · simp [upd, jb_two, h]
  · simp [upd, jb_two, h]
theorem jb_two_1 (a b c : Nat) : upd (jb_two a b) 1 (nI c) = jb_two a c := by
  funext j
  by_cases h : j = 1
  · simp [upd, jb_two, h]
  · simp [upd, jb_two, h]
theorem jb_two_z : (fun _ => 0 : Nat → Int32) = jb_two 0 0 := by
  funext j
  simp only [jb_two]
  split
  · rfl
  · split <;> rfl
def jm_rK (Kf : Nat → Int32) (t : Int32) (nl nr : Nat) (v : Int32) : Nat → Int32 := if t = 0 then (if nl < 500 then upd Kf (500 * 0 + nl) v else Kf) else if t = 1 then (if nr < 500 then upd Kf (500 * 1 + nr) v else Kf) else Kf
theorem jm_rK_0 {Kf : Nat → Int32} {nl nr : Nat} {v : Int32} : jm_rK Kf 0 nl nr v = if nl < 500 then upd Kf (500 * 0 + nl) v else Kf := if_pos rfl
theorem jm_rK_1 {Kf : Nat → Int32} {nl nr : Nat} {v : Int32} : jm_rK Kf 1 nl nr v = if nr < 500 then upd Kf (500 * 1 + nr) v else Kf := by unfold jm_rK; rw [if_neg (by decide), if_pos rfl]
theorem jm_rK_n {Kf : Nat → Int32} {t : Int32} {nl nr : Nat} {v : Int32} (h0 : ¬ t = 0) (h1 : ¬ t = 1) : jm_rK Kf t nl nr v = Kf := by unfold jm_rK; rw [if_neg h0, if_neg h1]
theorem jb_isT_n {t : Int32} (h0 : ¬ t = 0) (h1 : ¬ t = 1) : jb_isT t = 0 := if_neg (fun h => h.elim h0 h1)
theorem jb_ofn {n : Int32} (h : ¬ n < 0) : nI n.toNatClampNeg = n := by
  obtain ⟨j, hj, e⟩ := nI_of h
  rw [e, nI_clamp hj]
theorem jb_addN_lt {n : Nat} (h : n < 500) : jb_addN n = n + 1 := if_pos h
theorem jb_addN_ge {n : Nat} (h : ¬ n < 500) : jb_addN n = n := if_neg h
theorem jb_addR_lt {n : Nat} (h : n < 500) : jb_addR n = nI (n + 1) := if_pos h
theorem jb_addR_ge {n : Nat} (h : ¬ n < 500) : jb_addR n = -2 := if_neg h
theorem iX6_row_X6 : ∀ w ∈ wsX60, w ∈ wsX6_row := by decide +kernel
set_option maxHeartbeats 1000000 in
set_option maxRecDepth 100000 in
/-- row -/
theorem m_row (l : Launch) (dC : Nat → ClassId) (dI : Nat → Nat → Nat) (cI : ClassId) (sz : Nat) (hM mK mV mN mR mB mX m1 m2 m3 m4 m5 m6 m7 : Nat) (Kf Vf : Nat → Int32) (nl nr per mem par : Nat) (Rf Bf Nf : Nat → Int32) (y : jmR) (t z1 z2 : Int32) (hnl : nl ≤ 500) (hnr : nr ≤ 500) : Met l yX6_row wsX6_row ({ frames := 2, cells := 0, slots := 0, locals := 80 } : Room) (va_Pc [.ref hM, .int t, .int z1, .int z2] (jb_M dC dI cI sz [(hM, .inr (6, [.ref mK, .ref mV, .ref mN, .int (nI per), .int (nI mem), .int (nI par), .ref mR, .ref mB, .ref mX, .ref m1, .ref m2, .ref m3, .ref m4, .ref m5, .int y.2.2.2.2.2.2.2.1, .int y.2.2.2.2.2.2.2.2.1, .int y.2.2.2.2.2.2.2.2.2.1, .int y.2.2.2.2.2.2.2.2.2.2.1, .int y.2.2.2.2.2.2.2.2.2.2.2.1, .int y.2.2.2.2.2.2.2.2.2.2.2.2.1, .int y.2.2.2.2.2.2.2.2.2.2.2.2.2.1, .int y.2.2.2.2.2.2.2.2.2.2.2.2.2.2, .ref m6, .ref m7])), (mK, .inl (cI, 1000, .inl Kf)), (mV, .inl (cI, 1000, .inl Vf)), (mN, .inl (cI, 2, .inl (jb_two nl nr))), (mR, .inl (cI, 10000, .inl Rf)), (mB, .inl (cI, 420, .inl Bf)), (mX, .inl (cI, 10, .inl Nf)), (m1, .inl (cI, 4000, .inl y.1)), (m2, .inl (cI, 4000, .inl y.2.1)), (m3, .inl (cI, 4000, .inl y.2.2.1)), (m4, .inl (cI, 4000, .inl y.2.2.2.1)), (m5, .inl (cI, 4000, .inl y.2.2.2.2.1)), (m6, .inl (cI, 4, .inl y.2.2.2.2.2.1)), (m7, .inl (cI, 1500, .inl y.2.2.2.2.2.2.1))])) (va_Qi (fun r (_ : Unit) => r = jb_ans t (jb_addR nl) (jb_addR nr)) (jb_B dC dI (va_A [(hM, .inr (6, [.ref mK, .ref mV, .ref mN, .int (nI per), .int (nI mem), .int (nI par), .ref mR, .ref mB, .ref mX, .ref m1, .ref m2, .ref m3, .ref m4, .ref m5, .int y.2.2.2.2.2.2.2.1, .int y.2.2.2.2.2.2.2.2.1, .int y.2.2.2.2.2.2.2.2.2.1, .int y.2.2.2.2.2.2.2.2.2.2.1, .int y.2.2.2.2.2.2.2.2.2.2.2.1, .int y.2.2.2.2.2.2.2.2.2.2.2.2.1, .int y.2.2.2.2.2.2.2.2.2.2.2.2.2.1, .int y.2.2.2.2.2.2.2.2.2.2.2.2.2.2, .ref m6, .ref m7])), (mK, .inl (cI, 1000, .inl Kf)), (mV, .inl (cI, 1000, .inl Vf)), (mN, .inl (cI, 2, .inl (jb_two nl nr))), (mR, .inl (cI, 10000, .inl Rf)), (mB, .inl (cI, 420, .inl Bf)), (mX, .inl (cI, 10, .inl Nf)), (m1, .inl (cI, 4000, .inl y.1)), (m2, .inl (cI, 4000, .inl y.2.1)), (m3, .inl (cI, 4000, .inl y.2.2.1)), (m4, .inl (cI, 4000, .inl y.2.2.2.1)), (m5, .inl (cI, 4000, .inl y.2.2.2.2.1)), (m6, .inl (cI, 4, .inl y.2.2.2.2.2.1)), (m7, .inl (cI, 1500, .inl y.2.2.2.2.2.2.1))] sz) (fun _ => [(hM, .inr (6, [.ref mK, .ref mV, .ref mN, .int (nI per), .int (nI mem), .int (nI par), .ref mR, .ref mB, .ref mX, .ref m1, .ref m2, .ref m3, .ref m4, .ref m5, .int y.2.2.2.2.2.2.2.1, .int y.2.2.2.2.2.2.2.2.1, .int y.2.2.2.2.2.2.2.2.2.1, .int y.2.2.2.2.2.2.2.2.2.2.1, .int y.2.2.2.2.2.2.2.2.2.2.2.1, .int y.2.2.2.2.2.2.2.2.2.2.2.2.1, .int y.2.2.2.2.2.2.2.2.2.2.2.2.2.1, .int y.2.2.2.2.2.2.2.2.2.2.2.2.2.2, .ref m6, .ref m7])), (mK, .inl (cI, 1000, .inl (jm_rK Kf t nl nr z1))), (mV, .inl (cI, 1000, .inl (jm_rK Vf t nl nr z2))), (mN, .inl (cI, 2, .inl (jb_two (jb_if t 0 (jb_addN nl) nl) (jb_if t 1 (jb_addN nr) nr)))), (mR, .inl (cI, 10000, .inl Rf)), (mB, .inl (cI, 420, .inl Bf)), (mX, .inl (cI, 10, .inl Nf)), (m1, .inl (cI, 4000, .inl y.1)), (m2, .inl (cI, 4000, .inl y.2.1)), (m3, .inl (cI, 4000, .inl y.2.2.1)), (m4, .inl (cI, 4000, .inl y.2.2.2.1)), (m5, .inl (cI, 4000, .inl y.2.2.2.2.1)), (m6, .inl (cI, 4, .inl y.2.2.2.2.2.1)), (m7, .inl (cI, 1500, .inl y.2.2.2.2.2.2.1))])) (va_A [(hM, .inr (6, [.ref mK, .ref mV, .ref mN, .int (nI per), .int (nI mem), .int (nI par), .ref mR, .ref mB, .ref mX, .ref m1, .ref m2, .ref m3, .ref m4, .ref m5, .int y.2.2.2.2.2.2.2.1, .int y.2.2.2.2.2.2.2.2.1, .int y.2.2.2.2.2.2.2.2.2.1, .int y.2.2.2.2.2.2.2.2.2.2.1, .int y.2.2.2.2.2.2.2.2.2.2.2.1, .int y.2.2.2.2.2.2.2.2.2.2.2.2.1, .int y.2.2.2.2.2.2.2.2.2.2.2.2.2.1, .int y.2.2.2.2.2.2.2.2.2.2.2.2.2.2, .ref m6, .ref m7])), (mK, .inl (cI, 1000, .inl Kf)), (mV, .inl (cI, 1000, .inl Vf)), (mN, .inl (cI, 2, .inl (jb_two nl nr))), (mR, .inl (cI, 10000, .inl Rf)), (mB, .inl (cI, 420, .inl Bf)), (mX, .inl (cI, 10, .inl Nf)), (m1, .inl (cI, 4000, .inl y.1)), (m2, .inl (cI, 4000, .inl y.2.1)), (m3, .inl (cI, 4000, .inl y.2.2.1)), (m4, .inl (cI, 4000, .inl y.2.2.2.1)), (m5, .inl (cI, 4000, .inl y.2.2.2.2.1)), (m6, .inl (cI, 4, .inl y.2.2.2.2.2.1)), (m7, .inl (cI, 1500, .inl y.2.2.2.2.2.2.1))] sz)) 0 0 (va_A [(hM, .inr (6, [.ref mK, .ref mV, .ref mN, .int (nI per), .int (nI mem), .int (nI par), .ref mR, .ref mB, .ref mX, .ref m1, .ref m2, .ref m3, .ref m4, .ref m5, .int y.2.2.2.2.2.2.2.1, .int y.2.2.2.2.2.2.2.2.1, .int y.2.2.2.2.2.2.2.2.2.1, .int y.2.2.2.2.2.2.2.2.2.2.1, .int y.2.2.2.2.2.2.2.2.2.2.2.1, .int y.2.2.2.2.2.2.2.2.2.2.2.2.1, .int y.2.2.2.2.2.2.2.2.2.2.2.2.2.1, .int y.2.2.2.2.2.2.2.2.2.2.2.2.2.2, .ref m6, .ref m7])), (mK, .inl (cI, 1000, .inl Kf)), (mV, .inl (cI, 1000, .inl Vf)), (mN, .inl (cI, 2, .inl (jb_two nl nr))), (mR, .inl (cI, 10000, .inl Rf)), (mB, .inl (cI, 420, .inl Bf)), (mX, .inl (cI, 10, .inl Nf)), (m1, .inl (cI, 4000, .inl y.1)), (m2, .inl (cI, 4000, .inl y.2.1)), (m3, .inl (cI, 4000, .inl y.2.2.1)), (m4, .inl (cI, 4000, .inl y.2.2.2.1)), (m5, .inl (cI, 4000, .inl y.2.2.2.2.1)), (m6, .inl (cI, 4, .inl y.2.2.2.2.2.1)), (m7, .inl (cI, 1500, .inl y.2.2.2.2.2.2.1))] sz) := by
  refine Met.ofW (cc := cX6_row) (maxL := 4) (ret := (some .int)) (by decide) rfl ?_
  intro p e s m args below meth c s₁ B hml hv
  obtain ⟨rfl, hsz, hP, hK, hNw, hD0⟩ := hv
  have hx := B.exec
  have hb := B.bytes
  have hr := B.returns
  have hts := atoms_spec (ws := wsX6_row) B.pre
  have hown : s.vm.findClass RX6 = some m.cls := findClass_of_methodNamed B.named
  have hlocks := B.notSynchronized
  subst hsz
  have hD := hD0.self (sz := s.heap.size)
  generalize hAe : va_A [(hM, .inr (6, [.ref mK, .ref mV, .ref mN, .int (nI per), .int (nI mem), .int (nI par), .ref mR, .ref mB, .ref mX, .ref m1, .ref m2, .ref m3, .ref m4, .ref m5, .int y.2.2.2.2.2.2.2.1, .int y.2.2.2.2.2.2.2.2.1, .int y.2.2.2.2.2.2.2.2.2.1, .int y.2.2.2.2.2.2.2.2.2.2.1, .int y.2.2.2.2.2.2.2.2.2.2.2.1, .int y.2.2.2.2.2.2.2.2.2.2.2.2.1, .int y.2.2.2.2.2.2.2.2.2.2.2.2.2.1, .int y.2.2.2.2.2.2.2.2.2.2.2.2.2.2, .ref m6, .ref m7])), (mK, .inl (cI, 1000, .inl Kf)), (mV, .inl (cI, 1000, .inl Vf)), (mN, .inl (cI, 2, .inl (jb_two nl nr))), (mR, .inl (cI, 10000, .inl Rf)), (mB, .inl (cI, 420, .inl Bf)), (mX, .inl (cI, 10, .inl Nf)), (m1, .inl (cI, 4000, .inl y.1)), (m2, .inl (cI, 4000, .inl y.2.1)), (m3, .inl (cI, 4000, .inl y.2.2.1)), (m4, .inl (cI, 4000, .inl y.2.2.2.1)), (m5, .inl (cI, 4000, .inl y.2.2.2.2.1)), (m6, .inl (cI, 4, .inl y.2.2.2.2.2.1)), (m7, .inl (cI, 1500, .inl y.2.2.2.2.2.2.1))] s.heap.size = A at hD ⊢
  have hA : ∀ q : Nat, s.heap.size ≤ q → A q := fun q h => by rw [← hAe]; exact Or.inr h
  have hS : va_S A s.heap s.heap [] := va_S.rf
  have hP : va_P (dC, dI) vwCl [(hM, .inr (6, [.ref mK, .ref mV, .ref mN, .int (nI per), .int (nI mem), .int (nI par), .ref mR, .ref mB, .ref mX, .ref m1, .ref m2, .ref m3, .ref m4, .ref m5, .int y.2.2.2.2.2.2.2.1, .int y.2.2.2.2.2.2.2.2.1, .int y.2.2.2.2.2.2.2.2.2.1, .int y.2.2.2.2.2.2.2.2.2.2.1, .int y.2.2.2.2.2.2.2.2.2.2.2.1, .int y.2.2.2.2.2.2.2.2.2.2.2.2.1, .int y.2.2.2.2.2.2.2.2.2.2.2.2.2.1, .int y.2.2.2.2.2.2.2.2.2.2.2.2.2.2, .ref m6, .ref m7])), (mK, .inl (cI, 1000, .inl Kf)), (mV, .inl (cI, 1000, .inl Vf)), (mN, .inl (cI, 2, .inl (jb_two nl nr))), (mR, .inl (cI, 10000, .inl Rf)), (mB, .inl (cI, 420, .inl Bf)), (mX, .inl (cI, 10, .inl Nf)), (m1, .inl (cI, 4000, .inl y.1)), (m2, .inl (cI, 4000, .inl y.2.1)), (m3, .inl (cI, 4000, .inl y.2.2.1)), (m4, .inl (cI, 4000, .inl y.2.2.2.1)), (m5, .inl (cI, 4000, .inl y.2.2.2.2.1)), (m6, .inl (cI, 4, .inl y.2.2.2.2.2.1)), (m7, .inl (cI, 1500, .inl y.2.2.2.2.2.2.1))] s.heap := hP
  have hl := lv_entry ([.ref hM, .int t, .int z1, .int z2]) (n := 4) (Nat.le_of_ble_eq_true rfl)
  rw [lg_entry_eq]
  generalize (lg_sl ([.ref hM, .int t, .int z1, .int z2]) ++ List.replicate (4 - (lg_sl ([.ref hM, .int t, .int z1, .int z2])).length) Slot.unset).toArray = ls at hl ⊢
  have hl : lv_has ls 4 [(0, .ref hM), (1, .int t), (2, .int z1), (3, .int z2)] := hl
  refine lv_iload_n hx hb dX6_row_0 rfl (lv_at hl 1 rfl) ?_
  refine vp_callSi (va_runS (As := [.int t]) (rest := []) ⟨hx, hb, hml, hown, hts⟩ (m_isTable l t) (va_cwS 1 hts gX6_row_X6_isTable rfl rfl rfl (by decide +kernel) ⟨(by decide +kernel), (by decide +kernel)⟩)  ⟨jb_Z_blind, jb_Z_pre⟩ rfl rfl hl.1 rfl (lv_room (Nat.le_of_ble_eq_true rfl)) dX6_row_1 ⟨by decide +kernel, by decide +kernel⟩).run (fun r_1 hr_1 => ?_)
  subst hr_1
  by_cases h0 : t = 0
  · subst h0
    refine lv_if_ne (tgt := 9) hx hb dX6_row_4 (by decide) (fun c_4 => ?_) (fun c_4 => ?_)
    · refine lv_aload_n hx hb dX6_row_9 rfl (lv_at hl 0 rfl) ?_
      refine va_get (D := (dC, dI)) (ci := 6) (v := .ref mN) (C := RX6) (T := TX6) (N := 24) hx hb hts iX6_row_X6 hown hK hP 0 rfl rfl 2 (by decide) (hts (.fieldLink RX6 16 "JoinBenchModel" "many" "[I") (by decide +kernel)) (fun _ h9 => h9) rfl dX6_row_10 ?_
      refine lv_iload_n hx hb dX6_row_13 rfl (lv_at hl 1 rfl) ?_
      refine va_iald hx hb hK hP 3 0 rfl rfl (i := 0) (by unfold vp_in; decide) dX6_row_14 ?_
      refine lv_topi (fun v_2 ev_2 => ?_)
      have hv_2 : v_2 = nI nl := ev_2.trans (rfl)
      clear ev_2; subst hv_2
      refine lv_sipush (v := 500) hx hb dX6_row_15 (by decide) ?_
      refine lv_icmp_ne (tgt := 24) hx hb dX6_row_18 (by decide) (fun c_18 => ?_) (fun c_18 => ?_)
      · have hlt : nl < 500 := by have h9 : ¬ nl = 500 := fun h => c_18 (by rw [h]; rfl); omega
        refine lv_aload_n hx hb dX6_row_24 rfl (lv_at hl 0 rfl) ?_
        refine va_get (D := (dC, dI)) (ci := 6) (v := .ref mK) (C := RX6) (T := TX6) (N := 24) hx hb hts iX6_row_X6 hown hK hP 0 rfl rfl 0 (by decide) (hts (.fieldLink RX6 7 "JoinBenchModel" "keys" "[I") (by decide +kernel)) (fun _ h9 => h9) rfl dX6_row_25 ?_
        refine lv_sipush (v := 500) hx hb dX6_row_28 (by decide) ?_
        refine lv_iload_n hx hb dX6_row_31 rfl (lv_at hl 1 rfl) ?_
        refine lv_imul hx hb dX6_row_32 ?_
        refine lv_topi (fun v_3 ev_3 => ?_)
        have hv_3 : v_3 = nI (500 * 0) := ev_3.trans (jb_nmul 500 0)
        clear ev_3; subst hv_3
        refine lv_aload_n hx hb dX6_row_33 rfl (lv_at hl 0 rfl) ?_
        refine va_get (D := (dC, dI)) (ci := 6) (v := .ref mN) (C := RX6) (T := TX6) (N := 24) hx hb hts iX6_row_X6 hown hK hP 0 rfl rfl 2 (by decide) (hts (.fieldLink RX6 16 "JoinBenchModel" "many" "[I") (by decide +kernel)) (fun _ h9 => h9) rfl dX6_row_34 ?_
        refine lv_iload_n hx hb dX6_row_37 rfl (lv_at hl 1 rfl) ?_
        refine va_iald hx hb hK hP 3 0 rfl rfl (i := 0) (by unfold vp_in; decide) dX6_row_38 ?_
        refine lv_topi (fun v_4 ev_4 => ?_)
        have hv_4 : v_4 = nI nl := ev_4.trans (rfl)
        clear ev_4; subst hv_4
        refine lv_iadd hx hb dX6_row_39 ?_
        refine lv_topi (fun v_5 ev_5 => ?_)
        have hv_5 : v_5 = nI (500 * 0 + nl) := ev_5.trans (nI_add _ _)
        clear ev_5; subst hv_5
        refine lv_iload_n hx hb dX6_row_40 rfl (lv_at hl 2 rfl) ?_
        refine va_iast hx hb hK hP hD hS 1 0 rfl rfl (i := nI (500 * 0 + nl)) (x := z1) (vp_in_nI (n := 500 * 0 + nl) (by omega) (by decide)) dX6_row_41 (fun H locs hP hD hS => ?_)
        rw [show (nI (500 * 0 + nl) : Int32).toNatClampNeg = (500 * 0 + nl) from nI_clamp (by omega)] at hP hD
        have hP : va_P (dC, dI) vwCl [(hM, .inr (6, [.ref mK, .ref mV, .ref mN, .int (nI per), .int (nI mem), .int (nI par), .ref mR, .ref mB, .ref mX, .ref m1, .ref m2, .ref m3, .ref m4, .ref m5, .int y.2.2.2.2.2.2.2.1, .int y.2.2.2.2.2.2.2.2.1, .int y.2.2.2.2.2.2.2.2.2.1, .int y.2.2.2.2.2.2.2.2.2.2.1, .int y.2.2.2.2.2.2.2.2.2.2.2.1, .int y.2.2.2.2.2.2.2.2.2.2.2.2.1, .int y.2.2.2.2.2.2.2.2.2.2.2.2.2.1, .int y.2.2.2.2.2.2.2.2.2.2.2.2.2.2, .ref m6, .ref m7])), (mK, .inl (cI, 1000, .inl (upd Kf (500 * 0 + nl) z1))), (mV, .inl (cI, 1000, .inl Vf)), (mN, .inl (cI, 2, .inl (jb_two nl nr))), (mR, .inl (cI, 10000, .inl Rf)), (mB, .inl (cI, 420, .inl Bf)), (mX, .inl (cI, 10, .inl Nf)), (m1, .inl (cI, 4000, .inl y.1)), (m2, .inl (cI, 4000, .inl y.2.1)), (m3, .inl (cI, 4000, .inl y.2.2.1)), (m4, .inl (cI, 4000, .inl y.2.2.2.1)), (m5, .inl (cI, 4000, .inl y.2.2.2.2.1)), (m6, .inl (cI, 4, .inl y.2.2.2.2.2.1)), (m7, .inl (cI, 1500, .inl y.2.2.2.2.2.2.1))] H := hP
        have hD : va_D A [(hM, .inr (6, [.ref mK, .ref mV, .ref mN, .int (nI per), .int (nI mem), .int (nI par), .ref mR, .ref mB, .ref mX, .ref m1, .ref m2, .ref m3, .ref m4, .ref m5, .int y.2.2.2.2.2.2.2.1, .int y.2.2.2.2.2.2.2.2.1, .int y.2.2.2.2.2.2.2.2.2.1, .int y.2.2.2.2.2.2.2.2.2.2.1, .int y.2.2.2.2.2.2.2.2.2.2.2.1, .int y.2.2.2.2.2.2.2.2.2.2.2.2.1, .int y.2.2.2.2.2.2.2.2.2.2.2.2.2.1, .int y.2.2.2.2.2.2.2.2.2.2.2.2.2.2, .ref m6, .ref m7])), (mK, .inl (cI, 1000, .inl (upd Kf (500 * 0 + nl) z1))), (mV, .inl (cI, 1000, .inl Vf)), (mN, .inl (cI, 2, .inl (jb_two nl nr))), (mR, .inl (cI, 10000, .inl Rf)), (mB, .inl (cI, 420, .inl Bf)), (mX, .inl (cI, 10, .inl Nf)), (m1, .inl (cI, 4000, .inl y.1)), (m2, .inl (cI, 4000, .inl y.2.1)), (m3, .inl (cI, 4000, .inl y.2.2.1)), (m4, .inl (cI, 4000, .inl y.2.2.2.1)), (m5, .inl (cI, 4000, .inl y.2.2.2.2.1)), (m6, .inl (cI, 4, .inl y.2.2.2.2.2.1)), (m7, .inl (cI, 1500, .inl y.2.2.2.2.2.2.1))] := hD
        refine lv_aload_n hx hb dX6_row_42 rfl (lv_at hl 0 rfl) ?_
        refine va_get (D := (dC, dI)) (ci := 6) (v := .ref mV) (C := RX6) (T := TX6) (N := 24) hx hb hts iX6_row_X6 hown hK hP 0 rfl rfl 1 (by decide) (hts (.fieldLink RX6 13 "JoinBenchModel" "values" "[I") (by decide +kernel)) (fun _ h9 => h9) rfl dX6_row_43 ?_
        refine lv_sipush (v := 500) hx hb dX6_row_46 (by decide) ?_
        refine lv_iload_n hx hb dX6_row_49 rfl (lv_at hl 1 rfl) ?_
        refine lv_imul hx hb dX6_row_50 ?_
        refine lv_topi (fun v_6 ev_6 => ?_)
        have hv_6 : v_6 = nI (500 * 0) := ev_6.trans (jb_nmul 500 0)
        clear ev_6; subst hv_6
        refine lv_aload_n hx hb dX6_row_51 rfl (lv_at hl 0 rfl) ?_
        refine va_get (D := (dC, dI)) (ci := 6) (v := .ref mN) (C := RX6) (T := TX6) (N := 24) hx hb hts iX6_row_X6 hown hK hP 0 rfl rfl 2 (by decide) (hts (.fieldLink RX6 16 "JoinBenchModel" "many" "[I") (by decide +kernel)) (fun _ h9 => h9) rfl dX6_row_52 ?_
        refine lv_iload_n hx hb dX6_row_55 rfl (lv_at hl 1 rfl) ?_
        refine va_iald hx hb hK hP 3 0 rfl rfl (i := 0) (by unfold vp_in; decide) dX6_row_56 ?_
        refine lv_topi (fun v_7 ev_7 => ?_)
        have hv_7 : v_7 = nI nl := ev_7.trans (rfl)
        clear ev_7; subst hv_7
        refine lv_iadd hx hb dX6_row_57 ?_
        refine lv_topi (fun v_8 ev_8 => ?_)
        have hv_8 : v_8 = nI (500 * 0 + nl) := ev_8.trans (nI_add _ _)
        clear ev_8; subst hv_8
        refine lv_iload_n hx hb dX6_row_58 rfl (lv_at hl 3 rfl) ?_
        refine va_iast hx hb hK hP hD hS 2 0 rfl rfl (i := nI (500 * 0 + nl)) (x := z2) (vp_in_nI (n := 500 * 0 + nl) (by omega) (by decide)) dX6_row_59 (fun H locs hP hD hS => ?_)
        rw [show (nI (500 * 0 + nl) : Int32).toNatClampNeg = (500 * 0 + nl) from nI_clamp (by omega)] at hP hD
        have hP : va_P (dC, dI) vwCl [(hM, .inr (6, [.ref mK, .ref mV, .ref mN, .int (nI per), .int (nI mem), .int (nI par), .ref mR, .ref mB, .ref mX, .ref m1, .ref m2, .ref m3, .ref m4, .ref m5, .int y.2.2.2.2.2.2.2.1, .int y.2.2.2.2.2.2.2.2.1, .int y.2.2.2.2.2.2.2.2.2.1, .int y.2.2.2.2.2.2.2.2.2.2.1, .int y.2.2.2.2.2.2.2.2.2.2.2.1, .int y.2.2.2.2.2.2.2.2.2.2.2.2.1, .int y.2.2.2.2.2.2.2.2.2.2.2.2.2.1, .int y.2.2.2.2.2.2.2.2.2.2.2.2.2.2, .ref m6, .ref m7])), (mK, .inl (cI, 1000, .inl (upd Kf (500 * 0 + nl) z1))), (mV, .inl (cI, 1000, .inl (upd Vf (500 * 0 + nl) z2))), (mN, .inl (cI, 2, .inl (jb_two nl nr))), (mR, .inl (cI, 10000, .inl Rf)), (mB, .inl (cI, 420, .inl Bf)), (mX, .inl (cI, 10, .inl Nf)), (m1, .inl (cI, 4000, .inl y.1)), (m2, .inl (cI, 4000, .inl y.2.1)), (m3, .inl (cI, 4000, .inl y.2.2.1)), (m4, .inl (cI, 4000, .inl y.2.2.2.1)), (m5, .inl (cI, 4000, .inl y.2.2.2.2.1)), (m6, .inl (cI, 4, .inl y.2.2.2.2.2.1)), (m7, .inl (cI, 1500, .inl y.2.2.2.2.2.2.1))] H := hP
        have hD : va_D A [(hM, .inr (6, [.ref mK, .ref mV, .ref mN, .int (nI per), .int (nI mem), .int (nI par), .ref mR, .ref mB, .ref mX, .ref m1, .ref m2, .ref m3, .ref m4, .ref m5, .int y.2.2.2.2.2.2.2.1, .int y.2.2.2.2.2.2.2.2.1, .int y.2.2.2.2.2.2.2.2.2.1, .int y.2.2.2.2.2.2.2.2.2.2.1, .int y.2.2.2.2.2.2.2.2.2.2.2.1, .int y.2.2.2.2.2.2.2.2.2.2.2.2.1, .int y.2.2.2.2.2.2.2.2.2.2.2.2.2.1, .int y.2.2.2.2.2.2.2.2.2.2.2.2.2.2, .ref m6, .ref m7])), (mK, .inl (cI, 1000, .inl (upd Kf (500 * 0 + nl) z1))), (mV, .inl (cI, 1000, .inl (upd Vf (500 * 0 + nl) z2))), (mN, .inl (cI, 2, .inl (jb_two nl nr))), (mR, .inl (cI, 10000, .inl Rf)), (mB, .inl (cI, 420, .inl Bf)), (mX, .inl (cI, 10, .inl Nf)), (m1, .inl (cI, 4000, .inl y.1)), (m2, .inl (cI, 4000, .inl y.2.1)), (m3, .inl (cI, 4000, .inl y.2.2.1)), (m4, .inl (cI, 4000, .inl y.2.2.2.1)), (m5, .inl (cI, 4000, .inl y.2.2.2.2.1)), (m6, .inl (cI, 4, .inl y.2.2.2.2.2.1)), (m7, .inl (cI, 1500, .inl y.2.2.2.2.2.2.1))] := hD
        refine lv_aload_n hx hb dX6_row_60 rfl (lv_at hl 0 rfl) ?_
        refine va_get (D := (dC, dI)) (ci := 6) (v := .ref mN) (C := RX6) (T := TX6) (N := 24) hx hb hts iX6_row_X6 hown hK hP 0 rfl rfl 2 (by decide) (hts (.fieldLink RX6 16 "JoinBenchModel" "many" "[I") (by decide +kernel)) (fun _ h9 => h9) rfl dX6_row_61 ?_
        refine lv_iload_n hx hb dX6_row_64 rfl (lv_at hl 1 rfl) ?_
        refine lv_dup2_11 hx hb dX6_row_65 rfl rfl ?_
        refine va_iald hx hb hK hP 3 0 rfl rfl (i := 0) (by unfold vp_in; decide) dX6_row_66 ?_
        refine lv_topi (fun v_9 ev_9 => ?_)
        have hv_9 : v_9 = nI nl := ev_9.trans (rfl)
        clear ev_9; subst hv_9
        refine lv_iconst (v := 1) hx hb dX6_row_67 (by decide) ?_
        refine lv_iadd hx hb dX6_row_68 ?_
        refine lv_topi (fun v_10 ev_10 => ?_)
        have hv_10 : v_10 = nI (nl + 1) := ev_10.trans (nI_1 _)
        clear ev_10; subst hv_10
        refine va_iast hx hb hK hP hD hS 3 0 rfl rfl (i := 0) (x := nI (nl + 1)) (by unfold vp_in; decide) dX6_row_69 (fun H locs hP hD hS => ?_)
        rw [show (0 : Int32).toNatClampNeg = 0 from rfl] at hP hD
        have hP : va_P (dC, dI) vwCl [(hM, .inr (6, [.ref mK, .ref mV, .ref mN, .int (nI per), .int (nI mem), .int (nI par), .ref mR, .ref mB, .ref mX, .ref m1, .ref m2, .ref m3, .ref m4, .ref m5, .int y.2.2.2.2.2.2.2.1, .int y.2.2.2.2.2.2.2.2.1, .int y.2.2.2.2.2.2.2.2.2.1, .int y.2.2.2.2.2.2.2.2.2.2.1, .int y.2.2.2.2.2.2.2.2.2.2.2.1, .int y.2.2.2.2.2.2.2.2.2.2.2.2.1, .int y.2.2.2.2.2.2.2.2.2.2.2.2.2.1, .int y.2.2.2.2.2.2.2.2.2.2.2.2.2.2, .ref m6, .ref m7])), (mK, .inl (cI, 1000, .inl (upd Kf (500 * 0 + nl) z1))), (mV, .inl (cI, 1000, .inl (upd Vf (500 * 0 + nl) z2))), (mN, .inl (cI, 2, .inl (upd (jb_two nl nr) 0 (nI (nl + 1))))), (mR, .inl (cI, 10000, .inl Rf)), (mB, .inl (cI, 420, .inl Bf)), (mX, .inl (cI, 10, .inl Nf)), (m1, .inl (cI, 4000, .inl y.1)), (m2, .inl (cI, 4000, .inl y.2.1)), (m3, .inl (cI, 4000, .inl y.2.2.1)), (m4, .inl (cI, 4000, .inl y.2.2.2.1)), (m5, .inl (cI, 4000, .inl y.2.2.2.2.1)), (m6, .inl (cI, 4, .inl y.2.2.2.2.2.1)), (m7, .inl (cI, 1500, .inl y.2.2.2.2.2.2.1))] H := hP
        have hD : va_D A [(hM, .inr (6, [.ref mK, .ref mV, .ref mN, .int (nI per), .int (nI mem), .int (nI par), .ref mR, .ref mB, .ref mX, .ref m1, .ref m2, .ref m3, .ref m4, .ref m5, .int y.2.2.2.2.2.2.2.1, .int y.2.2.2.2.2.2.2.2.1, .int y.2.2.2.2.2.2.2.2.2.1, .int y.2.2.2.2.2.2.2.2.2.2.1, .int y.2.2.2.2.2.2.2.2.2.2.2.1, .int y.2.2.2.2.2.2.2.2.2.2.2.2.1, .int y.2.2.2.2.2.2.2.2.2.2.2.2.2.1, .int y.2.2.2.2.2.2.2.2.2.2.2.2.2.2, .ref m6, .ref m7])), (mK, .inl (cI, 1000, .inl (upd Kf (500 * 0 + nl) z1))), (mV, .inl (cI, 1000, .inl (upd Vf (500 * 0 + nl) z2))), (mN, .inl (cI, 2, .inl (upd (jb_two nl nr) 0 (nI (nl + 1))))), (mR, .inl (cI, 10000, .inl Rf)), (mB, .inl (cI, 420, .inl Bf)), (mX, .inl (cI, 10, .inl Nf)), (m1, .inl (cI, 4000, .inl y.1)), (m2, .inl (cI, 4000, .inl y.2.1)), (m3, .inl (cI, 4000, .inl y.2.2.1)), (m4, .inl (cI, 4000, .inl y.2.2.2.1)), (m5, .inl (cI, 4000, .inl y.2.2.2.2.1)), (m6, .inl (cI, 4, .inl y.2.2.2.2.2.1)), (m7, .inl (cI, 1500, .inl y.2.2.2.2.2.2.1))] := hD
        rw [jb_two_0] at hP hD
        have hP : va_P (dC, dI) vwCl [(hM, .inr (6, [.ref mK, .ref mV, .ref mN, .int (nI per), .int (nI mem), .int (nI par), .ref mR, .ref mB, .ref mX, .ref m1, .ref m2, .ref m3, .ref m4, .ref m5, .int y.2.2.2.2.2.2.2.1, .int y.2.2.2.2.2.2.2.2.1, .int y.2.2.2.2.2.2.2.2.2.1, .int y.2.2.2.2.2.2.2.2.2.2.1, .int y.2.2.2.2.2.2.2.2.2.2.2.1, .int y.2.2.2.2.2.2.2.2.2.2.2.2.1, .int y.2.2.2.2.2.2.2.2.2.2.2.2.2.1, .int y.2.2.2.2.2.2.2.2.2.2.2.2.2.2, .ref m6, .ref m7])), (mK, .inl (cI, 1000, .inl (upd Kf (500 * 0 + nl) z1))), (mV, .inl (cI, 1000, .inl (upd Vf (500 * 0 + nl) z2))), (mN, .inl (cI, 2, .inl (jb_two (nl + 1) nr))), (mR, .inl (cI, 10000, .inl Rf)), (mB, .inl (cI, 420, .inl Bf)), (mX, .inl (cI, 10, .inl Nf)), (m1, .inl (cI, 4000, .inl y.1)), (m2, .inl (cI, 4000, .inl y.2.1)), (m3, .inl (cI, 4000, .inl y.2.2.1)), (m4, .inl (cI, 4000, .inl y.2.2.2.1)), (m5, .inl (cI, 4000, .inl y.2.2.2.2.1)), (m6, .inl (cI, 4, .inl y.2.2.2.2.2.1)), (m7, .inl (cI, 1500, .inl y.2.2.2.2.2.2.1))] H := hP
        have hD : va_D A [(hM, .inr (6, [.ref mK, .ref mV, .ref mN, .int (nI per), .int (nI mem), .int (nI par), .ref mR, .ref mB, .ref mX, .ref m1, .ref m2, .ref m3, .ref m4, .ref m5, .int y.2.2.2.2.2.2.2.1, .int y.2.2.2.2.2.2.2.2.1, .int y.2.2.2.2.2.2.2.2.2.1, .int y.2.2.2.2.2.2.2.2.2.2.1, .int y.2.2.2.2.2.2.2.2.2.2.2.1, .int y.2.2.2.2.2.2.2.2.2.2.2.2.1, .int y.2.2.2.2.2.2.2.2.2.2.2.2.2.1, .int y.2.2.2.2.2.2.2.2.2.2.2.2.2.2, .ref m6, .ref m7])), (mK, .inl (cI, 1000, .inl (upd Kf (500 * 0 + nl) z1))), (mV, .inl (cI, 1000, .inl (upd Vf (500 * 0 + nl) z2))), (mN, .inl (cI, 2, .inl (jb_two (nl + 1) nr))), (mR, .inl (cI, 10000, .inl Rf)), (mB, .inl (cI, 420, .inl Bf)), (mX, .inl (cI, 10, .inl Nf)), (m1, .inl (cI, 4000, .inl y.1)), (m2, .inl (cI, 4000, .inl y.2.1)), (m3, .inl (cI, 4000, .inl y.2.2.1)), (m4, .inl (cI, 4000, .inl y.2.2.2.1)), (m5, .inl (cI, 4000, .inl y.2.2.2.2.1)), (m6, .inl (cI, 4, .inl y.2.2.2.2.2.1)), (m7, .inl (cI, 1500, .inl y.2.2.2.2.2.2.1))] := hD
        refine lv_aload_n hx hb dX6_row_70 rfl (lv_at hl 0 rfl) ?_
        refine va_get (D := (dC, dI)) (ci := 6) (v := .ref mN) (C := RX6) (T := TX6) (N := 24) hx hb hts iX6_row_X6 hown hK hP 0 rfl rfl 2 (by decide) (hts (.fieldLink RX6 16 "JoinBenchModel" "many" "[I") (by decide +kernel)) (fun _ h9 => h9) rfl dX6_row_71 ?_
        refine lv_iload_n hx hb dX6_row_74 rfl (lv_at hl 1 rfl) ?_
        refine va_iald hx hb hK hP 3 0 rfl rfl (i := 0) (by unfold vp_in; decide) dX6_row_75 ?_
        refine lv_topi (fun v_11 ev_11 => ?_)
        have hv_11 : v_11 = nI (nl + 1) := ev_11.trans (rfl)
        clear ev_11; subst hv_11
        have hP9 : va_P (dC, dI) vwCl [(hM, .inr (6, [.ref mK, .ref mV, .ref mN, .int (nI per), .int (nI mem), .int (nI par), .ref mR, .ref mB, .ref mX, .ref m1, .ref m2, .ref m3, .ref m4, .ref m5, .int y.2.2.2.2.2.2.2.1, .int y.2.2.2.2.2.2.2.2.1, .int y.2.2.2.2.2.2.2.2.2.1, .int y.2.2.2.2.2.2.2.2.2.2.1, .int y.2.2.2.2.2.2.2.2.2.2.2.1, .int y.2.2.2.2.2.2.2.2.2.2.2.2.1, .int y.2.2.2.2.2.2.2.2.2.2.2.2.2.1, .int y.2.2.2.2.2.2.2.2.2.2.2.2.2.2, .ref m6, .ref m7])), (mK, .inl (cI, 1000, .inl (jm_rK Kf 0 nl nr z1))), (mV, .inl (cI, 1000, .inl (jm_rK Vf 0 nl nr z2))), (mN, .inl (cI, 2, .inl (jb_two (jb_if 0 0 (jb_addN nl) nl) (jb_if 0 1 (jb_addN nr) nr)))), (mR, .inl (cI, 10000, .inl Rf)), (mB, .inl (cI, 420, .inl Bf)), (mX, .inl (cI, 10, .inl Nf)), (m1, .inl (cI, 4000, .inl y.1)), (m2, .inl (cI, 4000, .inl y.2.1)), (m3, .inl (cI, 4000, .inl y.2.2.1)), (m4, .inl (cI, 4000, .inl y.2.2.2.1)), (m5, .inl (cI, 4000, .inl y.2.2.2.2.1)), (m6, .inl (cI, 4, .inl y.2.2.2.2.2.1)), (m7, .inl (cI, 1500, .inl y.2.2.2.2.2.2.1))] H := by rw [show jm_rK Kf 0 nl nr z1 = upd Kf (500 * 0 + nl) z1 from jm_rK_0.trans (if_pos hlt), show jm_rK Vf 0 nl nr z2 = upd Vf (500 * 0 + nl) z2 from jm_rK_0.trans (if_pos hlt), jb_if_y (t := 0) (k := 0) (a := jb_addN nl) (b := nl) rfl, jb_if_n (t := 0) (k := 1) (a := jb_addN nr) (b := nr) (by decide), jb_addN_lt hlt]; exact hP.sub [0, 1, 2, 3, 4, 5, 6, 7, 8, 9, 10, 11, 12, 13] rfl
        have hD9 : va_D A [(hM, .inr (6, [.ref mK, .ref mV, .ref mN, .int (nI per), .int (nI mem), .int (nI par), .ref mR, .ref mB, .ref mX, .ref m1, .ref m2, .ref m3, .ref m4, .ref m5, .int y.2.2.2.2.2.2.2.1, .int y.2.2.2.2.2.2.2.2.1, .int y.2.2.2.2.2.2.2.2.2.1, .int y.2.2.2.2.2.2.2.2.2.2.1, .int y.2.2.2.2.2.2.2.2.2.2.2.1, .int y.2.2.2.2.2.2.2.2.2.2.2.2.1, .int y.2.2.2.2.2.2.2.2.2.2.2.2.2.1, .int y.2.2.2.2.2.2.2.2.2.2.2.2.2.2, .ref m6, .ref m7])), (mK, .inl (cI, 1000, .inl (jm_rK Kf 0 nl nr z1))), (mV, .inl (cI, 1000, .inl (jm_rK Vf 0 nl nr z2))), (mN, .inl (cI, 2, .inl (jb_two (jb_if 0 0 (jb_addN nl) nl) (jb_if 0 1 (jb_addN nr) nr)))), (mR, .inl (cI, 10000, .inl Rf)), (mB, .inl (cI, 420, .inl Bf)), (mX, .inl (cI, 10, .inl Nf)), (m1, .inl (cI, 4000, .inl y.1)), (m2, .inl (cI, 4000, .inl y.2.1)), (m3, .inl (cI, 4000, .inl y.2.2.1)), (m4, .inl (cI, 4000, .inl y.2.2.2.1)), (m5, .inl (cI, 4000, .inl y.2.2.2.2.1)), (m6, .inl (cI, 4, .inl y.2.2.2.2.2.1)), (m7, .inl (cI, 1500, .inl y.2.2.2.2.2.2.1))] := by rw [show jm_rK Kf 0 nl nr z1 = upd Kf (500 * 0 + nl) z1 from jm_rK_0.trans (if_pos hlt), show jm_rK Vf 0 nl nr z2 = upd Vf (500 * 0 + nl) z2 from jm_rK_0.trans (if_pos hlt), jb_if_y (t := 0) (k := 0) (a := jb_addN nl) (b := nl) rfl, jb_if_n (t := 0) (k := 1) (a := jb_addN nr) (b := nr) (by decide), jb_addN_lt hlt]; exact hD.sub [0, 1, 2, 3, 4, 5, 6, 7, 8, 9, 10, 11, 12, 13] (by decide) rfl
        exact W.iret (v := nI (nl + 1)) hx hb hr (fun t ht hW => ⟨⟨_, (), rfl, by rw [jb_ans0 rfl]; exact (jb_addR_lt hlt).symm, by rw [ht]; exact hP9, hD9⟩, hS.F ht⟩) hS.2.2 dX6_row_76
      · have hge : ¬ nl < 500 := by have := (nI_eq (a := nl) (b := 500) (by omega) (by decide)).mp c_18; omega
        refine lv_bipush (v := (-2)) hx hb dX6_row_21 (by decide) ?_
        have hP9 : va_P (dC, dI) vwCl [(hM, .inr (6, [.ref mK, .ref mV, .ref mN, .int (nI per), .int (nI mem), .int (nI par), .ref mR, .ref mB, .ref mX, .ref m1, .ref m2, .ref m3, .ref m4, .ref m5, .int y.2.2.2.2.2.2.2.1, .int y.2.2.2.2.2.2.2.2.1, .int y.2.2.2.2.2.2.2.2.2.1, .int y.2.2.2.2.2.2.2.2.2.2.1, .int y.2.2.2.2.2.2.2.2.2.2.2.1, .int y.2.2.2.2.2.2.2.2.2.2.2.2.1, .int y.2.2.2.2.2.2.2.2.2.2.2.2.2.1, .int y.2.2.2.2.2.2.2.2.2.2.2.2.2.2, .ref m6, .ref m7])), (mK, .inl (cI, 1000, .inl (jm_rK Kf 0 nl nr z1))), (mV, .inl (cI, 1000, .inl (jm_rK Vf 0 nl nr z2))), (mN, .inl (cI, 2, .inl (jb_two (jb_if 0 0 (jb_addN nl) nl) (jb_if 0 1 (jb_addN nr) nr)))), (mR, .inl (cI, 10000, .inl Rf)), (mB, .inl (cI, 420, .inl Bf)), (mX, .inl (cI, 10, .inl Nf)), (m1, .inl (cI, 4000, .inl y.1)), (m2, .inl (cI, 4000, .inl y.2.1)), (m3, .inl (cI, 4000, .inl y.2.2.1)), (m4, .inl (cI, 4000, .inl y.2.2.2.1)), (m5, .inl (cI, 4000, .inl y.2.2.2.2.1)), (m6, .inl (cI, 4, .inl y.2.2.2.2.2.1)), (m7, .inl (cI, 1500, .inl y.2.2.2.2.2.2.1))] s.heap := by rw [show jm_rK Kf 0 nl nr z1 = Kf from jm_rK_0.trans (if_neg hge), show jm_rK Vf 0 nl nr z2 = Vf from jm_rK_0.trans (if_neg hge), jb_if_y (t := 0) (k := 0) (a := jb_addN nl) (b := nl) rfl, jb_if_n (t := 0) (k := 1) (a := jb_addN nr) (b := nr) (by decide), jb_addN_ge hge]; exact hP.sub [0, 1, 2, 3, 4, 5, 6, 7, 8, 9, 10, 11, 12, 13] rfl
        have hD9 : va_D A [(hM, .inr (6, [.ref mK, .ref mV, .ref mN, .int (nI per), .int (nI mem), .int (nI par), .ref mR, .ref mB, .ref mX, .ref m1, .ref m2, .ref m3, .ref m4, .ref m5, .int y.2.2.2.2.2.2.2.1, .int y.2.2.2.2.2.2.2.2.1, .int y.2.2.2.2.2.2.2.2.2.1, .int y.2.2.2.2.2.2.2.2.2.2.1, .int y.2.2.2.2.2.2.2.2.2.2.2.1, .int y.2.2.2.2.2.2.2.2.2.2.2.2.1, .int y.2.2.2.2.2.2.2.2.2.2.2.2.2.1, .int y.2.2.2.2.2.2.2.2.2.2.2.2.2.2, .ref m6, .ref m7])), (mK, .inl (cI, 1000, .inl (jm_rK Kf 0 nl nr z1))), (mV, .inl (cI, 1000, .inl (jm_rK Vf 0 nl nr z2))), (mN, .inl (cI, 2, .inl (jb_two (jb_if 0 0 (jb_addN nl) nl) (jb_if 0 1 (jb_addN nr) nr)))), (mR, .inl (cI, 10000, .inl Rf)), (mB, .inl (cI, 420, .inl Bf)), (mX, .inl (cI, 10, .inl Nf)), (m1, .inl (cI, 4000, .inl y.1)), (m2, .inl (cI, 4000, .inl y.2.1)), (m3, .inl (cI, 4000, .inl y.2.2.1)), (m4, .inl (cI, 4000, .inl y.2.2.2.1)), (m5, .inl (cI, 4000, .inl y.2.2.2.2.1)), (m6, .inl (cI, 4, .inl y.2.2.2.2.2.1)), (m7, .inl (cI, 1500, .inl y.2.2.2.2.2.2.1))] := by rw [show jm_rK Kf 0 nl nr z1 = Kf from jm_rK_0.trans (if_neg hge), show jm_rK Vf 0 nl nr z2 = Vf from jm_rK_0.trans (if_neg hge), jb_if_y (t := 0) (k := 0) (a := jb_addN nl) (b := nl) rfl, jb_if_n (t := 0) (k := 1) (a := jb_addN nr) (b := nr) (by decide), jb_addN_ge hge]; exact hD.sub [0, 1, 2, 3, 4, 5, 6, 7, 8, 9, 10, 11, 12, 13] (by decide) rfl
        exact W.iret (v := (-2)) hx hb hr (fun t ht hW => ⟨⟨_, (), rfl, by rw [jb_ans0 rfl]; exact (jb_addR_ge hge).symm, by rw [ht]; exact hP9, hD9⟩, hS.F ht⟩) hS.2.2 dX6_row_23
    · exact absurd c_4 (by decide)
  · by_cases h9 : t = 1
    · subst h9
      refine lv_if_ne (tgt := 9) hx hb dX6_row_4 (by decide) (fun c_4 => ?_) (fun c_4 => ?_)
      · refine lv_aload_n hx hb dX6_row_9 rfl (lv_at hl 0 rfl) ?_
        refine va_get (D := (dC, dI)) (ci := 6) (v := .ref mN) (C := RX6) (T := TX6) (N := 24) hx hb hts iX6_row_X6 hown hK hP 0 rfl rfl 2 (by decide) (hts (.fieldLink RX6 16 "JoinBenchModel" "many" "[I") (by decide +kernel)) (fun _ h9 => h9) rfl dX6_row_10 ?_
        refine lv_iload_n hx hb dX6_row_13 rfl (lv_at hl 1 rfl) ?_
        refine va_iald hx hb hK hP 3 0 rfl rfl (i := 1) (by unfold vp_in; decide) dX6_row_14 ?_
        refine lv_topi (fun v_12 ev_12 => ?_)
        have hv_12 : v_12 = nI nr := ev_12.trans (rfl)
        clear ev_12; subst hv_12
        refine lv_sipush (v := 500) hx hb dX6_row_15 (by decide) ?_
        refine lv_icmp_ne (tgt := 24) hx hb dX6_row_18 (by decide) (fun c_18 => ?_) (fun c_18 => ?_)
        · have hlt : nr < 500 := by have h9 : ¬ nr = 500 := fun h => c_18 (by rw [h]; rfl); omega
          refine lv_aload_n hx hb dX6_row_24 rfl (lv_at hl 0 rfl) ?_
          refine va_get (D := (dC, dI)) (ci := 6) (v := .ref mK) (C := RX6) (T := TX6) (N := 24) hx hb hts iX6_row_X6 hown hK hP 0 rfl rfl 0 (by decide) (hts (.fieldLink RX6 7 "JoinBenchModel" "keys" "[I") (by decide +kernel)) (fun _ h9 => h9) rfl dX6_row_25 ?_
          refine lv_sipush (v := 500) hx hb dX6_row_28 (by decide) ?_
          refine lv_iload_n hx hb dX6_row_31 rfl (lv_at hl 1 rfl) ?_
          refine lv_imul hx hb dX6_row_32 ?_
          refine lv_topi (fun v_13 ev_13 => ?_)
          have hv_13 : v_13 = nI (500 * 1) := ev_13.trans (jb_nmul 500 1)
          clear ev_13; subst hv_13
          refine lv_aload_n hx hb dX6_row_33 rfl (lv_at hl 0 rfl) ?_
          refine va_get (D := (dC, dI)) (ci := 6) (v := .ref mN) (C := RX6) (T := TX6) (N := 24) hx hb hts iX6_row_X6 hown hK hP 0 rfl rfl 2 (by decide) (hts (.fieldLink RX6 16 "JoinBenchModel" "many" "[I") (by decide +kernel)) (fun _ h9 => h9) rfl dX6_row_34 ?_
          refine lv_iload_n hx hb dX6_row_37 rfl (lv_at hl 1 rfl) ?_
          refine va_iald hx hb hK hP 3 0 rfl rfl (i := 1) (by unfold vp_in; decide) dX6_row_38 ?_
          refine lv_topi (fun v_14 ev_14 => ?_)
          have hv_14 : v_14 = nI nr := ev_14.trans (rfl)
          clear ev_14; subst hv_14
          refine lv_iadd hx hb dX6_row_39 ?_
          refine lv_topi (fun v_15 ev_15 => ?_)
          have hv_15 : v_15 = nI (500 * 1 + nr) := ev_15.trans (nI_add _ _)
          clear ev_15; subst hv_15
          refine lv_iload_n hx hb dX6_row_40 rfl (lv_at hl 2 rfl) ?_
          refine va_iast hx hb hK hP hD hS 1 0 rfl rfl (i := nI (500 * 1 + nr)) (x := z1) (vp_in_nI (n := 500 * 1 + nr) (by omega) (by decide)) dX6_row_41 (fun H locs hP hD hS => ?_)
          rw [show (nI (500 * 1 + nr) : Int32).toNatClampNeg = (500 * 1 + nr) from nI_clamp (by omega)] at hP hD
          have hP : va_P (dC, dI) vwCl [(hM, .inr (6, [.ref mK, .ref mV, .ref mN, .int (nI per), .int (nI mem), .int (nI par), .ref mR, .ref mB, .ref mX, .ref m1, .ref m2, .ref m3, .ref m4, .ref m5, .int y.2.2.2.2.2.2.2.1, .int y.2.2.2.2.2.2.2.2.1, .int y.2.2.2.2.2.2.2.2.2.1, .int y.2.2.2.2.2.2.2.2.2.2.1, .int y.2.2.2.2.2.2.2.2.2.2.2.1, .int y.2.2.2.2.2.2.2.2.2.2.2.2.1, .int y.2.2.2.2.2.2.2.2.2.2.2.2.2.1, .int y.2.2.2.2.2.2.2.2.2.2.2.2.2.2, .ref m6, .ref m7])), (mK, .inl (cI, 1000, .inl (upd Kf (500 * 1 + nr) z1))), (mV, .inl (cI, 1000, .inl Vf)), (mN, .inl (cI, 2, .inl (jb_two nl nr))), (mR, .inl (cI, 10000, .inl Rf)), (mB, .inl (cI, 420, .inl Bf)), (mX, .inl (cI, 10, .inl Nf)), (m1, .inl (cI, 4000, .inl y.1)), (m2, .inl (cI, 4000, .inl y.2.1)), (m3, .inl (cI, 4000, .inl y.2.2.1)), (m4, .inl (cI, 4000, .inl y.2.2.2.1)), (m5, .inl (cI, 4000, .inl y.2.2.2.2.1)), (m6, .inl (cI, 4, .inl y.2.2.2.2.2.1)), (m7, .inl (cI, 1500, .inl y.2.2.2.2.2.2.1))] H := hP
          have hD : va_D A [(hM, .inr (6, [.ref mK, .ref mV, .ref mN, .int (nI per), .int (nI mem), .int (nI par), .ref mR, .ref mB, .ref mX, .ref m1, .ref m2, .ref m3, .ref m4, .ref m5, .int y.2.2.2.2.2.2.2.1, .int y.2.2.2.2.2.2.2.2.1, .int y.2.2.2.2.2.2.2.2.2.1, .int y.2.2.2.2.2.2.2.2.2.2.1, .int y.2.2.2.2.2.2.2.2.2.2.2.1, .int y.2.2.2.2.2.2.2.2.2.2.2.2.1, .int y.2.2.2.2.2.2.2.2.2.2.2.2.2.1, .int y.2.2.2.2.2.2.2.2.2.2.2.2.2.2, .ref m6, .ref m7])), (mK, .inl (cI, 1000, .inl (upd Kf (500 * 1 + nr) z1))), (mV, .inl (cI, 1000, .inl Vf)), (mN, .inl (cI, 2, .inl (jb_two nl nr))), (mR, .inl (cI, 10000, .inl Rf)), (mB, .inl (cI, 420, .inl Bf)), (mX, .inl (cI, 10, .inl Nf)), (m1, .inl (cI, 4000, .inl y.1)), (m2, .inl (cI, 4000, .inl y.2.1)), (m3, .inl (cI, 4000, .inl y.2.2.1)), (m4, .inl (cI, 4000, .inl y.2.2.2.1)), (m5, .inl (cI, 4000, .inl y.2.2.2.2.1)), (m6, .inl (cI, 4, .inl y.2.2.2.2.2.1)), (m7, .inl (cI, 1500, .inl y.2.2.2.2.2.2.1))] := hD
          refine lv_aload_n hx hb dX6_row_42 rfl (lv_at hl 0 rfl) ?_
          refine va_get (D := (dC, dI)) (ci := 6) (v := .ref mV) (C := RX6) (T := TX6) (N := 24) hx hb hts iX6_row_X6 hown hK hP 0 rfl rfl 1 (by decide) (hts (.fieldLink RX6 13 "JoinBenchModel" "values" "[I") (by decide +kernel)) (fun _ h9 => h9) rfl dX6_row_43 ?_
          refine lv_sipush (v := 500) hx hb dX6_row_46 (by decide) ?_
          refine lv_iload_n hx hb dX6_row_49 rfl (lv_at hl 1 rfl) ?_
          refine lv_imul hx hb dX6_row_50 ?_
          refine lv_topi (fun v_16 ev_16 => ?_)
          have hv_16 : v_16 = nI (500 * 1) := ev_16.trans (jb_nmul 500 1)
          clear ev_16; subst hv_16
          refine lv_aload_n hx hb dX6_row_51 rfl (lv_at hl 0 rfl) ?_
          refine va_get (D := (dC, dI)) (ci := 6) (v := .ref mN) (C := RX6) (T := TX6) (N := 24) hx hb hts iX6_row_X6 hown hK hP 0 rfl rfl 2 (by decide) (hts (.fieldLink RX6 16 "JoinBenchModel" "many" "[I") (by decide +kernel)) (fun _ h9 => h9) rfl dX6_row_52 ?_
          refine lv_iload_n hx hb dX6_row_55 rfl (lv_at hl 1 rfl) ?_
          refine va_iald hx hb hK hP 3 0 rfl rfl (i := 1) (by unfold vp_in; decide) dX6_row_56 ?_
          refine lv_topi (fun v_17 ev_17 => ?_)
          have hv_17 : v_17 = nI nr := ev_17.trans (rfl)
          clear ev_17; subst hv_17
          refine lv_iadd hx hb dX6_row_57 ?_
          refine lv_topi (fun v_18 ev_18 => ?_)
          have hv_18 : v_18 = nI (500 * 1 + nr) := ev_18.trans (nI_add _ _)
          clear ev_18; subst hv_18
          refine lv_iload_n hx hb dX6_row_58 rfl (lv_at hl 3 rfl) ?_
          refine va_iast hx hb hK hP hD hS 2 0 rfl rfl (i := nI (500 * 1 + nr)) (x := z2) (vp_in_nI (n := 500 * 1 + nr) (by omega) (by decide)) dX6_row_59 (fun H locs hP hD hS => ?_)
          rw [show (nI (500 * 1 + nr) : Int32).toNatClampNeg = (500 * 1 + nr) from nI_clamp (by omega)] at hP hD
          have hP : va_P (dC, dI) vwCl [(hM, .inr (6, [.ref mK, .ref mV, .ref mN, .int (nI per), .int (nI mem), .int (nI par), .ref mR, .ref mB, .ref mX, .ref m1, .ref m2, .ref m3, .ref m4, .ref m5, .int y.2.2.2.2.2.2.2.1, .int y.2.2.2.2.2.2.2.2.1, .int y.2.2.2.2.2.2.2.2.2.1, .int y.2.2.2.2.2.2.2.2.2.2.1, .int y.2.2.2.2.2.2.2.2.2.2.2.1, .int y.2.2.2.2.2.2.2.2.2.2.2.2.1, .int y.2.2.2.2.2.2.2.2.2.2.2.2.2.1, .int y.2.2.2.2.2.2.2.2.2.2.2.2.2.2, .ref m6, .ref m7])), (mK, .inl (cI, 1000, .inl (upd Kf (500 * 1 + nr) z1))), (mV, .inl (cI, 1000, .inl (upd Vf (500 * 1 + nr) z2))), (mN, .inl (cI, 2, .inl (jb_two nl nr))), (mR, .inl (cI, 10000, .inl Rf)), (mB, .inl (cI, 420, .inl Bf)), (mX, .inl (cI, 10, .inl Nf)), (m1, .inl (cI, 4000, .inl y.1)), (m2, .inl (cI, 4000, .inl y.2.1)), (m3, .inl (cI, 4000, .inl y.2.2.1)), (m4, .inl (cI, 4000, .inl y.2.2.2.1)), (m5, .inl (cI, 4000, .inl y.2.2.2.2.1)), (m6, .inl (cI, 4, .inl y.2.2.2.2.2.1)), (m7, .inl (cI, 1500, .inl y.2.2.2.2.2.2.1))] H := hP
          have hD : va_D A [(hM, .inr (6, [.ref mK, .ref mV, .ref mN, .int (nI per), .int (nI mem), .int (nI par), .ref mR, .ref mB, .ref mX, .ref m1, .ref m2, .ref m3, .ref m4, .ref m5, .int y.2.2.2.2.2.2.2.1, .int y.2.2.2.2.2.2.2.2.1, .int y.2.2.2.2.2.2.2.2.2.1, .int y.2.2.2.2.2.2.2.2.2.2.1, .int y.2.2.2.2.2.2.2.2.2.2.2.1, .int y.2.2.2.2.2.2.2.2.2.2.2.2.1, .int y.2.2.2.2.2.2.2.2.2.2.2.2.2.1, .int y.2.2.2.2.2.2.2.2.2.2.2.2.2.2, .ref m6, .ref m7])), (mK, .inl (cI, 1000, .inl (upd Kf (500 * 1 + nr) z1))), (mV, .inl (cI, 1000, .inl (upd Vf (500 * 1 + nr) z2))), (mN, .inl (cI, 2, .inl (jb_two nl nr))), (mR, .inl (cI, 10000, .inl Rf)), (mB, .inl (cI, 420, .inl Bf)), (mX, .inl (cI, 10, .inl Nf)), (m1, .inl (cI, 4000, .inl y.1)), (m2, .inl (cI, 4000, .inl y.2.1)), (m3, .inl (cI, 4000, .inl y.2.2.1)), (m4, .inl (cI, 4000, .inl y.2.2.2.1)), (m5, .inl (cI, 4000, .inl y.2.2.2.2.1)), (m6, .inl (cI, 4, .inl y.2.2.2.2.2.1)), (m7, .inl (cI, 1500, .inl y.2.2.2.2.2.2.1))] := hD
          refine lv_aload_n hx hb dX6_row_60 rfl (lv_at hl 0 rfl) ?_
          refine va_get (D := (dC, dI)) (ci := 6) (v := .ref mN) (C := RX6) (T := TX6) (N := 24) hx hb hts iX6_row_X6 hown hK hP 0 rfl rfl 2 (by decide) (hts (.fieldLink RX6 16 "JoinBenchModel" "many" "[I") (by decide +kernel)) (fun _ h9 => h9) rfl dX6_row_61 ?_
          refine lv_iload_n hx hb dX6_row_64 rfl (lv_at hl 1 rfl) ?_
          refine lv_dup2_11 hx hb dX6_row_65 rfl rfl ?_
          refine va_iald hx hb hK hP 3 0 rfl rfl (i := 1) (by unfold vp_in; decide) dX6_row_66 ?_
          refine lv_topi (fun v_19 ev_19 => ?_)
          have hv_19 : v_19 = nI nr := ev_19.trans (rfl)
          clear ev_19; subst hv_19
          refine lv_iconst (v := 1) hx hb dX6_row_67 (by decide) ?_
          refine lv_iadd hx hb dX6_row_68 ?_
          refine lv_topi (fun v_20 ev_20 => ?_)
          have hv_20 : v_20 = nI (nr + 1) := ev_20.trans (nI_1 _)
          clear ev_20; subst hv_20
          refine va_iast hx hb hK hP hD hS 3 0 rfl rfl (i := 1) (x := nI (nr + 1)) (by unfold vp_in; decide) dX6_row_69 (fun H locs hP hD hS => ?_)
          rw [show (1 : Int32).toNatClampNeg = 1 from rfl] at hP hD
          have hP : va_P (dC, dI) vwCl [(hM, .inr (6, [.ref mK, .ref mV, .ref mN, .int (nI per), .int (nI mem), .int (nI par), .ref mR, .ref mB, .ref mX, .ref m1, .ref m2, .ref m3, .ref m4, .ref m5, .int y.2.2.2.2.2.2.2.1, .int y.2.2.2.2.2.2.2.2.1, .int y.2.2.2.2.2.2.2.2.2.1, .int y.2.2.2.2.2.2.2.2.2.2.1, .int y.2.2.2.2.2.2.2.2.2.2.2.1, .int y.2.2.2.2.2.2.2.2.2.2.2.2.1, .int y.2.2.2.2.2.2.2.2.2.2.2.2.2.1, .int y.2.2.2.2.2.2.2.2.2.2.2.2.2.2, .ref m6, .ref m7])), (mK, .inl (cI, 1000, .inl (upd Kf (500 * 1 + nr) z1))), (mV, .inl (cI, 1000, .inl (upd Vf (500 * 1 + nr) z2))), (mN, .inl (cI, 2, .inl (upd (jb_two nl nr) 1 (nI (nr + 1))))), (mR, .inl (cI, 10000, .inl Rf)), (mB, .inl (cI, 420, .inl Bf)), (mX, .inl (cI, 10, .inl Nf)), (m1, .inl (cI, 4000, .inl y.1)), (m2, .inl (cI, 4000, .inl y.2.1)), (m3, .inl (cI, 4000, .inl y.2.2.1)), (m4, .inl (cI, 4000, .inl y.2.2.2.1)), (m5, .inl (cI, 4000, .inl y.2.2.2.2.1)), (m6, .inl (cI, 4, .inl y.2.2.2.2.2.1)), (m7, .inl (cI, 1500, .inl y.2.2.2.2.2.2.1))] H := hP
          have hD : va_D A [(hM, .inr (6, [.ref mK, .ref mV, .ref mN, .int (nI per), .int (nI mem), .int (nI par), .ref mR, .ref mB, .ref mX, .ref m1, .ref m2, .ref m3, .ref m4, .ref m5, .int y.2.2.2.2.2.2.2.1, .int y.2.2.2.2.2.2.2.2.1, .int y.2.2.2.2.2.2.2.2.2.1, .int y.2.2.2.2.2.2.2.2.2.2.1, .int y.2.2.2.2.2.2.2.2.2.2.2.1, .int y.2.2.2.2.2.2.2.2.2.2.2.2.1, .int y.2.2.2.2.2.2.2.2.2.2.2.2.2.1, .int y.2.2.2.2.2.2.2.2.2.2.2.2.2.2, .ref m6, .ref m7])), (mK, .inl (cI, 1000, .inl (upd Kf (500 * 1 + nr) z1))), (mV, .inl (cI, 1000, .inl (upd Vf (500 * 1 + nr) z2))), (mN, .inl (cI, 2, .inl (upd (jb_two nl nr) 1 (nI (nr + 1))))), (mR, .inl (cI, 10000, .inl Rf)), (mB, .inl (cI, 420, .inl Bf)), (mX, .inl (cI, 10, .inl Nf)), (m1, .inl (cI, 4000, .inl y.1)), (m2, .inl (cI, 4000, .inl y.2.1)), (m3, .inl (cI, 4000, .inl y.2.2.1)), (m4, .inl (cI, 4000, .inl y.2.2.2.1)), (m5, .inl (cI, 4000, .inl y.2.2.2.2.1)), (m6, .inl (cI, 4, .inl y.2.2.2.2.2.1)), (m7, .inl (cI, 1500, .inl y.2.2.2.2.2.2.1))] := hD
          rw [jb_two_1] at hP hD
          have hP : va_P (dC, dI) vwCl [(hM, .inr (6, [.ref mK, .ref mV, .ref mN, .int (nI per), .int (nI mem), .int (nI par), .ref mR, .ref mB, .ref mX, .ref m1, .ref m2, .ref m3, .ref m4, .ref m5, .int y.2.2.2.2.2.2.2.1, .int y.2.2.2.2.2.2.2.2.1, .int y.2.2.2.2.2.2.2.2.2.1, .int y.2.2.2.2.2.2.2.2.2.2.1, .int y.2.2.2.2.2.2.2.2.2.2.2.1, .int y.2.2.2.2.2.2.2.2.2.2.2.2.1, .int y.2.2.2.2.2.2.2.2.2.2.2.2.2.1, .int y.2.2.2.2.2.2.2.2.2.2.2.2.2.2, .ref m6, .ref m7])), (mK, .inl (cI, 1000, .inl (upd Kf (500 * 1 + nr) z1))), (mV, .inl (cI, 1000, .inl (upd Vf (500 * 1 + nr) z2))), (mN, .inl (cI, 2, .inl (jb_two nl (nr + 1)))), (mR, .inl (cI, 10000, .inl Rf)), (mB, .inl (cI, 420, .inl Bf)), (mX, .inl (cI, 10, .inl Nf)), (m1, .inl (cI, 4000, .inl y.1)), (m2, .inl (cI, 4000, .inl y.2.1)), (m3, .inl (cI, 4000, .inl y.2.2.1)), (m4, .inl (cI, 4000, .inl y.2.2.2.1)), (m5, .inl (cI, 4000, .inl y.2.2.2.2.1)), (m6, .inl (cI, 4, .inl y.2.2.2.2.2.1)), (m7, .inl (cI, 1500, .inl y.2.2.2.2.2.2.1))] H := hP
          have hD : va_D A [(hM, .inr (6, [.ref mK, .ref mV, .ref mN, .int (nI per), .int (nI mem), .int (nI par), .ref mR, .ref mB, .ref mX, .ref m1, .ref m2, .ref m3, .ref m4, .ref m5, .int y.2.2.2.2.2.2.2.1, .int y.2.2.2.2.2.2.2.2.1, .int y.2.2.2.2.2.2.2.2.2.1, .int y.2.2.2.2.2.2.2.2.2.2.1, .int y.2.2.2.2.2.2.2.2.2.2.2.1, .int y.2.2.2.2.2.2.2.2.2.2.2.2.1, .int y.2.2.2.2.2.2.2.2.2.2.2.2.2.1, .int y.2.2.2.2.2.2.2.2.2.2.2.2.2.2, .ref m6, .ref m7])), (mK, .inl (cI, 1000, .inl (upd Kf (500 * 1 + nr) z1))), (mV, .inl (cI, 1000, .inl (upd Vf (500 * 1 + nr) z2))), (mN, .inl (cI, 2, .inl (jb_two nl (nr + 1)))), (mR, .inl (cI, 10000, .inl Rf)), (mB, .inl (cI, 420, .inl Bf)), (mX, .inl (cI, 10, .inl Nf)), (m1, .inl (cI, 4000, .inl y.1)), (m2, .inl (cI, 4000, .inl y.2.1)), (m3, .inl (cI, 4000, .inl y.2.2.1)), (m4, .inl (cI, 4000, .inl y.2.2.2.1)), (m5, .inl (cI, 4000, .inl y.2.2.2.2.1)), (m6, .inl (cI, 4, .inl y.2.2.2.2.2.1)), (m7, .inl (cI, 1500, .inl y.2.2.2.2.2.2.1))] := hD
          refine lv_aload_n hx hb dX6_row_70 rfl (lv_at hl 0 rfl) ?_
          refine va_get (D := (dC, dI)) (ci := 6) (v := .ref mN) (C := RX6) (T := TX6) (N := 24) hx hb hts iX6_row_X6 hown hK hP 0 rfl rfl 2 (by decide) (hts (.fieldLink RX6 16 "JoinBenchModel" "many" "[I") (by decide +kernel)) (fun _ h9 => h9) rfl dX6_row_71 ?_
          refine lv_iload_n hx hb dX6_row_74 rfl (lv_at hl 1 rfl) ?_
          refine va_iald hx hb hK hP 3 0 rfl rfl (i := 1) (by unfold vp_in; decide) dX6_row_75 ?_
          refine lv_topi (fun v_21 ev_21 => ?_)
          have hv_21 : v_21 = nI (nr + 1) := ev_21.trans (rfl)
          clear ev_21; subst hv_21
          have hP9 : va_P (dC, dI) vwCl [(hM, .inr (6, [.ref mK, .ref mV, .ref mN, .int (nI per), .int (nI mem), .int (nI par), .ref mR, .ref mB, .ref mX, .ref m1, .ref m2, .ref m3, .ref m4, .ref m5, .int y.2.2.2.2.2.2.2.1, .int y.2.2.2.2.2.2.2.2.1, .int y.2.2.2.2.2.2.2.2.2.1, .int y.2.2.2.2.2.2.2.2.2.2.1, .int y.2.2.2.2.2.2.2.2.2.2.2.1, .int y.2.2.2.2.2.2.2.2.2.2.2.2.1, .int y.2.2.2.2.2.2.2.2.2.2.2.2.2.1, .int y.2.2.2.2.2.2.2.2.2.2.2.2.2.2, .ref m6, .ref m7])), (mK, .inl (cI, 1000, .inl (jm_rK Kf 1 nl nr z1))), (mV, .inl (cI, 1000, .inl (jm_rK Vf 1 nl nr z2))), (mN, .inl (cI, 2, .inl (jb_two (jb_if 1 0 (jb_addN nl) nl) (jb_if 1 1 (jb_addN nr) nr)))), (mR, .inl (cI, 10000, .inl Rf)), (mB, .inl (cI, 420, .inl Bf)), (mX, .inl (cI, 10, .inl Nf)), (m1, .inl (cI, 4000, .inl y.1)), (m2, .inl (cI, 4000, .inl y.2.1)), (m3, .inl (cI, 4000, .inl y.2.2.1)), (m4, .inl (cI, 4000, .inl y.2.2.2.1)), (m5, .inl (cI, 4000, .inl y.2.2.2.2.1)), (m6, .inl (cI, 4, .inl y.2.2.2.2.2.1)), (m7, .inl (cI, 1500, .inl y.2.2.2.2.2.2.1))] H := by rw [show jm_rK Kf 1 nl nr z1 = upd Kf (500 * 1 + nr) z1 from jm_rK_1.trans (if_pos hlt), show jm_rK Vf 1 nl nr z2 = upd Vf (500 * 1 + nr) z2 from jm_rK_1.trans (if_pos hlt), jb_if_n (t := 1) (k := 0) (a := jb_addN nl) (b := nl) (by decide), jb_if_y (t := 1) (k := 1) (a := jb_addN nr) (b := nr) rfl, jb_addN_lt hlt]; exact hP.sub [0, 1, 2, 3, 4, 5, 6, 7, 8, 9, 10, 11, 12, 13] rfl
          have hD9 : va_D A [(hM, .inr (6, [.ref mK, .ref mV, .ref mN, .int (nI per), .int (nI mem), .int (nI par), .ref mR, .ref mB, .ref mX, .ref m1, .ref m2, .ref m3, .ref m4, .ref m5, .int y.2.2.2.2.2.2.2.1, .int y.2.2.2.2.2.2.2.2.1, .int y.2.2.2.2.2.2.2.2.2.1, .int y.2.2.2.2.2.2.2.2.2.2.1, .int y.2.2.2.2.2.2.2.2.2.2.2.1, .int y.2.2.2.2.2.2.2.2.2.2.2.2.1, .int y.2.2.2.2.2.2.2.2.2.2.2.2.2.1, .int y.2.2.2.2.2.2.2.2.2.2.2.2.2.2, .ref m6, .ref m7])), (mK, .inl (cI, 1000, .inl (jm_rK Kf 1 nl nr z1))), (mV, .inl (cI, 1000, .inl (jm_rK Vf 1 nl nr z2))), (mN, .inl (cI, 2, .inl (jb_two (jb_if 1 0 (jb_addN nl) nl) (jb_if 1 1 (jb_addN nr) nr)))), (mR, .inl (cI, 10000, .inl Rf)), (mB, .inl (cI, 420, .inl Bf)), (mX, .inl (cI, 10, .inl Nf)), (m1, .inl (cI, 4000, .inl y.1)), (m2, .inl (cI, 4000, .inl y.2.1)), (m3, .inl (cI, 4000, .inl y.2.2.1)), (m4, .inl (cI, 4000, .inl y.2.2.2.1)), (m5, .inl (cI, 4000, .inl y.2.2.2.2.1)), (m6, .inl (cI, 4, .inl y.2.2.2.2.2.1)), (m7, .inl (cI, 1500, .inl y.2.2.2.2.2.2.1))] := by rw [show jm_rK Kf 1 nl nr z1 = upd Kf (500 * 1 + nr) z1 from jm_rK_1.trans (if_pos hlt), show jm_rK Vf 1 nl nr z2 = upd Vf (500 * 1 + nr) z2 from jm_rK_1.trans (if_pos hlt), jb_if_n (t := 1) (k := 0) (a := jb_addN nl) (b := nl) (by decide), jb_if_y (t := 1) (k := 1) (a := jb_addN nr) (b := nr) rfl, jb_addN_lt hlt]; exact hD.sub [0, 1, 2, 3, 4, 5, 6, 7, 8, 9, 10, 11, 12, 13] (by decide) rfl
          exact W.iret (v := nI (nr + 1)) hx hb hr (fun t ht hW => ⟨⟨_, (), rfl, by rw [jb_ans1 (by decide) rfl]; exact (jb_addR_lt hlt).symm, by rw [ht]; exact hP9, hD9⟩, hS.F ht⟩) hS.2.2 dX6_row_76
        · have hge : ¬ nr < 500 := by have := (nI_eq (a := nr) (b := 500) (by omega) (by decide)).mp c_18; omega
          refine lv_bipush (v := (-2)) hx hb dX6_row_21 (by decide) ?_
          have hP9 : va_P (dC, dI) vwCl [(hM, .inr (6, [.ref mK, .ref mV, .ref mN, .int (nI per), .int (nI mem), .int (nI par), .ref mR, .ref mB, .ref mX, .ref m1, .ref m2, .ref m3, .ref m4, .ref m5, .int y.2.2.2.2.2.2.2.1, .int y.2.2.2.2.2.2.2.2.1, .int y.2.2.2.2.2.2.2.2.2.1, .int y.2.2.2.2.2.2.2.2.2.2.1, .int y.2.2.2.2.2.2.2.2.2.2.2.1, .int y.2.2.2.2.2.2.2.2.2.2.2.2.1, .int y.2.2.2.2.2.2.2.2.2.2.2.2.2.1, .int y.2.2.2.2.2.2.2.2.2.2.2.2.2.2, .ref m6, .ref m7])), (mK, .inl (cI, 1000, .inl (jm_rK Kf 1 nl nr z1))), (mV, .inl (cI, 1000, .inl (jm_rK Vf 1 nl nr z2))), (mN, .inl (cI, 2, .inl (jb_two (jb_if 1 0 (jb_addN nl) nl) (jb_if 1 1 (jb_addN nr) nr)))), (mR, .inl (cI, 10000, .inl Rf)), (mB, .inl (cI, 420, .inl Bf)), (mX, .inl (cI, 10, .inl Nf)), (m1, .inl (cI, 4000, .inl y.1)), (m2, .inl (cI, 4000, .inl y.2.1)), (m3, .inl (cI, 4000, .inl y.2.2.1)), (m4, .inl (cI, 4000, .inl y.2.2.2.1)), (m5, .inl (cI, 4000, .inl y.2.2.2.2.1)), (m6, .inl (cI, 4, .inl y.2.2.2.2.2.1)), (m7, .inl (cI, 1500, .inl y.2.2.2.2.2.2.1))] s.heap := by rw [show jm_rK Kf 1 nl nr z1 = Kf from jm_rK_1.trans (if_neg hge), show jm_rK Vf 1 nl nr z2 = Vf from jm_rK_1.trans (if_neg hge), jb_if_n (t := 1) (k := 0) (a := jb_addN nl) (b := nl) (by decide), jb_if_y (t := 1) (k := 1) (a := jb_addN nr) (b := nr) rfl, jb_addN_ge hge]; exact hP.sub [0, 1, 2, 3, 4, 5, 6, 7, 8, 9, 10, 11, 12, 13] rfl
          have hD9 : va_D A [(hM, .inr (6, [.ref mK, .ref mV, .ref mN, .int (nI per), .int (nI mem), .int (nI par), .ref mR, .ref mB, .ref mX, .ref m1, .ref m2, .ref m3, .ref m4, .ref m5, .int y.2.2.2.2.2.2.2.1, .int y.2.2.2.2.2.2.2.2.1, .int y.2.2.2.2.2.2.2.2.2.1, .int y.2.2.2.2.2.2.2.2.2.2.1, .int y.2.2.2.2.2.2.2.2.2.2.2.1, .int y.2.2.2.2.2.2.2.2.2.2.2.2.1, .int y.2.2.2.2.2.2.2.2.2.2.2.2.2.1, .int y.2.2.2.2.2.2.2.2.2.2.2.2.2.2, .ref m6, .ref m7])), (mK, .inl (cI, 1000, .inl (jm_rK Kf 1 nl nr z1))), (mV, .inl (cI, 1000, .inl (jm_rK Vf 1 nl nr z2))), (mN, .inl (cI, 2, .inl (jb_two (jb_if 1 0 (jb_addN nl) nl) (jb_if 1 1 (jb_addN nr) nr)))), (mR, .inl (cI, 10000, .inl Rf)), (mB, .inl (cI, 420, .inl Bf)), (mX, .inl (cI, 10, .inl Nf)), (m1, .inl (cI, 4000, .inl y.1)), (m2, .inl (cI, 4000, .inl y.2.1)), (m3, .inl (cI, 4000, .inl y.2.2.1)), (m4, .inl (cI, 4000, .inl y.2.2.2.1)), (m5, .inl (cI, 4000, .inl y.2.2.2.2.1)), (m6, .inl (cI, 4, .inl y.2.2.2.2.2.1)), (m7, .inl (cI, 1500, .inl y.2.2.2.2.2.2.1))] := by rw [show jm_rK Kf 1 nl nr z1 = Kf from jm_rK_1.trans (if_neg hge), show jm_rK Vf 1 nl nr z2 = Vf from jm_rK_1.trans (if_neg hge), jb_if_n (t := 1) (k := 0) (a := jb_addN nl) (b := nl) (by decide), jb_if_y (t := 1) (k := 1) (a := jb_addN nr) (b := nr) rfl, jb_addN_ge hge]; exact hD.sub [0, 1, 2, 3, 4, 5, 6, 7, 8, 9, 10, 11, 12, 13] (by decide) rfl
          exact W.iret (v := (-2)) hx hb hr (fun t ht hW => ⟨⟨_, (), rfl, by rw [jb_ans1 (by decide) rfl]; exact (jb_addR_ge hge).symm, by rw [ht]; exact hP9, hD9⟩, hS.F ht⟩) hS.2.2 dX6_row_23
      · exact absurd c_4 (by decide)
    · have hz : jb_isT t = 0 := jb_isT_n h0 h9
      refine lv_if_ne (tgt := 9) hx hb dX6_row_4 (by decide) (fun c_4 => ?_) (fun c_4 => ?_)
      · exact absurd hz c_4
      · refine lv_iconst (v := (-1)) hx hb dX6_row_7 (by decide) ?_
        have hP9 : va_P (dC, dI) vwCl [(hM, .inr (6, [.ref mK, .ref mV, .ref mN, .int (nI per), .int (nI mem), .int (nI par), .ref mR, .ref mB, .ref mX, .ref m1, .ref m2, .ref m3, .ref m4, .ref m5, .int y.2.2.2.2.2.2.2.1, .int y.2.2.2.2.2.2.2.2.1, .int y.2.2.2.2.2.2.2.2.2.1, .int y.2.2.2.2.2.2.2.2.2.2.1, .int y.2.2.2.2.2.2.2.2.2.2.2.1, .int y.2.2.2.2.2.2.2.2.2.2.2.2.1, .int y.2.2.2.2.2.2.2.2.2.2.2.2.2.1, .int y.2.2.2.2.2.2.2.2.2.2.2.2.2.2, .ref m6, .ref m7])), (mK, .inl (cI, 1000, .inl (jm_rK Kf t nl nr z1))), (mV, .inl (cI, 1000, .inl (jm_rK Vf t nl nr z2))), (mN, .inl (cI, 2, .inl (jb_two (jb_if t 0 (jb_addN nl) nl) (jb_if t 1 (jb_addN nr) nr)))), (mR, .inl (cI, 10000, .inl Rf)), (mB, .inl (cI, 420, .inl Bf)), (mX, .inl (cI, 10, .inl Nf)), (m1, .inl (cI, 4000, .inl y.1)), (m2, .inl (cI, 4000, .inl y.2.1)), (m3, .inl (cI, 4000, .inl y.2.2.1)), (m4, .inl (cI, 4000, .inl y.2.2.2.1)), (m5, .inl (cI, 4000, .inl y.2.2.2.2.1)), (m6, .inl (cI, 4, .inl y.2.2.2.2.2.1)), (m7, .inl (cI, 1500, .inl y.2.2.2.2.2.2.1))] s.heap := by rw [jm_rK_n (Kf := Kf) (nl := nl) (nr := nr) (v := z1) h0 h9, jm_rK_n (Kf := Vf) (nl := nl) (nr := nr) (v := z2) h0 h9, jb_if_n (a := jb_addN nl) (b := nl) h0, jb_if_n (a := jb_addN nr) (b := nr) h9]; exact hP.sub [0, 1, 2, 3, 4, 5, 6, 7, 8, 9, 10, 11, 12, 13] rfl
        have hD9 : va_D A [(hM, .inr (6, [.ref mK, .ref mV, .ref mN, .int (nI per), .int (nI mem), .int (nI par), .ref mR, .ref mB, .ref mX, .ref m1, .ref m2, .ref m3, .ref m4, .ref m5, .int y.2.2.2.2.2.2.2.1, .int y.2.2.2.2.2.2.2.2.1, .int y.2.2.2.2.2.2.2.2.2.1, .int y.2.2.2.2.2.2.2.2.2.2.1, .int y.2.2.2.2.2.2.2.2.2.2.2.1, .int y.2.2.2.2.2.2.2.2.2.2.2.2.1, .int y.2.2.2.2.2.2.2.2.2.2.2.2.2.1, .int y.2.2.2.2.2.2.2.2.2.2.2.2.2.2, .ref m6, .ref m7])), (mK, .inl (cI, 1000, .inl (jm_rK Kf t nl nr z1))), (mV, .inl (cI, 1000, .inl (jm_rK Vf t nl nr z2))), (mN, .inl (cI, 2, .inl (jb_two (jb_if t 0 (jb_addN nl) nl) (jb_if t 1 (jb_addN nr) nr)))), (mR, .inl (cI, 10000, .inl Rf)), (mB, .inl (cI, 420, .inl Bf)), (mX, .inl (cI, 10, .inl Nf)), (m1, .inl (cI, 4000, .inl y.1)), (m2, .inl (cI, 4000, .inl y.2.1)), (m3, .inl (cI, 4000, .inl y.2.2.1)), (m4, .inl (cI, 4000, .inl y.2.2.2.1)), (m5, .inl (cI, 4000, .inl y.2.2.2.2.1)), (m6, .inl (cI, 4, .inl y.2.2.2.2.2.1)), (m7, .inl (cI, 1500, .inl y.2.2.2.2.2.2.1))] := by rw [jm_rK_n (Kf := Kf) (nl := nl) (nr := nr) (v := z1) h0 h9, jm_rK_n (Kf := Vf) (nl := nl) (nr := nr) (v := z2) h0 h9, jb_if_n (a := jb_addN nl) (b := nl) h0, jb_if_n (a := jb_addN nr) (b := nr) h9]; exact hD.sub [0, 1, 2, 3, 4, 5, 6, 7, 8, 9, 10, 11, 12, 13] (by decide) rfl
        exact W.iret (v := (-1)) hx hb hr (fun t ht hW => ⟨⟨_, (), rfl, (jb_ansN h0 h9).symm, by rw [ht]; exact hP9, hD9⟩, hS.F ht⟩) hS.2.2 dX6_row_8
theorem iX6_cut_X6 : ∀ w ∈ wsX60, w ∈ wsX6_cut := by decide +kernel
set_option maxHeartbeats 1000000 in
set_option maxRecDepth 100000 in
/-- cut -/
theorem m_cut (l : Launch) (dC : Nat → ClassId) (dI : Nat → Nat → Nat) (cI : ClassId) (sz : Nat) (hM mK mV mN mR mB mX m1 m2 m3 m4 m5 m6 m7 : Nat) (Kf Vf : Nat → Int32) (nl nr per mem par : Nat) (Rf Bf Nf : Nat → Int32) (y : jmR) (t z1 : Int32) (hnl : nl ≤ 500) (hnr : nr ≤ 500) : Met l yX6_cut wsX6_cut ({ frames := 2, cells := 0, slots := 0, locals := 80 } : Room) (va_Pc [.ref hM, .int t, .int z1] (jb_M dC dI cI sz [(hM, .inr (6, [.ref mK, .ref mV, .ref mN, .int (nI per), .int (nI mem), .int (nI par), .ref mR, .ref mB, .ref mX, .ref m1, .ref m2, .ref m3, .ref m4, .ref m5, .int y.2.2.2.2.2.2.2.1, .int y.2.2.2.2.2.2.2.2.1, .int y.2.2.2.2.2.2.2.2.2.1, .int y.2.2.2.2.2.2.2.2.2.2.1, .int y.2.2.2.2.2.2.2.2.2.2.2.1, .int y.2.2.2.2.2.2.2.2.2.2.2.2.1, .int y.2.2.2.2.2.2.2.2.2.2.2.2.2.1, .int y.2.2.2.2.2.2.2.2.2.2.2.2.2.2, .ref m6, .ref m7])), (mK, .inl (cI, 1000, .inl Kf)), (mV, .inl (cI, 1000, .inl Vf)), (mN, .inl (cI, 2, .inl (jb_two nl nr))), (mR, .inl (cI, 10000, .inl Rf)), (mB, .inl (cI, 420, .inl Bf)), (mX, .inl (cI, 10, .inl Nf)), (m1, .inl (cI, 4000, .inl y.1)), (m2, .inl (cI, 4000, .inl y.2.1)), (m3, .inl (cI, 4000, .inl y.2.2.1)), (m4, .inl (cI, 4000, .inl y.2.2.2.1)), (m5, .inl (cI, 4000, .inl y.2.2.2.2.1)), (m6, .inl (cI, 4, .inl y.2.2.2.2.2.1)), (m7, .inl (cI, 1500, .inl y.2.2.2.2.2.2.1))])) (va_Qi (fun r (_ : Unit) => r = jb_ans t (jb_dropR nl z1) (jb_dropR nr z1)) (jb_B dC dI (va_A [(hM, .inr (6, [.ref mK, .ref mV, .ref mN, .int (nI per), .int (nI mem), .int (nI par), .ref mR, .ref mB, .ref mX, .ref m1, .ref m2, .ref m3, .ref m4, .ref m5, .int y.2.2.2.2.2.2.2.1, .int y.2.2.2.2.2.2.2.2.1, .int y.2.2.2.2.2.2.2.2.2.1, .int y.2.2.2.2.2.2.2.2.2.2.1, .int y.2.2.2.2.2.2.2.2.2.2.2.1, .int y.2.2.2.2.2.2.2.2.2.2.2.2.1, .int y.2.2.2.2.2.2.2.2.2.2.2.2.2.1, .int y.2.2.2.2.2.2.2.2.2.2.2.2.2.2, .ref m6, .ref m7])), (mK, .inl (cI, 1000, .inl Kf)), (mV, .inl (cI, 1000, .inl Vf)), (mN, .inl (cI, 2, .inl (jb_two nl nr))), (mR, .inl (cI, 10000, .inl Rf)), (mB, .inl (cI, 420, .inl Bf)), (mX, .inl (cI, 10, .inl Nf)), (m1, .inl (cI, 4000, .inl y.1)), (m2, .inl (cI, 4000, .inl y.2.1)), (m3, .inl (cI, 4000, .inl y.2.2.1)), (m4, .inl (cI, 4000, .inl y.2.2.2.1)), (m5, .inl (cI, 4000, .inl y.2.2.2.2.1)), (m6, .inl (cI, 4, .inl y.2.2.2.2.2.1)), (m7, .inl (cI, 1500, .inl y.2.2.2.2.2.2.1))] sz) (fun _ => [(hM, .inr (6, [.ref mK, .ref mV, .ref mN, .int (nI per), .int (nI mem), .int (nI par), .ref mR, .ref mB, .ref mX, .ref m1, .ref m2, .ref m3, .ref m4, .ref m5, .int y.2.2.2.2.2.2.2.1, .int y.2.2.2.2.2.2.2.2.1, .int y.2.2.2.2.2.2.2.2.2.1, .int y.2.2.2.2.2.2.2.2.2.2.1, .int y.2.2.2.2.2.2.2.2.2.2.2.1, .int y.2.2.2.2.2.2.2.2.2.2.2.2.1, .int y.2.2.2.2.2.2.2.2.2.2.2.2.2.1, .int y.2.2.2.2.2.2.2.2.2.2.2.2.2.2, .ref m6, .ref m7])), (mK, .inl (cI, 1000, .inl Kf)), (mV, .inl (cI, 1000, .inl Vf)), (mN, .inl (cI, 2, .inl (jb_two (jb_if t 0 (jb_dropN nl z1) nl) (jb_if t 1 (jb_dropN nr z1) nr)))), (mR, .inl (cI, 10000, .inl Rf)), (mB, .inl (cI, 420, .inl Bf)), (mX, .inl (cI, 10, .inl Nf)), (m1, .inl (cI, 4000, .inl y.1)), (m2, .inl (cI, 4000, .inl y.2.1)), (m3, .inl (cI, 4000, .inl y.2.2.1)), (m4, .inl (cI, 4000, .inl y.2.2.2.1)), (m5, .inl (cI, 4000, .inl y.2.2.2.2.1)), (m6, .inl (cI, 4, .inl y.2.2.2.2.2.1)), (m7, .inl (cI, 1500, .inl y.2.2.2.2.2.2.1))])) (va_A [(hM, .inr (6, [.ref mK, .ref mV, .ref mN, .int (nI per), .int (nI mem), .int (nI par), .ref mR, .ref mB, .ref mX, .ref m1, .ref m2, .ref m3, .ref m4, .ref m5, .int y.2.2.2.2.2.2.2.1, .int y.2.2.2.2.2.2.2.2.1, .int y.2.2.2.2.2.2.2.2.2.1, .int y.2.2.2.2.2.2.2.2.2.2.1, .int y.2.2.2.2.2.2.2.2.2.2.2.1, .int y.2.2.2.2.2.2.2.2.2.2.2.2.1, .int y.2.2.2.2.2.2.2.2.2.2.2.2.2.1, .int y.2.2.2.2.2.2.2.2.2.2.2.2.2.2, .ref m6, .ref m7])), (mK, .inl (cI, 1000, .inl Kf)), (mV, .inl (cI, 1000, .inl Vf)), (mN, .inl (cI, 2, .inl (jb_two nl nr))), (mR, .inl (cI, 10000, .inl Rf)), (mB, .inl (cI, 420, .inl Bf)), (mX, .inl (cI, 10, .inl Nf)), (m1, .inl (cI, 4000, .inl y.1)), (m2, .inl (cI, 4000, .inl y.2.1)), (m3, .inl (cI, 4000, .inl y.2.2.1)), (m4, .inl (cI, 4000, .inl y.2.2.2.1)), (m5, .inl (cI, 4000, .inl y.2.2.2.2.1)), (m6, .inl (cI, 4, .inl y.2.2.2.2.2.1)), (m7, .inl (cI, 1500, .inl y.2.2.2.2.2.2.1))] sz)) 0 0 (va_A [(hM, .inr (6, [.ref mK, .ref mV, .ref mN, .int (nI per), .int (nI mem), .int (nI par), .ref mR, .ref mB, .ref mX, .ref m1, .ref m2, .ref m3, .ref m4, .ref m5, .int y.2.2.2.2.2.2.2.1, .int y.2.2.2.2.2.2.2.2.1, .int y.2.2.2.2.2.2.2.2.2.1, .int y.2.2.2.2.2.2.2.2.2.2.1, .int y.2.2.2.2.2.2.2.2.2.2.2.1, .int y.2.2.2.2.2.2.2.2.2.2.2.2.1, .int y.2.2.2.2.2.2.2.2.2.2.2.2.2.1, .int y.2.2.2.2.2.2.2.2.2.2.2.2.2.2, .ref m6, .ref m7])), (mK, .inl (cI, 1000, .inl Kf)), (mV, .inl (cI, 1000, .inl Vf)), (mN, .inl (cI, 2, .inl (jb_two nl nr))), (mR, .inl (cI, 10000, .inl Rf)), (mB, .inl (cI, 420, .inl Bf)), (mX, .inl (cI, 10, .inl Nf)), (m1, .inl (cI, 4000, .inl y.1)), (m2, .inl (cI, 4000, .inl y.2.1)), (m3, .inl (cI, 4000, .inl y.2.2.1)), (m4, .inl (cI, 4000, .inl y.2.2.2.1)), (m5, .inl (cI, 4000, .inl y.2.2.2.2.1)), (m6, .inl (cI, 4, .inl y.2.2.2.2.2.1)), (m7, .inl (cI, 1500, .inl y.2.2.2.2.2.2.1))] sz) := by
  refine Met.ofW (cc := cX6_cut) (maxL := 3) (ret := (some .int)) (by decide) rfl ?_
  intro p e s m args below meth c s₁ B hml hv
  obtain ⟨rfl, hsz, hP, hK, hNw, hD0⟩ := hv
  have hx := B.exec
  have hb := B.bytes
  have hr := B.returns
  have hts := atoms_spec (ws := wsX6_cut) B.pre
  have hown : s.vm.findClass RX6 = some m.cls := findClass_of_methodNamed B.named
  have hlocks := B.notSynchronized
  subst hsz
  have hD := hD0.self (sz := s.heap.size)
  generalize hAe : va_A [(hM, .inr (6, [.ref mK, .ref mV, .ref mN, .int (nI per), .int (nI mem), .int (nI par), .ref mR, .ref mB, .ref mX, .ref m1, .ref m2, .ref m3, .ref m4, .ref m5, .int y.2.2.2.2.2.2.2.1, .int y.2.2.2.2.2.2.2.2.1, .int y.2.2.2.2.2.2.2.2.2.1, .int y.2.2.2.2.2.2.2.2.2.2.1, .int y.2.2.2.2.2.2.2.2.2.2.2.1, .int y.2.2.2.2.2.2.2.2.2.2.2.2.1, .int y.2.2.2.2.2.2.2.2.2.2.2.2.2.1, .int y.2.2.2.2.2.2.2.2.2.2.2.2.2.2, .ref m6, .ref m7])), (mK, .inl (cI, 1000, .inl Kf)), (mV, .inl (cI, 1000, .inl Vf)), (mN, .inl (cI, 2, .inl (jb_two nl nr))), (mR, .inl (cI, 10000, .inl Rf)), (mB, .inl (cI, 420, .inl Bf)), (mX, .inl (cI, 10, .inl Nf)), (m1, .inl (cI, 4000, .inl y.1)), (m2, .inl (cI, 4000, .inl y.2.1)), (m3, .inl (cI, 4000, .inl y.2.2.1)), (m4, .inl (cI, 4000, .inl y.2.2.2.1)), (m5, .inl (cI, 4000, .inl y.2.2.2.2.1)), (m6, .inl (cI, 4, .inl y.2.2.2.2.2.1)), (m7, .inl (cI, 1500, .inl y.2.2.2.2.2.2.1))] s.heap.size = A at hD ⊢
  have hA : ∀ q : Nat, s.heap.size ≤ q → A q := fun q h => by rw [← hAe]; exact Or.inr h
  have hS : va_S A s.heap s.heap [] := va_S.rf
  have hP : va_P (dC, dI) vwCl [(hM, .inr (6, [.ref mK, .ref mV, .ref mN, .int (nI per), .int (nI mem), .int (nI par), .ref mR, .ref mB, .ref mX, .ref m1, .ref m2, .ref m3, .ref m4, .ref m5, .int y.2.2.2.2.2.2.2.1, .int y.2.2.2.2.2.2.2.2.1, .int y.2.2.2.2.2.2.2.2.2.1, .int y.2.2.2.2.2.2.2.2.2.2.1, .int y.2.2.2.2.2.2.2.2.2.2.2.1, .int y.2.2.2.2.2.2.2.2.2.2.2.2.1, .int y.2.2.2.2.2.2.2.2.2.2.2.2.2.1, .int y.2.2.2.2.2.2.2.2.2.2.2.2.2.2, .ref m6, .ref m7])), (mK, .inl (cI, 1000, .inl Kf)), (mV, .inl (cI, 1000, .inl Vf)), (mN, .inl (cI, 2, .inl (jb_two nl nr))), (mR, .inl (cI, 10000, .inl Rf)), (mB, .inl (cI, 420, .inl Bf)), (mX, .inl (cI, 10, .inl Nf)), (m1, .inl (cI, 4000, .inl y.1)), (m2, .inl (cI, 4000, .inl y.2.1)), (m3, .inl (cI, 4000, .inl y.2.2.1)), (m4, .inl (cI, 4000, .inl y.2.2.2.1)), (m5, .inl (cI, 4000, .inl y.2.2.2.2.1)), (m6, .inl (cI, 4, .inl y.2.2.2.2.2.1)), (m7, .inl (cI, 1500, .inl y.2.2.2.2.2.2.1))] s.heap := hP
  have hl := lv_entry ([.ref hM, .int t, .int z1]) (n := 3) (Nat.le_of_ble_eq_true rfl)
  rw [lg_entry_eq]
  generalize (lg_sl ([.ref hM, .int t, .int z1]) ++ List.replicate (3 - (lg_sl ([.ref hM, .int t, .int z1])).length) Slot.unset).toArray = ls at hl ⊢
  have hl : lv_has ls 3 [(0, .ref hM), (1, .int t), (2, .int z1)] := hl
  refine lv_iload_n hx hb dX6_cut_0 rfl (lv_at hl 1 rfl) ?_
  refine vp_callSi (va_runS (As := [.int t]) (rest := []) ⟨hx, hb, hml, hown, hts⟩ (m_isTable l t) (va_cwS 1 hts gX6_cut_X6_isTable rfl rfl rfl (by decide +kernel) ⟨(by decide +kernel), (by decide +kernel)⟩)  ⟨jb_Z_blind, jb_Z_pre⟩ rfl rfl hl.1 rfl (lv_room (Nat.le_of_ble_eq_true rfl)) dX6_cut_1 ⟨by decide +kernel, by decide +kernel⟩).run (fun r_1 hr_1 => ?_)
  subst hr_1
  by_cases h0 : t = 0
  · subst h0
    refine lv_if_eq (tgt := 21) hx hb dX6_cut_4 (by decide) (fun c_4 => ?_) (fun c_4 => ?_)
    · exact absurd c_4 (by decide)
    · refine lv_iload_n hx hb dX6_cut_7 rfl (lv_at hl 2 rfl) ?_
      refine lv_if_lt (tgt := 21) hx hb dX6_cut_8 (by decide) (fun c_8 => ?_) (fun c_8 => ?_)
      · have hbad : z1 < 0 ∨ nI nl < z1 := Or.inl c_8
        refine lv_iconst (v := (-1)) hx hb dX6_cut_21 (by decide) ?_
        have hP9 : va_P (dC, dI) vwCl [(hM, .inr (6, [.ref mK, .ref mV, .ref mN, .int (nI per), .int (nI mem), .int (nI par), .ref mR, .ref mB, .ref mX, .ref m1, .ref m2, .ref m3, .ref m4, .ref m5, .int y.2.2.2.2.2.2.2.1, .int y.2.2.2.2.2.2.2.2.1, .int y.2.2.2.2.2.2.2.2.2.1, .int y.2.2.2.2.2.2.2.2.2.2.1, .int y.2.2.2.2.2.2.2.2.2.2.2.1, .int y.2.2.2.2.2.2.2.2.2.2.2.2.1, .int y.2.2.2.2.2.2.2.2.2.2.2.2.2.1, .int y.2.2.2.2.2.2.2.2.2.2.2.2.2.2, .ref m6, .ref m7])), (mK, .inl (cI, 1000, .inl Kf)), (mV, .inl (cI, 1000, .inl Vf)), (mN, .inl (cI, 2, .inl (jb_two (jb_if 0 0 (jb_dropN nl z1) nl) (jb_if 0 1 (jb_dropN nr z1) nr)))), (mR, .inl (cI, 10000, .inl Rf)), (mB, .inl (cI, 420, .inl Bf)), (mX, .inl (cI, 10, .inl Nf)), (m1, .inl (cI, 4000, .inl y.1)), (m2, .inl (cI, 4000, .inl y.2.1)), (m3, .inl (cI, 4000, .inl y.2.2.1)), (m4, .inl (cI, 4000, .inl y.2.2.2.1)), (m5, .inl (cI, 4000, .inl y.2.2.2.2.1)), (m6, .inl (cI, 4, .inl y.2.2.2.2.2.1)), (m7, .inl (cI, 1500, .inl y.2.2.2.2.2.2.1))] s.heap := by rw [jb_if_y (t := 0) (k := 0) (a := jb_dropN nl z1) (b := nl) rfl, jb_if_n (t := 0) (k := 1) (a := jb_dropN nr z1) (b := nr) (by decide), show jb_dropN nl z1 = nl from if_pos hbad]; exact hP.sub [0, 1, 2, 3, 4, 5, 6, 7, 8, 9, 10, 11, 12, 13] rfl
        have hD9 : va_D A [(hM, .inr (6, [.ref mK, .ref mV, .ref mN, .int (nI per), .int (nI mem), .int (nI par), .ref mR, .ref mB, .ref mX, .ref m1, .ref m2, .ref m3, .ref m4, .ref m5, .int y.2.2.2.2.2.2.2.1, .int y.2.2.2.2.2.2.2.2.1, .int y.2.2.2.2.2.2.2.2.2.1, .int y.2.2.2.2.2.2.2.2.2.2.1, .int y.2.2.2.2.2.2.2.2.2.2.2.1, .int y.2.2.2.2.2.2.2.2.2.2.2.2.1, .int y.2.2.2.2.2.2.2.2.2.2.2.2.2.1, .int y.2.2.2.2.2.2.2.2.2.2.2.2.2.2, .ref m6, .ref m7])), (mK, .inl (cI, 1000, .inl Kf)), (mV, .inl (cI, 1000, .inl Vf)), (mN, .inl (cI, 2, .inl (jb_two (jb_if 0 0 (jb_dropN nl z1) nl) (jb_if 0 1 (jb_dropN nr z1) nr)))), (mR, .inl (cI, 10000, .inl Rf)), (mB, .inl (cI, 420, .inl Bf)), (mX, .inl (cI, 10, .inl Nf)), (m1, .inl (cI, 4000, .inl y.1)), (m2, .inl (cI, 4000, .inl y.2.1)), (m3, .inl (cI, 4000, .inl y.2.2.1)), (m4, .inl (cI, 4000, .inl y.2.2.2.1)), (m5, .inl (cI, 4000, .inl y.2.2.2.2.1)), (m6, .inl (cI, 4, .inl y.2.2.2.2.2.1)), (m7, .inl (cI, 1500, .inl y.2.2.2.2.2.2.1))] := by rw [jb_if_y (t := 0) (k := 0) (a := jb_dropN nl z1) (b := nl) rfl, jb_if_n (t := 0) (k := 1) (a := jb_dropN nr z1) (b := nr) (by decide), show jb_dropN nl z1 = nl from if_pos hbad]; exact hD.sub [0, 1, 2, 3, 4, 5, 6, 7, 8, 9, 10, 11, 12, 13] (by decide) rfl
        exact W.iret (v := (-1)) hx hb hr (fun t ht hW => ⟨⟨_, (), rfl, by rw [jb_ans0 rfl]; exact (if_pos hbad).symm, by rw [ht]; exact hP9, hD9⟩, hS.F ht⟩) hS.2.2 dX6_cut_22
      · refine lv_iload_n hx hb dX6_cut_11 rfl (lv_at hl 2 rfl) ?_
        refine lv_aload_n hx hb dX6_cut_12 rfl (lv_at hl 0 rfl) ?_
        refine va_get (D := (dC, dI)) (ci := 6) (v := .ref mN) (C := RX6) (T := TX6) (N := 24) hx hb hts iX6_cut_X6 hown hK hP 0 rfl rfl 2 (by decide) (hts (.fieldLink RX6 16 "JoinBenchModel" "many" "[I") (by decide +kernel)) (fun _ h9 => h9) rfl dX6_cut_13 ?_
        refine lv_iload_n hx hb dX6_cut_16 rfl (lv_at hl 1 rfl) ?_
        refine va_iald hx hb hK hP 3 0 rfl rfl (i := 0) (by unfold vp_in; decide) dX6_cut_17 ?_
        refine lv_topi (fun v_2 ev_2 => ?_)
        have hv_2 : v_2 = nI nl := ev_2.trans (rfl)
        clear ev_2; subst hv_2
        refine lv_icmp_le (tgt := 23) hx hb dX6_cut_18 (by decide) (fun c_18 => ?_) (fun c_18 => ?_)
        · have hgood : ¬ (z1 < 0 ∨ nI nl < z1) := fun h => h.elim c_8 (fun h => Int32.not_le.mpr h c_18)
          obtain ⟨k1, hk1, ek⟩ := nI_of2 (x := z1) (M := nI nl) (n := nl) (nI_toInt (by omega)) c_8 c_18
          refine lv_aload_n hx hb dX6_cut_23 rfl (lv_at hl 0 rfl) ?_
          refine va_get (D := (dC, dI)) (ci := 6) (v := .ref mN) (C := RX6) (T := TX6) (N := 24) hx hb hts iX6_cut_X6 hown hK hP 0 rfl rfl 2 (by decide) (hts (.fieldLink RX6 16 "JoinBenchModel" "many" "[I") (by decide +kernel)) (fun _ h9 => h9) rfl dX6_cut_24 ?_
          refine lv_iload_n hx hb dX6_cut_27 rfl (lv_at hl 1 rfl) ?_
          refine lv_aload_n hx hb dX6_cut_28 rfl (lv_at hl 0 rfl) ?_
          refine va_get (D := (dC, dI)) (ci := 6) (v := .ref mN) (C := RX6) (T := TX6) (N := 24) hx hb hts iX6_cut_X6 hown hK hP 0 rfl rfl 2 (by decide) (hts (.fieldLink RX6 16 "JoinBenchModel" "many" "[I") (by decide +kernel)) (fun _ h9 => h9) rfl dX6_cut_29 ?_
          refine lv_iload_n hx hb dX6_cut_32 rfl (lv_at hl 1 rfl) ?_
          refine va_iald hx hb hK hP 3 0 rfl rfl (i := 0) (by unfold vp_in; decide) dX6_cut_33 ?_
          refine lv_topi (fun v_3 ev_3 => ?_)
          have hv_3 : v_3 = nI nl := ev_3.trans (rfl)
          clear ev_3; subst hv_3
          refine lv_iload_n hx hb dX6_cut_34 rfl (lv_at hl 2 rfl) ?_
          refine lv_isub hx hb dX6_cut_35 ?_
          refine lv_topi (fun v_4 ev_4 => ?_)
          have hv_4 : v_4 = nI (nl - z1.toNatClampNeg) := ev_4.trans (by rw [ek, nI_clamp (by omega)]; exact pk_sub hk1)
          clear ev_4; subst hv_4
          refine va_iast hx hb hK hP hD hS 3 0 rfl rfl (i := 0) (x := nI (nl - z1.toNatClampNeg)) (by unfold vp_in; decide) dX6_cut_36 (fun H locs hP hD hS => ?_)
          rw [show (0 : Int32).toNatClampNeg = 0 from rfl] at hP hD
          have hP : va_P (dC, dI) vwCl [(hM, .inr (6, [.ref mK, .ref mV, .ref mN, .int (nI per), .int (nI mem), .int (nI par), .ref mR, .ref mB, .ref mX, .ref m1, .ref m2, .ref m3, .ref m4, .ref m5, .int y.2.2.2.2.2.2.2.1, .int y.2.2.2.2.2.2.2.2.1, .int y.2.2.2.2.2.2.2.2.2.1, .int y.2.2.2.2.2.2.2.2.2.2.1, .int y.2.2.2.2.2.2.2.2.2.2.2.1, .int y.2.2.2.2.2.2.2.2.2.2.2.2.1, .int y.2.2.2.2.2.2.2.2.2.2.2.2.2.1, .int y.2.2.2.2.2.2.2.2.2.2.2.2.2.2, .ref m6, .ref m7])), (mK, .inl (cI, 1000, .inl Kf)), (mV, .inl (cI, 1000, .inl Vf)), (mN, .inl (cI, 2, .inl (upd (jb_two nl nr) 0 (nI (nl - z1.toNatClampNeg))))), (mR, .inl (cI, 10000, .inl Rf)), (mB, .inl (cI, 420, .inl Bf)), (mX, .inl (cI, 10, .inl Nf)), (m1, .inl (cI, 4000, .inl y.1)), (m2, .inl (cI, 4000, .inl y.2.1)), (m3, .inl (cI, 4000, .inl y.2.2.1)), (m4, .inl (cI, 4000, .inl y.2.2.2.1)), (m5, .inl (cI, 4000, .inl y.2.2.2.2.1)), (m6, .inl (cI, 4, .inl y.2.2.2.2.2.1)), (m7, .inl (cI, 1500, .inl y.2.2.2.2.2.2.1))] H := hP
          have hD : va_D A [(hM, .inr (6, [.ref mK, .ref mV, .ref mN, .int (nI per), .int (nI mem), .int (nI par), .ref mR, .ref mB, .ref mX, .ref m1, .ref m2, .ref m3, .ref m4, .ref m5, .int y.2.2.2.2.2.2.2.1, .int y.2.2.2.2.2.2.2.2.1, .int y.2.2.2.2.2.2.2.2.2.1, .int y.2.2.2.2.2.2.2.2.2.2.1, .int y.2.2.2.2.2.2.2.2.2.2.2.1, .int y.2.2.2.2.2.2.2.2.2.2.2.2.1, .int y.2.2.2.2.2.2.2.2.2.2.2.2.2.1, .int y.2.2.2.2.2.2.2.2.2.2.2.2.2.2, .ref m6, .ref m7])), (mK, .inl (cI, 1000, .inl Kf)), (mV, .inl (cI, 1000, .inl Vf)), (mN, .inl (cI, 2, .inl (upd (jb_two nl nr) 0 (nI (nl - z1.toNatClampNeg))))), (mR, .inl (cI, 10000, .inl Rf)), (mB, .inl (cI, 420, .inl Bf)), (mX, .inl (cI, 10, .inl Nf)), (m1, .inl (cI, 4000, .inl y.1)), (m2, .inl (cI, 4000, .inl y.2.1)), (m3, .inl (cI, 4000, .inl y.2.2.1)), (m4, .inl (cI, 4000, .inl y.2.2.2.1)), (m5, .inl (cI, 4000, .inl y.2.2.2.2.1)), (m6, .inl (cI, 4, .inl y.2.2.2.2.2.1)), (m7, .inl (cI, 1500, .inl y.2.2.2.2.2.2.1))] := hD
          rw [jb_two_0] at hP hD
          have hP : va_P (dC, dI) vwCl [(hM, .inr (6, [.ref mK, .ref mV, .ref mN, .int (nI per), .int (nI mem), .int (nI par), .ref mR, .ref mB, .ref mX, .ref m1, .ref m2, .ref m3, .ref m4, .ref m5, .int y.2.2.2.2.2.2.2.1, .int y.2.2.2.2.2.2.2.2.1, .int y.2.2.2.2.2.2.2.2.2.1, .int y.2.2.2.2.2.2.2.2.2.2.1, .int y.2.2.2.2.2.2.2.2.2.2.2.1, .int y.2.2.2.2.2.2.2.2.2.2.2.2.1, .int y.2.2.2.2.2.2.2.2.2.2.2.2.2.1, .int y.2.2.2.2.2.2.2.2.2.2.2.2.2.2, .ref m6, .ref m7])), (mK, .inl (cI, 1000, .inl Kf)), (mV, .inl (cI, 1000, .inl Vf)), (mN, .inl (cI, 2, .inl (jb_two (nl - z1.toNatClampNeg) nr))), (mR, .inl (cI, 10000, .inl Rf)), (mB, .inl (cI, 420, .inl Bf)), (mX, .inl (cI, 10, .inl Nf)), (m1, .inl (cI, 4000, .inl y.1)), (m2, .inl (cI, 4000, .inl y.2.1)), (m3, .inl (cI, 4000, .inl y.2.2.1)), (m4, .inl (cI, 4000, .inl y.2.2.2.1)), (m5, .inl (cI, 4000, .inl y.2.2.2.2.1)), (m6, .inl (cI, 4, .inl y.2.2.2.2.2.1)), (m7, .inl (cI, 1500, .inl y.2.2.2.2.2.2.1))] H := hP
          have hD : va_D A [(hM, .inr (6, [.ref mK, .ref mV, .ref mN, .int (nI per), .int (nI mem), .int (nI par), .ref mR, .ref mB, .ref mX, .ref m1, .ref m2, .ref m3, .ref m4, .ref m5, .int y.2.2.2.2.2.2.2.1, .int y.2.2.2.2.2.2.2.2.1, .int y.2.2.2.2.2.2.2.2.2.1, .int y.2.2.2.2.2.2.2.2.2.2.1, .int y.2.2.2.2.2.2.2.2.2.2.2.1, .int y.2.2.2.2.2.2.2.2.2.2.2.2.1, .int y.2.2.2.2.2.2.2.2.2.2.2.2.2.1, .int y.2.2.2.2.2.2.2.2.2.2.2.2.2.2, .ref m6, .ref m7])), (mK, .inl (cI, 1000, .inl Kf)), (mV, .inl (cI, 1000, .inl Vf)), (mN, .inl (cI, 2, .inl (jb_two (nl - z1.toNatClampNeg) nr))), (mR, .inl (cI, 10000, .inl Rf)), (mB, .inl (cI, 420, .inl Bf)), (mX, .inl (cI, 10, .inl Nf)), (m1, .inl (cI, 4000, .inl y.1)), (m2, .inl (cI, 4000, .inl y.2.1)), (m3, .inl (cI, 4000, .inl y.2.2.1)), (m4, .inl (cI, 4000, .inl y.2.2.2.1)), (m5, .inl (cI, 4000, .inl y.2.2.2.2.1)), (m6, .inl (cI, 4, .inl y.2.2.2.2.2.1)), (m7, .inl (cI, 1500, .inl y.2.2.2.2.2.2.1))] := hD
          refine lv_aload_n hx hb dX6_cut_37 rfl (lv_at hl 0 rfl) ?_
          refine va_get (D := (dC, dI)) (ci := 6) (v := .ref mN) (C := RX6) (T := TX6) (N := 24) hx hb hts iX6_cut_X6 hown hK hP 0 rfl rfl 2 (by decide) (hts (.fieldLink RX6 16 "JoinBenchModel" "many" "[I") (by decide +kernel)) (fun _ h9 => h9) rfl dX6_cut_38 ?_
          refine lv_iload_n hx hb dX6_cut_41 rfl (lv_at hl 1 rfl) ?_
          refine va_iald hx hb hK hP 3 0 rfl rfl (i := 0) (by unfold vp_in; decide) dX6_cut_42 ?_
          refine lv_topi (fun v_5 ev_5 => ?_)
          have hv_5 : v_5 = nI (nl - z1.toNatClampNeg) := ev_5.trans (rfl)
          clear ev_5; subst hv_5
          have hP9 : va_P (dC, dI) vwCl [(hM, .inr (6, [.ref mK, .ref mV, .ref mN, .int (nI per), .int (nI mem), .int (nI par), .ref mR, .ref mB, .ref mX, .ref m1, .ref m2, .ref m3, .ref m4, .ref m5, .int y.2.2.2.2.2.2.2.1, .int y.2.2.2.2.2.2.2.2.1, .int y.2.2.2.2.2.2.2.2.2.1, .int y.2.2.2.2.2.2.2.2.2.2.1, .int y.2.2.2.2.2.2.2.2.2.2.2.1, .int y.2.2.2.2.2.2.2.2.2.2.2.2.1, .int y.2.2.2.2.2.2.2.2.2.2.2.2.2.1, .int y.2.2.2.2.2.2.2.2.2.2.2.2.2.2, .ref m6, .ref m7])), (mK, .inl (cI, 1000, .inl Kf)), (mV, .inl (cI, 1000, .inl Vf)), (mN, .inl (cI, 2, .inl (jb_two (jb_if 0 0 (jb_dropN nl z1) nl) (jb_if 0 1 (jb_dropN nr z1) nr)))), (mR, .inl (cI, 10000, .inl Rf)), (mB, .inl (cI, 420, .inl Bf)), (mX, .inl (cI, 10, .inl Nf)), (m1, .inl (cI, 4000, .inl y.1)), (m2, .inl (cI, 4000, .inl y.2.1)), (m3, .inl (cI, 4000, .inl y.2.2.1)), (m4, .inl (cI, 4000, .inl y.2.2.2.1)), (m5, .inl (cI, 4000, .inl y.2.2.2.2.1)), (m6, .inl (cI, 4, .inl y.2.2.2.2.2.1)), (m7, .inl (cI, 1500, .inl y.2.2.2.2.2.2.1))] H := by rw [jb_if_y (t := 0) (k := 0) (a := jb_dropN nl z1) (b := nl) rfl, jb_if_n (t := 0) (k := 1) (a := jb_dropN nr z1) (b := nr) (by decide), show jb_dropN nl z1 = nl - z1.toNatClampNeg from if_neg hgood]; exact hP.sub [0, 1, 2, 3, 4, 5, 6, 7, 8, 9, 10, 11, 12, 13] rfl
          have hD9 : va_D A [(hM, .inr (6, [.ref mK, .ref mV, .ref mN, .int (nI per), .int (nI mem), .int (nI par), .ref mR, .ref mB, .ref mX, .ref m1, .ref m2, .ref m3, .ref m4, .ref m5, .int y.2.2.2.2.2.2.2.1, .int y.2.2.2.2.2.2.2.2.1, .int y.2.2.2.2.2.2.2.2.2.1, .int y.2.2.2.2.2.2.2.2.2.2.1, .int y.2.2.2.2.2.2.2.2.2.2.2.1, .int y.2.2.2.2.2.2.2.2.2.2.2.2.1, .int y.2.2.2.2.2.2.2.2.2.2.2.2.2.1, .int y.2.2.2.2.2.2.2.2.2.2.2.2.2.2, .ref m6, .ref m7])), (mK, .inl (cI, 1000, .inl Kf)), (mV, .inl (cI, 1000, .inl Vf)), (mN, .inl (cI, 2, .inl (jb_two (jb_if 0 0 (jb_dropN nl z1) nl) (jb_if 0 1 (jb_dropN nr z1) nr)))), (mR, .inl (cI, 10000, .inl Rf)), (mB, .inl (cI, 420, .inl Bf)), (mX, .inl (cI, 10, .inl Nf)), (m1, .inl (cI, 4000, .inl y.1)), (m2, .inl (cI, 4000, .inl y.2.1)), (m3, .inl (cI, 4000, .inl y.2.2.1)), (m4, .inl (cI, 4000, .inl y.2.2.2.1)), (m5, .inl (cI, 4000, .inl y.2.2.2.2.1)), (m6, .inl (cI, 4, .inl y.2.2.2.2.2.1)), (m7, .inl (cI, 1500, .inl y.2.2.2.2.2.2.1))] := by rw [jb_if_y (t := 0) (k := 0) (a := jb_dropN nl z1) (b := nl) rfl, jb_if_n (t := 0) (k := 1) (a := jb_dropN nr z1) (b := nr) (by decide), show jb_dropN nl z1 = nl - z1.toNatClampNeg from if_neg hgood]; exact hD.sub [0, 1, 2, 3, 4, 5, 6, 7, 8, 9, 10, 11, 12, 13] (by decide) rfl
          exact W.iret (v := nI (nl - z1.toNatClampNeg)) hx hb hr (fun t ht hW => ⟨⟨_, (), rfl, by rw [jb_ans0 rfl]; exact (if_neg hgood).symm, by rw [ht]; exact hP9, hD9⟩, hS.F ht⟩) hS.2.2 dX6_cut_43
        · have hbad : z1 < 0 ∨ nI nl < z1 := Or.inr (Int32.not_le.mp c_18)
          refine lv_iconst (v := (-1)) hx hb dX6_cut_21 (by decide) ?_
          have hP9 : va_P (dC, dI) vwCl [(hM, .inr (6, [.ref mK, .ref mV, .ref mN, .int (nI per), .int (nI mem), .int (nI par), .ref mR, .ref mB, .ref mX, .ref m1, .ref m2, .ref m3, .ref m4, .ref m5, .int y.2.2.2.2.2.2.2.1, .int y.2.2.2.2.2.2.2.2.1, .int y.2.2.2.2.2.2.2.2.2.1, .int y.2.2.2.2.2.2.2.2.2.2.1, .int y.2.2.2.2.2.2.2.2.2.2.2.1, .int y.2.2.2.2.2.2.2.2.2.2.2.2.1, .int y.2.2.2.2.2.2.2.2.2.2.2.2.2.1, .int y.2.2.2.2.2.2.2.2.2.2.2.2.2.2, .ref m6, .ref m7])), (mK, .inl (cI, 1000, .inl Kf)), (mV, .inl (cI, 1000, .inl Vf)), (mN, .inl (cI, 2, .inl (jb_two (jb_if 0 0 (jb_dropN nl z1) nl) (jb_if 0 1 (jb_dropN nr z1) nr)))), (mR, .inl (cI, 10000, .inl Rf)), (mB, .inl (cI, 420, .inl Bf)), (mX, .inl (cI, 10, .inl Nf)), (m1, .inl (cI, 4000, .inl y.1)), (m2, .inl (cI, 4000, .inl y.2.1)), (m3, .inl (cI, 4000, .inl y.2.2.1)), (m4, .inl (cI, 4000, .inl y.2.2.2.1)), (m5, .inl (cI, 4000, .inl y.2.2.2.2.1)), (m6, .inl (cI, 4, .inl y.2.2.2.2.2.1)), (m7, .inl (cI, 1500, .inl y.2.2.2.2.2.2.1))] s.heap := by rw [jb_if_y (t := 0) (k := 0) (a := jb_dropN nl z1) (b := nl) rfl, jb_if_n (t := 0) (k := 1) (a := jb_dropN nr z1) (b := nr) (by decide), show jb_dropN nl z1 = nl from if_pos hbad]; exact hP.sub [0, 1, 2, 3, 4, 5, 6, 7, 8, 9, 10, 11, 12, 13] rfl
          have hD9 : va_D A [(hM, .inr (6, [.ref mK, .ref mV, .ref mN, .int (nI per), .int (nI mem), .int (nI par), .ref mR, .ref mB, .ref mX, .ref m1, .ref m2, .ref m3, .ref m4, .ref m5, .int y.2.2.2.2.2.2.2.1, .int y.2.2.2.2.2.2.2.2.1, .int y.2.2.2.2.2.2.2.2.2.1, .int y.2.2.2.2.2.2.2.2.2.2.1, .int y.2.2.2.2.2.2.2.2.2.2.2.1, .int y.2.2.2.2.2.2.2.2.2.2.2.2.1, .int y.2.2.2.2.2.2.2.2.2.2.2.2.2.1, .int y.2.2.2.2.2.2.2.2.2.2.2.2.2.2, .ref m6, .ref m7])), (mK, .inl (cI, 1000, .inl Kf)), (mV, .inl (cI, 1000, .inl Vf)), (mN, .inl (cI, 2, .inl (jb_two (jb_if 0 0 (jb_dropN nl z1) nl) (jb_if 0 1 (jb_dropN nr z1) nr)))), (mR, .inl (cI, 10000, .inl Rf)), (mB, .inl (cI, 420, .inl Bf)), (mX, .inl (cI, 10, .inl Nf)), (m1, .inl (cI, 4000, .inl y.1)), (m2, .inl (cI, 4000, .inl y.2.1)), (m3, .inl (cI, 4000, .inl y.2.2.1)), (m4, .inl (cI, 4000, .inl y.2.2.2.1)), (m5, .inl (cI, 4000, .inl y.2.2.2.2.1)), (m6, .inl (cI, 4, .inl y.2.2.2.2.2.1)), (m7, .inl (cI, 1500, .inl y.2.2.2.2.2.2.1))] := by rw [jb_if_y (t := 0) (k := 0) (a := jb_dropN nl z1) (b := nl) rfl, jb_if_n (t := 0) (k := 1) (a := jb_dropN nr z1) (b := nr) (by decide), show jb_dropN nl z1 = nl from if_pos hbad]; exact hD.sub [0, 1, 2, 3, 4, 5, 6, 7, 8, 9, 10, 11, 12, 13] (by decide) rfl
          exact W.iret (v := (-1)) hx hb hr (fun t ht hW => ⟨⟨_, (), rfl, by rw [jb_ans0 rfl]; exact (if_pos hbad).symm, by rw [ht]; exact hP9, hD9⟩, hS.F ht⟩) hS.2.2 dX6_cut_22
  · by_cases h9 : t = 1
    · subst h9
      refine lv_if_eq (tgt := 21) hx hb dX6_cut_4 (by decide) (fun c_4 => ?_) (fun c_4 => ?_)
      · exact absurd c_4 (by decide)
      · refine lv_iload_n hx hb dX6_cut_7 rfl (lv_at hl 2 rfl) ?_
        refine lv_if_lt (tgt := 21) hx hb dX6_cut_8 (by decide) (fun c_8 => ?_) (fun c_8 => ?_)
        · have hbad : z1 < 0 ∨ nI nr < z1 := Or.inl c_8
          refine lv_iconst (v := (-1)) hx hb dX6_cut_21 (by decide) ?_
          have hP9 : va_P (dC, dI) vwCl [(hM, .inr (6, [.ref mK, .ref mV, .ref mN, .int (nI per), .int (nI mem), .int (nI par), .ref mR, .ref mB, .ref mX, .ref m1, .ref m2, .ref m3, .ref m4, .ref m5, .int y.2.2.2.2.2.2.2.1, .int y.2.2.2.2.2.2.2.2.1, .int y.2.2.2.2.2.2.2.2.2.1, .int y.2.2.2.2.2.2.2.2.2.2.1, .int y.2.2.2.2.2.2.2.2.2.2.2.1, .int y.2.2.2.2.2.2.2.2.2.2.2.2.1, .int y.2.2.2.2.2.2.2.2.2.2.2.2.2.1, .int y.2.2.2.2.2.2.2.2.2.2.2.2.2.2, .ref m6, .ref m7])), (mK, .inl (cI, 1000, .inl Kf)), (mV, .inl (cI, 1000, .inl Vf)), (mN, .inl (cI, 2, .inl (jb_two (jb_if 1 0 (jb_dropN nl z1) nl) (jb_if 1 1 (jb_dropN nr z1) nr)))), (mR, .inl (cI, 10000, .inl Rf)), (mB, .inl (cI, 420, .inl Bf)), (mX, .inl (cI, 10, .inl Nf)), (m1, .inl (cI, 4000, .inl y.1)), (m2, .inl (cI, 4000, .inl y.2.1)), (m3, .inl (cI, 4000, .inl y.2.2.1)), (m4, .inl (cI, 4000, .inl y.2.2.2.1)), (m5, .inl (cI, 4000, .inl y.2.2.2.2.1)), (m6, .inl (cI, 4, .inl y.2.2.2.2.2.1)), (m7, .inl (cI, 1500, .inl y.2.2.2.2.2.2.1))] s.heap := by rw [jb_if_n (t := 1) (k := 0) (a := jb_dropN nl z1) (b := nl) (by decide), jb_if_y (t := 1) (k := 1) (a := jb_dropN nr z1) (b := nr) rfl, show jb_dropN nr z1 = nr from if_pos hbad]; exact hP.sub [0, 1, 2, 3, 4, 5, 6, 7, 8, 9, 10, 11, 12, 13] rfl
          have hD9 : va_D A [(hM, .inr (6, [.ref mK, .ref mV, .ref mN, .int (nI per), .int (nI mem), .int (nI par), .ref mR, .ref mB, .ref mX, .ref m1, .ref m2, .ref m3, .ref m4, .ref m5, .int y.2.2.2.2.2.2.2.1, .int y.2.2.2.2.2.2.2.2.1, .int y.2.2.2.2.2.2.2.2.2.1, .int y.2.2.2.2.2.2.2.2.2.2.1, .int y.2.2.2.2.2.2.2.2.2.2.2.1, .int y.2.2.2.2.2.2.2.2.2.2.2.2.1, .int y.2.2.2.2.2.2.2.2.2.2.2.2.2.1, .int y.2.2.2.2.2.2.2.2.2.2.2.2.2.2, .ref m6, .ref m7])), (mK, .inl (cI, 1000, .inl Kf)), (mV, .inl (cI, 1000, .inl Vf)), (mN, .inl (cI, 2, .inl (jb_two (jb_if 1 0 (jb_dropN nl z1) nl) (jb_if 1 1 (jb_dropN nr z1) nr)))), (mR, .inl (cI, 10000, .inl Rf)), (mB, .inl (cI, 420, .inl Bf)), (mX, .inl (cI, 10, .inl Nf)), (m1, .inl (cI, 4000, .inl y.1)), (m2, .inl (cI, 4000, .inl y.2.1)), (m3, .inl (cI, 4000, .inl y.2.2.1)), (m4, .inl (cI, 4000, .inl y.2.2.2.1)), (m5, .inl (cI, 4000, .inl y.2.2.2.2.1)), (m6, .inl (cI, 4, .inl y.2.2.2.2.2.1)), (m7, .inl (cI, 1500, .inl y.2.2.2.2.2.2.1))] := by rw [jb_if_n (t := 1) (k := 0) (a := jb_dropN nl z1) (b := nl) (by decide), jb_if_y (t := 1) (k := 1) (a := jb_dropN nr z1) (b := nr) rfl, show jb_dropN nr z1 = nr from if_pos hbad]; exact hD.sub [0, 1, 2, 3, 4, 5, 6, 7, 8, 9, 10, 11, 12, 13] (by decide) rfl
          exact W.iret (v := (-1)) hx hb hr (fun t ht hW => ⟨⟨_, (), rfl, by rw [jb_ans1 (by decide) rfl]; exact (if_pos hbad).symm, by rw [ht]; exact hP9, hD9⟩, hS.F ht⟩) hS.2.2 dX6_cut_22
        · refine lv_iload_n hx hb dX6_cut_11 rfl (lv_at hl 2 rfl) ?_
          refine lv_aload_n hx hb dX6_cut_12 rfl (lv_at hl 0 rfl) ?_
          refine va_get (D := (dC, dI)) (ci := 6) (v := .ref mN) (C := RX6) (T := TX6) (N := 24) hx hb hts iX6_cut_X6 hown hK hP 0 rfl rfl 2 (by decide) (hts (.fieldLink RX6 16 "JoinBenchModel" "many" "[I") (by decide +kernel)) (fun _ h9 => h9) rfl dX6_cut_13 ?_
          refine lv_iload_n hx hb dX6_cut_16 rfl (lv_at hl 1 rfl) ?_
          refine va_iald hx hb hK hP 3 0 rfl rfl (i := 1) (by unfold vp_in; decide) dX6_cut_17 ?_
          refine lv_topi (fun v_6 ev_6 => ?_)
          have hv_6 : v_6 = nI nr := ev_6.trans (rfl)
          clear ev_6; subst hv_6
          refine lv_icmp_le (tgt := 23) hx hb dX6_cut_18 (by decide) (fun c_18 => ?_) (fun c_18 => ?_)
          · have hgood : ¬ (z1 < 0 ∨ nI nr < z1) := fun h => h.elim c_8 (fun h => Int32.not_le.mpr h c_18)
            obtain ⟨k1, hk1, ek⟩ := nI_of2 (x := z1) (M := nI nr) (n := nr) (nI_toInt (by omega)) c_8 c_18
            refine lv_aload_n hx hb dX6_cut_23 rfl (lv_at hl 0 rfl) ?_
            refine va_get (D := (dC, dI)) (ci := 6) (v := .ref mN) (C := RX6) (T := TX6) (N := 24) hx hb hts iX6_cut_X6 hown hK hP 0 rfl rfl 2 (by decide) (hts (.fieldLink RX6 16 "JoinBenchModel" "many" "[I") (by decide +kernel)) (fun _ h9 => h9) rfl dX6_cut_24 ?_
            refine lv_iload_n hx hb dX6_cut_27 rfl (lv_at hl 1 rfl) ?_
            refine lv_aload_n hx hb dX6_cut_28 rfl (lv_at hl 0 rfl) ?_
            refine va_get (D := (dC, dI)) (ci := 6) (v := .ref mN) (C := RX6) (T := TX6) (N := 24) hx hb hts iX6_cut_X6 hown hK hP 0 rfl rfl 2 (by decide) (hts (.fieldLink RX6 16 "JoinBenchModel" "many" "[I") (by decide +kernel)) (fun _ h9 => h9) rfl dX6_cut_29 ?_
            refine lv_iload_n hx hb dX6_cut_32 rfl (lv_at hl 1 rfl) ?_
            refine va_iald hx hb hK hP 3 0 rfl rfl (i := 1) (by unfold vp_in; decide) dX6_cut_33 ?_
            refine lv_topi (fun v_7 ev_7 => ?_)
            have hv_7 : v_7 = nI nr := ev_7.trans (rfl)
            clear ev_7; subst hv_7
            refine lv_iload_n hx hb dX6_cut_34 rfl (lv_at hl 2 rfl) ?_
            refine lv_isub hx hb dX6_cut_35 ?_
            refine lv_topi (fun v_8 ev_8 => ?_)
            have hv_8 : v_8 = nI (nr - z1.toNatClampNeg) := ev_8.trans (by rw [ek, nI_clamp (by omega)]; exact pk_sub hk1)
            clear ev_8; subst hv_8
            refine va_iast hx hb hK hP hD hS 3 0 rfl rfl (i := 1) (x := nI (nr - z1.toNatClampNeg)) (by unfold vp_in; decide) dX6_cut_36 (fun H locs hP hD hS => ?_)
            rw [show (1 : Int32).toNatClampNeg = 1 from rfl] at hP hD
            have hP : va_P (dC, dI) vwCl [(hM, .inr (6, [.ref mK, .ref mV, .ref mN, .int (nI per), .int (nI mem), .int (nI par), .ref mR, .ref mB, .ref mX, .ref m1, .ref m2, .ref m3, .ref m4, .ref m5, .int y.2.2.2.2.2.2.2.1, .int y.2.2.2.2.2.2.2.2.1, .int y.2.2.2.2.2.2.2.2.2.1, .int y.2.2.2.2.2.2.2.2.2.2.1, .int y.2.2.2.2.2.2.2.2.2.2.2.1, .int y.2.2.2.2.2.2.2.2.2.2.2.2.1, .int y.2.2.2.2.2.2.2.2.2.2.2.2.2.1, .int y.2.2.2.2.2.2.2.2.2.2.2.2.2.2, .ref m6, .ref m7])), (mK, .inl (cI, 1000, .inl Kf)), (mV, .inl (cI, 1000, .inl Vf)), (mN, .inl (cI, 2, .inl (upd (jb_two nl nr) 1 (nI (nr - z1.toNatClampNeg))))), (mR, .inl (cI, 10000, .inl Rf)), (mB, .inl (cI, 420, .inl Bf)), (mX, .inl (cI, 10, .inl Nf)), (m1, .inl (cI, 4000, .inl y.1)), (m2, .inl (cI, 4000, .inl y.2.1)), (m3, .inl (cI, 4000, .inl y.2.2.1)), (m4, .inl (cI, 4000, .inl y.2.2.2.1)), (m5, .inl (cI, 4000, .inl y.2.2.2.2.1)), (m6, .inl (cI, 4, .inl y.2.2.2.2.2.1)), (m7, .inl (cI, 1500, .inl y.2.2.2.2.2.2.1))] H := hP
            have hD : va_D A [(hM, .inr (6, [.ref mK, .ref mV, .ref mN, .int (nI per), .int (nI mem), .int (nI par), .ref mR, .ref mB, .ref mX, .ref m1, .ref m2, .ref m3, .ref m4, .ref m5, .int y.2.2.2.2.2.2.2.1, .int y.2.2.2.2.2.2.2.2.1, .int y.2.2.2.2.2.2.2.2.2.1, .int y.2.2.2.2.2.2.2.2.2.2.1, .int y.2.2.2.2.2.2.2.2.2.2.2.1, .int y.2.2.2.2.2.2.2.2.2.2.2.2.1, .int y.2.2.2.2.2.2.2.2.2.2.2.2.2.1, .int y.2.2.2.2.2.2.2.2.2.2.2.2.2.2, .ref m6, .ref m7])), (mK, .inl (cI, 1000, .inl Kf)), (mV, .inl (cI, 1000, .inl Vf)), (mN, .inl (cI, 2, .inl (upd (jb_two nl nr) 1 (nI (nr - z1.toNatClampNeg))))), (mR, .inl (cI, 10000, .inl Rf)), (mB, .inl (cI, 420, .inl Bf)), (mX, .inl (cI, 10, .inl Nf)), (m1, .inl (cI, 4000, .inl y.1)), (m2, .inl (cI, 4000, .inl y.2.1)), (m3, .inl (cI, 4000, .inl y.2.2.1)), (m4, .inl (cI, 4000, .inl y.2.2.2.1)), (m5, .inl (cI, 4000, .inl y.2.2.2.2.1)), (m6, .inl (cI, 4, .inl y.2.2.2.2.2.1)), (m7, .inl (cI, 1500, .inl y.2.2.2.2.2.2.1))] := hD
            rw [jb_two_1] at hP hD
            have hP : va_P (dC, dI) vwCl [(hM, .inr (6, [.ref mK, .ref mV, .ref mN, .int (nI per), .int (nI mem), .int (nI par), .ref mR, .ref mB, .ref mX, .ref m1, .ref m2, .ref m3, .ref m4, .ref m5, .int y.2.2.2.2.2.2.2.1, .int y.2.2.2.2.2.2.2.2.1, .int y.2.2.2.2.2.2.2.2.2.1, .int y.2.2.2.2.2.2.2.2.2.2.1, .int y.2.2.2.2.2.2.2.2.2.2.2.1, .int y.2.2.2.2.2.2.2.2.2.2.2.2.1, .int y.2.2.2.2.2.2.2.2.2.2.2.2.2.1, .int y.2.2.2.2.2.2.2.2.2.2.2.2.2.2, .ref m6, .ref m7])), (mK, .inl (cI, 1000, .inl Kf)), (mV, .inl (cI, 1000, .inl Vf)), (mN, .inl (cI, 2, .inl (jb_two nl (nr - z1.toNatClampNeg)))), (mR, .inl (cI, 10000, .inl Rf)), (mB, .inl (cI, 420, .inl Bf)), (mX, .inl (cI, 10, .inl Nf)), (m1, .inl (cI, 4000, .inl y.1)), (m2, .inl (cI, 4000, .inl y.2.1)), (m3, .inl (cI, 4000, .inl y.2.2.1)), (m4, .inl (cI, 4000, .inl y.2.2.2.1)), (m5, .inl (cI, 4000, .inl y.2.2.2.2.1)), (m6, .inl (cI, 4, .inl y.2.2.2.2.2.1)), (m7, .inl (cI, 1500, .inl y.2.2.2.2.2.2.1))] H := hP
            have hD : va_D A [(hM, .inr (6, [.ref mK, .ref mV, .ref mN, .int (nI per), .int (nI mem), .int (nI par), .ref mR, .ref mB, .ref mX, .ref m1, .ref m2, .ref m3, .ref m4, .ref m5, .int y.2.2.2.2.2.2.2.1, .int y.2.2.2.2.2.2.2.2.1, .int y.2.2.2.2.2.2.2.2.2.1, .int y.2.2.2.2.2.2.2.2.2.2.1, .int y.2.2.2.2.2.2.2.2.2.2.2.1, .int y.2.2.2.2.2.2.2.2.2.2.2.2.1, .int y.2.2.2.2.2.2.2.2.2.2.2.2.2.1, .int y.2.2.2.2.2.2.2.2.2.2.2.2.2.2, .ref m6, .ref m7])), (mK, .inl (cI, 1000, .inl Kf)), (mV, .inl (cI, 1000, .inl Vf)), (mN, .inl (cI, 2, .inl (jb_two nl (nr - z1.toNatClampNeg)))), (mR, .inl (cI, 10000, .inl Rf)), (mB, .inl (cI, 420, .inl Bf)), (mX, .inl (cI, 10, .inl Nf)), (m1, .inl (cI, 4000, .inl y.1)), (m2, .inl (cI, 4000, .inl y.2.1)), (m3, .inl (cI, 4000, .inl y.2.2.1)), (m4, .inl (cI, 4000, .inl y.2.2.2.1)), (m5, .inl (cI, 4000, .inl y.2.2.2.2.1)), (m6, .inl (cI, 4, .inl y.2.2.2.2.2.1)), (m7, .inl (cI, 1500, .inl y.2.2.2.2.2.2.1))] := hD
            refine lv_aload_n hx hb dX6_cut_37 rfl (lv_at hl 0 rfl) ?_
            refine va_get (D := (dC, dI)) (ci := 6) (v := .ref mN) (C := RX6) (T := TX6) (N := 24) hx hb hts iX6_cut_X6 hown hK hP 0 rfl rfl 2 (by decide) (hts (.fieldLink RX6 16 "JoinBenchModel" "many" "[I") (by decide +kernel)) (fun _ h9 => h9) rfl dX6_cut_38 ?_
            refine lv_iload_n hx hb dX6_cut_41 rfl (lv_at hl 1 rfl) ?_
            refine va_iald hx hb hK hP 3 0 rfl rfl (i := 1) (by unfold vp_in; decide) dX6_cut_42 ?_
            refine lv_topi (fun v_9 ev_9 => ?_)
            have hv_9 : v_9 = nI (nr - z1.toNatClampNeg) := ev_9.trans (rfl)
            clear ev_9; subst hv_9
            have hP9 : va_P (dC, dI) vwCl [(hM, .inr (6, [.ref mK, .ref mV, .ref mN, .int (nI per), .int (nI mem), .int (nI par), .ref mR, .ref mB, .ref mX, .ref m1, .ref m2, .ref m3, .ref m4, .ref m5, .int y.2.2.2.2.2.2.2.1, .int y.2.2.2.2.2.2.2.2.1, .int y.2.2.2.2.2.2.2.2.2.1, .int y.2.2.2.2.2.2.2.2.2.2.1, .int y.2.2.2.2.2.2.2.2.2.2.2.1, .int y.2.2.2.2.2.2.2.2.2.2.2.2.1, .int y.2.2.2.2.2.2.2.2.2.2.2.2.2.1, .int y.2.2.2.2.2.2.2.2.2.2.2.2.2.2, .ref m6, .ref m7])), (mK, .inl (cI, 1000, .inl Kf)), (mV, .inl (cI, 1000, .inl Vf)), (mN, .inl (cI, 2, .inl (jb_two (jb_if 1 0 (jb_dropN nl z1) nl) (jb_if 1 1 (jb_dropN nr z1) nr)))), (mR, .inl (cI, 10000, .inl Rf)), (mB, .inl (cI, 420, .inl Bf)), (mX, .inl (cI, 10, .inl Nf)), (m1, .inl (cI, 4000, .inl y.1)), (m2, .inl (cI, 4000, .inl y.2.1)), (m3, .inl (cI, 4000, .inl y.2.2.1)), (m4, .inl (cI, 4000, .inl y.2.2.2.1)), (m5, .inl (cI, 4000, .inl y.2.2.2.2.1)), (m6, .inl (cI, 4, .inl y.2.2.2.2.2.1)), (m7, .inl (cI, 1500, .inl y.2.2.2.2.2.2.1))] H := by rw [jb_if_n (t := 1) (k := 0) (a := jb_dropN nl z1) (b := nl) (by decide), jb_if_y (t := 1) (k := 1) (a := jb_dropN nr z1) (b := nr) rfl, show jb_dropN nr z1 = nr - z1.toNatClampNeg from if_neg hgood]; exact hP.sub [0, 1, 2, 3, 4, 5, 6, 7, 8, 9, 10, 11, 12, 13] rfl
            have hD9 : va_D A [(hM, .inr (6, [.ref mK, .ref mV, .ref mN, .int (nI per), .int (nI mem), .int (nI par), .ref mR, .ref mB, .ref mX, .ref m1, .ref m2, .ref m3, .ref m4, .ref m5, .int y.2.2.2.2.2.2.2.1, .int y.2.2.2.2.2.2.2.2.1, .int y.2.2.2.2.2.2.2.2.2.1, .int y.2.2.2.2.2.2.2.2.2.2.1, .int y.2.2.2.2.2.2.2.2.2.2.2.1, .int y.2.2.2.2.2.2.2.2.2.2.2.2.1, .int y.2.2.2.2.2.2.2.2.2.2.2.2.2.1, .int y.2.2.2.2.2.2.2.2.2.2.2.2.2.2, .ref m6, .ref m7])), (mK, .inl (cI, 1000, .inl Kf)), (mV, .inl (cI, 1000, .inl Vf)), (mN, .inl (cI, 2, .inl (jb_two (jb_if 1 0 (jb_dropN nl z1) nl) (jb_if 1 1 (jb_dropN nr z1) nr)))), (mR, .inl (cI, 10000, .inl Rf)), (mB, .inl (cI, 420, .inl Bf)), (mX, .inl (cI, 10, .inl Nf)), (m1, .inl (cI, 4000, .inl y.1)), (m2, .inl (cI, 4000, .inl y.2.1)), (m3, .inl (cI, 4000, .inl y.2.2.1)), (m4, .inl (cI, 4000, .inl y.2.2.2.1)), (m5, .inl (cI, 4000, .inl y.2.2.2.2.1)), (m6, .inl (cI, 4, .inl y.2.2.2.2.2.1)), (m7, .inl (cI, 1500, .inl y.2.2.2.2.2.2.1))] := by rw [jb_if_n (t := 1) (k := 0) (a := jb_dropN nl z1) (b := nl) (by decide), jb_if_y (t := 1) (k := 1) (a := jb_dropN nr z1) (b := nr) rfl, show jb_dropN nr z1 = nr - z1.toNatClampNeg from if_neg hgood]; exact hD.sub [0, 1, 2, 3, 4, 5, 6, 7, 8, 9, 10, 11, 12, 13] (by decide) rfl
            exact W.iret (v := nI (nr - z1.toNatClampNeg)) hx hb hr (fun t ht hW => ⟨⟨_, (), rfl, by rw [jb_ans1 (by decide) rfl]; exact (if_neg hgood).symm, by rw [ht]; exact hP9, hD9⟩, hS.F ht⟩) hS.2.2 dX6_cut_43
          · have hbad : z1 < 0 ∨ nI nr < z1 := Or.inr (Int32.not_le.mp c_18)
            refine lv_iconst (v := (-1)) hx hb dX6_cut_21 (by decide) ?_
            have hP9 : va_P (dC, dI) vwCl [(hM, .inr (6, [.ref mK, .ref mV, .ref mN, .int (nI per), .int (nI mem), .int (nI par), .ref mR, .ref mB, .ref mX, .ref m1, .ref m2, .ref m3, .ref m4, .ref m5, .int y.2.2.2.2.2.2.2.1, .int y.2.2.2.2.2.2.2.2.1, .int y.2.2.2.2.2.2.2.2.2.1, .int y.2.2.2.2.2.2.2.2.2.2.1, .int y.2.2.2.2.2.2.2.2.2.2.2.1, .int y.2.2.2.2.2.2.2.2.2.2.2.2.1, .int y.2.2.2.2.2.2.2.2.2.2.2.2.2.1, .int y.2.2.2.2.2.2.2.2.2.2.2.2.2.2, .ref m6, .ref m7])), (mK, .inl (cI, 1000, .inl Kf)), (mV, .inl (cI, 1000, .inl Vf)), (mN, .inl (cI, 2, .inl (jb_two (jb_if 1 0 (jb_dropN nl z1) nl) (jb_if 1 1 (jb_dropN nr z1) nr)))), (mR, .inl (cI, 10000, .inl Rf)), (mB, .inl (cI, 420, .inl Bf)), (mX, .inl (cI, 10, .inl Nf)), (m1, .inl (cI, 4000, .inl y.1)), (m2, .inl (cI, 4000, .inl y.2.1)), (m3, .inl (cI, 4000, .inl y.2.2.1)), (m4, .inl (cI, 4000, .inl y.2.2.2.1)), (m5, .inl (cI, 4000, .inl y.2.2.2.2.1)), (m6, .inl (cI, 4, .inl y.2.2.2.2.2.1)), (m7, .inl (cI, 1500, .inl y.2.2.2.2.2.2.1))] s.heap := by rw [jb_if_n (t := 1) (k := 0) (a := jb_dropN nl z1) (b := nl) (by decide), jb_if_y (t := 1) (k := 1) (a := jb_dropN nr z1) (b := nr) rfl, show jb_dropN nr z1 = nr from if_pos hbad]; exact hP.sub [0, 1, 2, 3, 4, 5, 6, 7, 8, 9, 10, 11, 12, 13] rfl
            have hD9 : va_D A [(hM, .inr (6, [.ref mK, .ref mV, .ref mN, .int (nI per), .int (nI mem), .int (nI par), .ref mR, .ref mB, .ref mX, .ref m1, .ref m2, .ref m3, .ref m4, .ref m5, .int y.2.2.2.2.2.2.2.1, .int y.2.2.2.2.2.2.2.2.1, .int y.2.2.2.2.2.2.2.2.2.1, .int y.2.2.2.2.2.2.2.2.2.2.1, .int y.2.2.2.2.2.2.2.2.2.2.2.1, .int y.2.2.2.2.2.2.2.2.2.2.2.2.1, .int y.2.2.2.2.2.2.2.2.2.2.2.2.2.1, .int y.2.2.2.2.2.2.2.2.2.2.2.2.2.2, .ref m6, .ref m7])), (mK, .inl (cI, 1000, .inl Kf)), (mV, .inl (cI, 1000, .inl Vf)), (mN, .inl (cI, 2, .inl (jb_two (jb_if 1 0 (jb_dropN nl z1) nl) (jb_if 1 1 (jb_dropN nr z1) nr)))), (mR, .inl (cI, 10000, .inl Rf)), (mB, .inl (cI, 420, .inl Bf)), (mX, .inl (cI, 10, .inl Nf)), (m1, .inl (cI, 4000, .inl y.1)), (m2, .inl (cI, 4000, .inl y.2.1)), (m3, .inl (cI, 4000, .inl y.2.2.1)), (m4, .inl (cI, 4000, .inl y.2.2.2.1)), (m5, .inl (cI, 4000, .inl y.2.2.2.2.1)), (m6, .inl (cI, 4, .inl y.2.2.2.2.2.1)), (m7, .inl (cI, 1500, .inl y.2.2.2.2.2.2.1))] := by rw [jb_if_n (t := 1) (k := 0) (a := jb_dropN nl z1) (b := nl) (by decide), jb_if_y (t := 1) (k := 1) (a := jb_dropN nr z1) (b := nr) rfl, show jb_dropN nr z1 = nr from if_pos hbad]; exact hD.sub [0, 1, 2, 3, 4, 5, 6, 7, 8, 9, 10, 11, 12, 13] (by decide) rfl
            exact W.iret (v := (-1)) hx hb hr (fun t ht hW => ⟨⟨_, (), rfl, by rw [jb_ans1 (by decide) rfl]; exact (if_pos hbad).symm, by rw [ht]; exact hP9, hD9⟩, hS.F ht⟩) hS.2.2 dX6_cut_22
    · have hz : jb_isT t = 0 := jb_isT_n h0 h9
      refine lv_if_eq (tgt := 21) hx hb dX6_cut_4 (by decide) (fun c_4 => ?_) (fun c_4 => ?_)
      · refine lv_iconst (v := (-1)) hx hb dX6_cut_21 (by decide) ?_
        have hP9 : va_P (dC, dI) vwCl [(hM, .inr (6, [.ref mK, .ref mV, .ref mN, .int (nI per), .int (nI mem), .int (nI par), .ref mR, .ref mB, .ref mX, .ref m1, .ref m2, .ref m3, .ref m4, .ref m5, .int y.2.2.2.2.2.2.2.1, .int y.2.2.2.2.2.2.2.2.1, .int y.2.2.2.2.2.2.2.2.2.1, .int y.2.2.2.2.2.2.2.2.2.2.1, .int y.2.2.2.2.2.2.2.2.2.2.2.1, .int y.2.2.2.2.2.2.2.2.2.2.2.2.1, .int y.2.2.2.2.2.2.2.2.2.2.2.2.2.1, .int y.2.2.2.2.2.2.2.2.2.2.2.2.2.2, .ref m6, .ref m7])), (mK, .inl (cI, 1000, .inl Kf)), (mV, .inl (cI, 1000, .inl Vf)), (mN, .inl (cI, 2, .inl (jb_two (jb_if t 0 (jb_dropN nl z1) nl) (jb_if t 1 (jb_dropN nr z1) nr)))), (mR, .inl (cI, 10000, .inl Rf)), (mB, .inl (cI, 420, .inl Bf)), (mX, .inl (cI, 10, .inl Nf)), (m1, .inl (cI, 4000, .inl y.1)), (m2, .inl (cI, 4000, .inl y.2.1)), (m3, .inl (cI, 4000, .inl y.2.2.1)), (m4, .inl (cI, 4000, .inl y.2.2.2.1)), (m5, .inl (cI, 4000, .inl y.2.2.2.2.1)), (m6, .inl (cI, 4, .inl y.2.2.2.2.2.1)), (m7, .inl (cI, 1500, .inl y.2.2.2.2.2.2.1))] s.heap := by rw [jb_if_n (a := jb_dropN nl z1) (b := nl) h0, jb_if_n (a := jb_dropN nr z1) (b := nr) h9]; exact hP.sub [0, 1, 2, 3, 4, 5, 6, 7, 8, 9, 10, 11, 12, 13] rfl
        have hD9 : va_D A [(hM, .inr (6, [.ref mK, .ref mV, .ref mN, .int (nI per), .int (nI mem), .int (nI par), .ref mR, .ref mB, .ref mX, .ref m1, .ref m2, .ref m3, .ref m4, .ref m5, .int y.2.2.2.2.2.2.2.1, .int y.2.2.2.2.2.2.2.2.1, .int y.2.2.2.2.2.2.2.2.2.1, .int y.2.2.2.2.2.2.2.2.2.2.1, .int y.2.2.2.2.2.2.2.2.2.2.2.1, .int y.2.2.2.2.2.2.2.2.2.2.2.2.1, .int y.2.2.2.2.2.2.2.2.2.2.2.2.2.1, .int y.2.2.2.2.2.2.2.2.2.2.2.2.2.2, .ref m6, .ref m7])), (mK, .inl (cI, 1000, .inl Kf)), (mV, .inl (cI, 1000, .inl Vf)), (mN, .inl (cI, 2, .inl (jb_two (jb_if t 0 (jb_dropN nl z1) nl) (jb_if t 1 (jb_dropN nr z1) nr)))), (mR, .inl (cI, 10000, .inl Rf)), (mB, .inl (cI, 420, .inl Bf)), (mX, .inl (cI, 10, .inl Nf)), (m1, .inl (cI, 4000, .inl y.1)), (m2, .inl (cI, 4000, .inl y.2.1)), (m3, .inl (cI, 4000, .inl y.2.2.1)), (m4, .inl (cI, 4000, .inl y.2.2.2.1)), (m5, .inl (cI, 4000, .inl y.2.2.2.2.1)), (m6, .inl (cI, 4, .inl y.2.2.2.2.2.1)), (m7, .inl (cI, 1500, .inl y.2.2.2.2.2.2.1))] := by rw [jb_if_n (a := jb_dropN nl z1) (b := nl) h0, jb_if_n (a := jb_dropN nr z1) (b := nr) h9]; exact hD.sub [0, 1, 2, 3, 4, 5, 6, 7, 8, 9, 10, 11, 12, 13] (by decide) rfl
        exact W.iret (v := (-1)) hx hb hr (fun t ht hW => ⟨⟨_, (), rfl, (jb_ansN h0 h9).symm, by rw [ht]; exact hP9, hD9⟩, hS.F ht⟩) hS.2.2 dX6_cut_22
      · exact absurd hz c_4
theorem iX6_pages_X6 : ∀ w ∈ wsX60, w ∈ wsX6_pages := by decide +kernel
set_option maxHeartbeats 1000000 in
set_option maxRecDepth 100000 in
/-- pages -/
theorem m_pages (l : Launch) (dC : Nat → ClassId) (dI : Nat → Nat → Nat) (cI : ClassId) (hM mK mV mN mR mB mX m1 m2 m3 m4 m5 m6 m7 : Nat) (Kf Vf : Nat → Int32) (nl nr per mem par : Nat) (Rf Bf Nf : Nat → Int32) (y : jmR) (t : Int32) (hnl : nl ≤ 500) (hnr : nr ≤ 500) (h1 : 1 ≤ per) (hp : per ≤ 16) : Met l yX6_pages wsX6_pages ({ frames := 2, cells := 0, slots := 0, locals := 80 } : Room) (va_Pc [.ref hM, .int t] (jb_R dC dI cI [(hM, .inr (6, [.ref mK, .ref mV, .ref mN, .int (nI per), .int (nI mem), .int (nI par), .ref mR, .ref mB, .ref mX, .ref m1, .ref m2, .ref m3, .ref m4, .ref m5, .int y.2.2.2.2.2.2.2.1, .int y.2.2.2.2.2.2.2.2.1, .int y.2.2.2.2.2.2.2.2.2.1, .int y.2.2.2.2.2.2.2.2.2.2.1, .int y.2.2.2.2.2.2.2.2.2.2.2.1, .int y.2.2.2.2.2.2.2.2.2.2.2.2.1, .int y.2.2.2.2.2.2.2.2.2.2.2.2.2.1, .int y.2.2.2.2.2.2.2.2.2.2.2.2.2.2, .ref m6, .ref m7])), (mK, .inl (cI, 1000, .inl Kf)), (mV, .inl (cI, 1000, .inl Vf)), (mN, .inl (cI, 2, .inl (jb_two nl nr))), (mR, .inl (cI, 10000, .inl Rf)), (mB, .inl (cI, 420, .inl Bf)), (mX, .inl (cI, 10, .inl Nf)), (m1, .inl (cI, 4000, .inl y.1)), (m2, .inl (cI, 4000, .inl y.2.1)), (m3, .inl (cI, 4000, .inl y.2.2.1)), (m4, .inl (cI, 4000, .inl y.2.2.2.1)), (m5, .inl (cI, 4000, .inl y.2.2.2.2.1)), (m6, .inl (cI, 4, .inl y.2.2.2.2.2.1)), (m7, .inl (cI, 1500, .inl y.2.2.2.2.2.2.1))])) (vp_Si (fun r => r = jb_ans t (nI (jb_pg per nl)) (nI (jb_pg per nr)))) 0 0 (fun _ => False) := by
  refine Met.ofW (cc := cX6_pages) (maxL := 2) (ret := (some .int)) (by decide) rfl ?_
  intro p e s m args below meth c s₁ B hml hv
  obtain ⟨rfl, hP, hK, hNw⟩ := hv
  have hx := B.exec
  have hb := B.bytes
  have hr := B.returns
  have hts := atoms_spec (ws := wsX6_pages) B.pre
  have hown : s.vm.findClass RX6 = some m.cls := findClass_of_methodNamed B.named
  have hlocks := B.notSynchronized
  have hl := lv_entry ([.ref hM, .int t]) (n := 2) (Nat.le_of_ble_eq_true rfl)
  rw [lg_entry_eq]
  generalize (lg_sl ([.ref hM, .int t]) ++ List.replicate (2 - (lg_sl ([.ref hM, .int t])).length) Slot.unset).toArray = ls at hl ⊢
  have hl : lv_has ls 2 [(0, .ref hM), (1, .int t)] := hl
  refine lv_iload_n hx hb dX6_pages_0 rfl (lv_at hl 1 rfl) ?_
  refine vp_callSi (va_runS (As := [.int t]) (rest := []) ⟨hx, hb, hml, hown, hts⟩ (m_isTable l t) (va_cwS 1 hts gX6_pages_X6_isTable rfl rfl rfl (by decide +kernel) ⟨(by decide +kernel), (by decide +kernel)⟩)  ⟨jb_Z_blind, jb_Z_pre⟩ rfl rfl hl.1 rfl (lv_room (Nat.le_of_ble_eq_true rfl)) dX6_pages_1 ⟨by decide +kernel, by decide +kernel⟩).run (fun r_1 hr_1 => ?_)
  subst hr_1
  by_cases h0 : t = 0
  · subst h0
    refine lv_if_eq (tgt := 20) hx hb dX6_pages_4 (by decide) (fun c_4 => ?_) (fun c_4 => ?_)
    · exact absurd c_4 (by decide)
    · refine lv_aload_n hx hb dX6_pages_7 rfl (lv_at hl 0 rfl) ?_
      refine lv_aload_n hx hb dX6_pages_8 rfl (lv_at hl 0 rfl) ?_
      refine va_get (D := (dC, dI)) (ci := 6) (v := .ref mN) (C := RX6) (T := TX6) (N := 24) hx hb hts iX6_pages_X6 hown hK hP 0 rfl rfl 2 (by decide) (hts (.fieldLink RX6 16 "JoinBenchModel" "many" "[I") (by decide +kernel)) (fun _ h9 => h9) rfl dX6_pages_9 ?_
      refine lv_iload_n hx hb dX6_pages_12 rfl (lv_at hl 1 rfl) ?_
      refine va_iald hx hb hK hP 3 0 rfl rfl (i := 0) (by unfold vp_in; decide) dX6_pages_13 ?_
      refine lv_topi (fun v_2 ev_2 => ?_)
      have hv_2 : v_2 = nI nl := ev_2.trans (rfl)
      clear ev_2; subst hv_2
      refine vp_callSi (va_runV (As := [.int (nI nl)]) (rest := []) ⟨hx, hb, hml, hown, hts⟩ (m_pagesOf l dC dI cI hM mK mV mN mR mB mX m1 m2 m3 m4 m5 m6 m7 Kf Vf nl nr per mem par Rf Bf Nf y nl h1 (by omega) hp) (cwV 1 hts gX6_pages_X6_pagesOf rfl rfl rfl (by decide +kernel) ⟨(by decide +kernel), (by decide +kernel)⟩)  ⟨jb_R_blind, va_recv hK hP (ci := 6) (q0 := 0) rfl rfl, jb_R_pre (hP.sub (ws' := [(hM, .inr (6, [.ref mK, .ref mV, .ref mN, .int (nI per), .int (nI mem), .int (nI par), .ref mR, .ref mB, .ref mX, .ref m1, .ref m2, .ref m3, .ref m4, .ref m5, .int y.2.2.2.2.2.2.2.1, .int y.2.2.2.2.2.2.2.2.1, .int y.2.2.2.2.2.2.2.2.2.1, .int y.2.2.2.2.2.2.2.2.2.2.1, .int y.2.2.2.2.2.2.2.2.2.2.2.1, .int y.2.2.2.2.2.2.2.2.2.2.2.2.1, .int y.2.2.2.2.2.2.2.2.2.2.2.2.2.1, .int y.2.2.2.2.2.2.2.2.2.2.2.2.2.2, .ref m6, .ref m7])), (mK, .inl (cI, 1000, .inl Kf)), (mV, .inl (cI, 1000, .inl Vf)), (mN, .inl (cI, 2, .inl (jb_two nl nr))), (mR, .inl (cI, 10000, .inl Rf)), (mB, .inl (cI, 420, .inl Bf)), (mX, .inl (cI, 10, .inl Nf)), (m1, .inl (cI, 4000, .inl y.1)), (m2, .inl (cI, 4000, .inl y.2.1)), (m3, .inl (cI, 4000, .inl y.2.2.1)), (m4, .inl (cI, 4000, .inl y.2.2.2.1)), (m5, .inl (cI, 4000, .inl y.2.2.2.2.1)), (m6, .inl (cI, 4, .inl y.2.2.2.2.2.1)), (m7, .inl (cI, 1500, .inl y.2.2.2.2.2.2.1))]) [0, 1, 2, 3, 4, 5, 6, 7, 8, 9, 10, 11, 12, 13] rfl) hK hNw⟩ rfl rfl hl.1 rfl (lv_room (Nat.le_of_ble_eq_true rfl)) dX6_pages_14 ⟨by decide +kernel, by decide +kernel⟩).run (fun r_3 hr_3 => ?_)
      subst hr_3
      refine lv_goto (tgt := 21) hx hb dX6_pages_17 (by decide) ?_
      exact W.iret (v := nI (jb_pg per nl)) hx hb hr (fun t ht hW => ⟨_, rfl, (jb_ans0 rfl).symm, ht⟩) (fun _ h => by cases h) dX6_pages_21
  · by_cases h9 : t = 1
    · subst h9
      refine lv_if_eq (tgt := 20) hx hb dX6_pages_4 (by decide) (fun c_4 => ?_) (fun c_4 => ?_)
      · exact absurd c_4 (by decide)
      · refine lv_aload_n hx hb dX6_pages_7 rfl (lv_at hl 0 rfl) ?_
        refine lv_aload_n hx hb dX6_pages_8 rfl (lv_at hl 0 rfl) ?_
        refine va_get (D := (dC, dI)) (ci := 6) (v := .ref mN) (C := RX6) (T := TX6) (N := 24) hx hb hts iX6_pages_X6 hown hK hP 0 rfl rfl 2 (by decide) (hts (.fieldLink RX6 16 "JoinBenchModel" "many" "[I") (by decide +kernel)) (fun _ h9 => h9) rfl dX6_pages_9 ?_
        refine lv_iload_n hx hb dX6_pages_12 rfl (lv_at hl 1 rfl) ?_
        refine va_iald hx hb hK hP 3 0 rfl rfl (i := 1) (by unfold vp_in; decide) dX6_pages_13 ?_
        refine lv_topi (fun v_4 ev_4 => ?_)
        have hv_4 : v_4 = nI nr := ev_4.trans (rfl)
        clear ev_4; subst hv_4
        refine vp_callSi (va_runV (As := [.int (nI nr)]) (rest := []) ⟨hx, hb, hml, hown, hts⟩ (m_pagesOf l dC dI cI hM mK mV mN mR mB mX m1 m2 m3 m4 m5 m6 m7 Kf Vf nl nr per mem par Rf Bf Nf y nr h1 (by omega) hp) (cwV 1 hts gX6_pages_X6_pagesOf rfl rfl rfl (by decide +kernel) ⟨(by decide +kernel), (by decide +kernel)⟩)  ⟨jb_R_blind, va_recv hK hP (ci := 6) (q0 := 0) rfl rfl, jb_R_pre (hP.sub (ws' := [(hM, .inr (6, [.ref mK, .ref mV, .ref mN, .int (nI per), .int (nI mem), .int (nI par), .ref mR, .ref mB, .ref mX, .ref m1, .ref m2, .ref m3, .ref m4, .ref m5, .int y.2.2.2.2.2.2.2.1, .int y.2.2.2.2.2.2.2.2.1, .int y.2.2.2.2.2.2.2.2.2.1, .int y.2.2.2.2.2.2.2.2.2.2.1, .int y.2.2.2.2.2.2.2.2.2.2.2.1, .int y.2.2.2.2.2.2.2.2.2.2.2.2.1, .int y.2.2.2.2.2.2.2.2.2.2.2.2.2.1, .int y.2.2.2.2.2.2.2.2.2.2.2.2.2.2, .ref m6, .ref m7])), (mK, .inl (cI, 1000, .inl Kf)), (mV, .inl (cI, 1000, .inl Vf)), (mN, .inl (cI, 2, .inl (jb_two nl nr))), (mR, .inl (cI, 10000, .inl Rf)), (mB, .inl (cI, 420, .inl Bf)), (mX, .inl (cI, 10, .inl Nf)), (m1, .inl (cI, 4000, .inl y.1)), (m2, .inl (cI, 4000, .inl y.2.1)), (m3, .inl (cI, 4000, .inl y.2.2.1)), (m4, .inl (cI, 4000, .inl y.2.2.2.1)), (m5, .inl (cI, 4000, .inl y.2.2.2.2.1)), (m6, .inl (cI, 4, .inl y.2.2.2.2.2.1)), (m7, .inl (cI, 1500, .inl y.2.2.2.2.2.2.1))]) [0, 1, 2, 3, 4, 5, 6, 7, 8, 9, 10, 11, 12, 13] rfl) hK hNw⟩ rfl rfl hl.1 rfl (lv_room (Nat.le_of_ble_eq_true rfl)) dX6_pages_14 ⟨by decide +kernel, by decide +kernel⟩).run (fun r_5 hr_5 => ?_)
        subst hr_5
        refine lv_goto (tgt := 21) hx hb dX6_pages_17 (by decide) ?_
        exact W.iret (v := nI (jb_pg per nr)) hx hb hr (fun t ht hW => ⟨_, rfl, (jb_ans1 (by decide) rfl).symm, ht⟩) (fun _ h => by cases h) dX6_pages_21
    · have hz : jb_isT t = 0 := jb_isT_n h0 h9
      refine lv_if_eq (tgt := 20) hx hb dX6_pages_4 (by decide) (fun c_4 => ?_) (fun c_4 => ?_)
      · refine lv_iconst (v := (-1)) hx hb dX6_pages_20 (by decide) ?_
        exact W.iret (v := (-1)) hx hb hr (fun t ht hW => ⟨_, rfl, (jb_ansN h0 h9).symm, ht⟩) (fun _ h => by cases h) dX6_pages_21
      · exact absurd hz c_4
def jm_evt (n : Int32) (E : Nat → Int32) (i w : Int32) : Int32 := if i < 0 ∨ n ≤ i ∨ 300 ≤ i ∨ w < 0 ∨ ¬ w ≤ 4 then -1 else E (i.toNatClampNeg * 5 + w.toNatClampNeg)
def jm_pairA (y : jmR) (i w : Int32) : Int32 := if i < 0 ∨ jm_np y ≤ i ∨ ¬ jm_np y ≤ 4000 then -1 else if w = 0 then y.1 i.toNatClampNeg else if w = 1 then y.2.1 i.toNatClampNeg else if w = 2 then y.2.2.1 i.toNatClampNeg else if w = 3 then y.2.2.2.1 i.toNatClampNeg else if w = 4 then y.2.2.2.2.1 i.toNatClampNeg else -1
theorem jb_in4 {x : Int32} (h0 : ¬ x < 0) (h : x ≤ 4) : vp_in x 5 := by
  rw [vp_in_iff]
  have a1 := Int32.le_iff_toInt_le.mp (Int32.not_lt.mp h0)
  have a2 := Int32.le_iff_toInt_le.mp h
  have e1 : (0 : Int32).toInt = 0 := rfl
  have e2 : (4 : Int32).toInt = 4 := rfl
  rw [e1] at a1
  rw [e2] at a2
  constructor <;> omega
theorem jb_in4000 {x n : Int32} (h0 : ¬ x < 0) (h : ¬ n ≤ x) (h4 : n ≤ 4000) : vp_in x 4000 := jb_in_of (N := 4000) rfl h0 (Int32.lt_of_lt_of_le (Int32.not_le.mp h) h4)
theorem iX6_event_X6 : ∀ w ∈ wsX60, w ∈ wsX6_event := by decide +kernel
set_option maxHeartbeats 1000000 in
set_option maxRecDepth 100000 in
/-- event -/
theorem m_event (l : Launch) (dC : Nat → ClassId) (dI : Nat → Nat → Nat) (cI : ClassId) (hM mK mV mN mR mB mX m1 m2 m3 m4 m5 m6 m7 : Nat) (Kf Vf : Nat → Int32) (nl nr per mem par : Nat) (Rf Bf Nf : Nat → Int32) (y : jmR) (i j : Int32) : Met l yX6_event wsX6_event ({ frames := 1, cells := 0, slots := 0, locals := 40 } : Room) (va_Pc [.ref hM, .int i, .int j] (jb_R dC dI cI [(hM, .inr (6, [.ref mK, .ref mV, .ref mN, .int (nI per), .int (nI mem), .int (nI par), .ref mR, .ref mB, .ref mX, .ref m1, .ref m2, .ref m3, .ref m4, .ref m5, .int y.2.2.2.2.2.2.2.1, .int y.2.2.2.2.2.2.2.2.1, .int y.2.2.2.2.2.2.2.2.2.1, .int y.2.2.2.2.2.2.2.2.2.2.1, .int y.2.2.2.2.2.2.2.2.2.2.2.1, .int y.2.2.2.2.2.2.2.2.2.2.2.2.1, .int y.2.2.2.2.2.2.2.2.2.2.2.2.2.1, .int y.2.2.2.2.2.2.2.2.2.2.2.2.2.2, .ref m6, .ref m7])), (mK, .inl (cI, 1000, .inl Kf)), (mV, .inl (cI, 1000, .inl Vf)), (mN, .inl (cI, 2, .inl (jb_two nl nr))), (mR, .inl (cI, 10000, .inl Rf)), (mB, .inl (cI, 420, .inl Bf)), (mX, .inl (cI, 10, .inl Nf)), (m1, .inl (cI, 4000, .inl y.1)), (m2, .inl (cI, 4000, .inl y.2.1)), (m3, .inl (cI, 4000, .inl y.2.2.1)), (m4, .inl (cI, 4000, .inl y.2.2.2.1)), (m5, .inl (cI, 4000, .inl y.2.2.2.2.1)), (m6, .inl (cI, 4, .inl y.2.2.2.2.2.1)), (m7, .inl (cI, 1500, .inl y.2.2.2.2.2.2.1))])) (vp_Si (fun r => r = jm_evt (jm_ne y) (y.2.2.2.2.2.2.1) i j)) 0 0 (fun _ => False) := by
  refine Met.ofW (cc := cX6_event) (maxL := 3) (ret := (some .int)) (by decide) rfl ?_
  intro p e s m args below meth c s₁ B hml hv
  obtain ⟨rfl, hP, hK, hNw⟩ := hv
  have hx := B.exec
  have hb := B.bytes
  have hr := B.returns
  have hts := atoms_spec (ws := wsX6_event) B.pre
  have hown : s.vm.findClass RX6 = some m.cls := findClass_of_methodNamed B.named
  have hlocks := B.notSynchronized
  have hl := lv_entry ([.ref hM, .int i, .int j]) (n := 3) (Nat.le_of_ble_eq_true rfl)
  rw [lg_entry_eq]
  generalize (lg_sl ([.ref hM, .int i, .int j]) ++ List.replicate (3 - (lg_sl ([.ref hM, .int i, .int j])).length) Slot.unset).toArray = ls at hl ⊢
  have hl : lv_has ls 3 [(0, .ref hM), (1, .int i), (2, .int j)] := hl
  refine lv_iload_n hx hb dX6_event_0 rfl (lv_at hl 1 rfl) ?_
  refine lv_if_lt (tgt := 28) hx hb dX6_event_1 (by decide) (fun c_1 => ?_) (fun c_1 => ?_)
  · refine lv_iconst (v := (-1)) hx hb dX6_event_28 (by decide) ?_
    refine lv_goto (tgt := 42) hx hb dX6_event_29 (by decide) ?_
    exact W.iret (v := (-1)) hx hb hr (fun t ht hW => ⟨_, rfl, (if_pos (Or.inl c_1)).symm, ht⟩) (fun _ h => by cases h) dX6_event_42
  · refine lv_iload_n hx hb dX6_event_4 rfl (lv_at hl 1 rfl) ?_
    refine lv_aload_n hx hb dX6_event_5 rfl (lv_at hl 0 rfl) ?_
    refine va_get (D := (dC, dI)) (ci := 6) (v := .int y.2.2.2.2.2.2.2.2.2.2.2.2.2.2) (C := RX6) (T := TX6) (N := 24) hx hb hts iX6_event_X6 hown hK hP 0 rfl rfl 21 (by decide) (hts (.fieldLink RX6 100 "JoinBenchModel" "events" "I") (by decide +kernel)) (fun _ h9 => h9) rfl dX6_event_6 ?_
    refine lv_icmp_ge (tgt := 28) hx hb dX6_event_9 (by decide) (fun c_9 => ?_) (fun c_9 => ?_)
    · refine lv_iconst (v := (-1)) hx hb dX6_event_28 (by decide) ?_
      refine lv_goto (tgt := 42) hx hb dX6_event_29 (by decide) ?_
      exact W.iret (v := (-1)) hx hb hr (fun t ht hW => ⟨_, rfl, (if_pos (Or.inr (Or.inl c_9))).symm, ht⟩) (fun _ h => by cases h) dX6_event_42
    · refine lv_iload_n hx hb dX6_event_12 rfl (lv_at hl 1 rfl) ?_
      refine lv_sipush (v := 300) hx hb dX6_event_13 (by decide) ?_
      refine lv_icmp_ge (tgt := 28) hx hb dX6_event_16 (by decide) (fun c_16 => ?_) (fun c_16 => ?_)
      · refine lv_iconst (v := (-1)) hx hb dX6_event_28 (by decide) ?_
        refine lv_goto (tgt := 42) hx hb dX6_event_29 (by decide) ?_
        exact W.iret (v := (-1)) hx hb hr (fun t ht hW => ⟨_, rfl, (if_pos (Or.inr (Or.inr (Or.inl c_16)))).symm, ht⟩) (fun _ h => by cases h) dX6_event_42
      · refine lv_iload_n hx hb dX6_event_19 rfl (lv_at hl 2 rfl) ?_
        refine lv_if_lt (tgt := 28) hx hb dX6_event_20 (by decide) (fun c_20 => ?_) (fun c_20 => ?_)
        · refine lv_iconst (v := (-1)) hx hb dX6_event_28 (by decide) ?_
          refine lv_goto (tgt := 42) hx hb dX6_event_29 (by decide) ?_
          exact W.iret (v := (-1)) hx hb hr (fun t ht hW => ⟨_, rfl, (if_pos (Or.inr (Or.inr (Or.inr (Or.inl c_20))))).symm, ht⟩) (fun _ h => by cases h) dX6_event_42
        · refine lv_iload_n hx hb dX6_event_23 rfl (lv_at hl 2 rfl) ?_
          refine lv_iconst (v := 4) hx hb dX6_event_24 (by decide) ?_
          refine lv_icmp_le (tgt := 32) hx hb dX6_event_25 (by decide) (fun c_25 => ?_) (fun c_25 => ?_)
          · refine lv_aload_n hx hb dX6_event_32 rfl (lv_at hl 0 rfl) ?_
            refine va_get (D := (dC, dI)) (ci := 6) (v := .ref m7) (C := RX6) (T := TX6) (N := 24) hx hb hts iX6_event_X6 hown hK hP 0 rfl rfl 23 (by decide) (hts (.fieldLink RX6 59 "JoinBenchModel" "eventRow" "[I") (by decide +kernel)) (fun _ h9 => h9) rfl dX6_event_33 ?_
            refine lv_iconst (v := 5) hx hb dX6_event_36 (by decide) ?_
            refine lv_iload_n hx hb dX6_event_37 rfl (lv_at hl 1 rfl) ?_
            refine lv_imul hx hb dX6_event_38 ?_
            refine lv_iload_n hx hb dX6_event_39 rfl (lv_at hl 2 rfl) ?_
            refine lv_iadd hx hb dX6_event_40 ?_
            obtain ⟨a, ha, ea⟩ := vp_in_of (jb_in_of (n := 300) (N := 300) rfl c_1 (Int32.not_le.mp c_16)) (by decide)
            obtain ⟨b, hb2, eb⟩ := vp_in_of (jb_in4 c_20 c_25) (by decide)
            refine lv_topi (fun v_1 ev_1 => ?_)
            have hv_1 : v_1 = nI (a * 5 + b) := ev_1.trans (by rw [ea, eb, show (5 : Int32) = nI 5 from rfl, jb_mulc, nI_add])
            clear ev_1; subst hv_1
            refine va_iald hx hb hK hP 13 0 rfl rfl (i := nI (a * 5 + b)) (vp_in_nI (n := a * 5 + b) (by omega) (by decide)) dX6_event_41 ?_
            refine lv_topi (fun v_2 ev_2 => ?_)
            have hv_2 : v_2 = (y.2.2.2.2.2.2.1 (i.toNatClampNeg * 5 + j.toNatClampNeg)) := ev_2.trans (by rw [ea, eb, nI_clamp (by omega), nI_clamp (by omega), nI_clamp (by omega)])
            clear ev_2; subst hv_2
            exact W.iret (v := (y.2.2.2.2.2.2.1 (i.toNatClampNeg * 5 + j.toNatClampNeg))) hx hb hr (fun t ht hW => ⟨_, rfl, (if_neg (fun h => h.elim c_1 (fun h => h.elim c_9 (fun h => h.elim c_16 (fun h => h.elim c_20 (fun h => h c_25)))))).symm, ht⟩) (fun _ h => by cases h) dX6_event_42
          · refine lv_iconst (v := (-1)) hx hb dX6_event_28 (by decide) ?_
            refine lv_goto (tgt := 42) hx hb dX6_event_29 (by decide) ?_
            exact W.iret (v := (-1)) hx hb hr (fun t ht hW => ⟨_, rfl, (if_pos (Or.inr (Or.inr (Or.inr (Or.inr c_25))))).symm, ht⟩) (fun _ h => by cases h) dX6_event_42
theorem iX6_pair_X6 : ∀ w ∈ wsX60, w ∈ wsX6_pair := by decide +kernel
set_option maxHeartbeats 1000000 in
set_option maxRecDepth 100000 in
/-- pair -/
theorem m_pair (l : Launch) (dC : Nat → ClassId) (dI : Nat → Nat → Nat) (cI : ClassId) (hM mK mV mN mR mB mX m1 m2 m3 m4 m5 m6 m7 : Nat) (Kf Vf : Nat → Int32) (nl nr per mem par : Nat) (Rf Bf Nf : Nat → Int32) (y : jmR) (i w : Int32) : Met l yX6_pair wsX6_pair ({ frames := 1, cells := 0, slots := 0, locals := 40 } : Room) (va_Pc [.ref hM, .int i, .int w] (jb_R dC dI cI [(hM, .inr (6, [.ref mK, .ref mV, .ref mN, .int (nI per), .int (nI mem), .int (nI par), .ref mR, .ref mB, .ref mX, .ref m1, .ref m2, .ref m3, .ref m4, .ref m5, .int y.2.2.2.2.2.2.2.1, .int y.2.2.2.2.2.2.2.2.1, .int y.2.2.2.2.2.2.2.2.2.1, .int y.2.2.2.2.2.2.2.2.2.2.1, .int y.2.2.2.2.2.2.2.2.2.2.2.1, .int y.2.2.2.2.2.2.2.2.2.2.2.2.1, .int y.2.2.2.2.2.2.2.2.2.2.2.2.2.1, .int y.2.2.2.2.2.2.2.2.2.2.2.2.2.2, .ref m6, .ref m7])), (mK, .inl (cI, 1000, .inl Kf)), (mV, .inl (cI, 1000, .inl Vf)), (mN, .inl (cI, 2, .inl (jb_two nl nr))), (mR, .inl (cI, 10000, .inl Rf)), (mB, .inl (cI, 420, .inl Bf)), (mX, .inl (cI, 10, .inl Nf)), (m1, .inl (cI, 4000, .inl y.1)), (m2, .inl (cI, 4000, .inl y.2.1)), (m3, .inl (cI, 4000, .inl y.2.2.1)), (m4, .inl (cI, 4000, .inl y.2.2.2.1)), (m5, .inl (cI, 4000, .inl y.2.2.2.2.1)), (m6, .inl (cI, 4, .inl y.2.2.2.2.2.1)), (m7, .inl (cI, 1500, .inl y.2.2.2.2.2.2.1))])) (vp_Si (fun r => r = jm_pairA y i w)) 0 0 (fun _ => False) := by
  refine Met.ofW (cc := cX6_pair) (maxL := 3) (ret := (some .int)) (by decide) rfl ?_
  intro p e s m args below meth c s₁ B hml hv
  obtain ⟨rfl, hP, hK, hNw⟩ := hv
  have hx := B.exec
  have hb := B.bytes
  have hr := B.returns
  have hts := atoms_spec (ws := wsX6_pair) B.pre
  have hown : s.vm.findClass RX6 = some m.cls := findClass_of_methodNamed B.named
  have hlocks := B.notSynchronized
  have hl := lv_entry ([.ref hM, .int i, .int w]) (n := 3) (Nat.le_of_ble_eq_true rfl)
  rw [lg_entry_eq]
  generalize (lg_sl ([.ref hM, .int i, .int w]) ++ List.replicate (3 - (lg_sl ([.ref hM, .int i, .int w])).length) Slot.unset).toArray = ls at hl ⊢
  have hl : lv_has ls 3 [(0, .ref hM), (1, .int i), (2, .int w)] := hl
  refine lv_iload_n hx hb dX6_pair_0 rfl (lv_at hl 1 rfl) ?_
  refine lv_if_lt (tgt := 22) hx hb dX6_pair_1 (by decide) (fun c_1 => ?_) (fun c_1 => ?_)
  · refine lv_iconst (v := (-1)) hx hb dX6_pair_22 (by decide) ?_
    exact W.iret (v := (-1)) hx hb hr (fun t ht hW => ⟨_, rfl, (if_pos (Or.inl c_1)).symm, ht⟩) (fun _ h => by cases h) dX6_pair_23
  · refine lv_iload_n hx hb dX6_pair_4 rfl (lv_at hl 1 rfl) ?_
    refine lv_aload_n hx hb dX6_pair_5 rfl (lv_at hl 0 rfl) ?_
    refine va_get (D := (dC, dI)) (ci := 6) (v := .int y.2.2.2.2.2.2.2.1) (C := RX6) (T := TX6) (N := 24) hx hb hts iX6_pair_X6 hown hK hP 0 rfl rfl 14 (by decide) (hts (.fieldLink RX6 93 "JoinBenchModel" "pairs" "I") (by decide +kernel)) (fun _ h9 => h9) rfl dX6_pair_6 ?_
    refine lv_icmp_ge (tgt := 22) hx hb dX6_pair_9 (by decide) (fun c_9 => ?_) (fun c_9 => ?_)
    · refine lv_iconst (v := (-1)) hx hb dX6_pair_22 (by decide) ?_
      exact W.iret (v := (-1)) hx hb hr (fun t ht hW => ⟨_, rfl, (if_pos (Or.inr (Or.inl c_9))).symm, ht⟩) (fun _ h => by cases h) dX6_pair_23
    · refine lv_aload_n hx hb dX6_pair_12 rfl (lv_at hl 0 rfl) ?_
      refine va_get (D := (dC, dI)) (ci := 6) (v := .int y.2.2.2.2.2.2.2.1) (C := RX6) (T := TX6) (N := 24) hx hb hts iX6_pair_X6 hown hK hP 0 rfl rfl 14 (by decide) (hts (.fieldLink RX6 93 "JoinBenchModel" "pairs" "I") (by decide +kernel)) (fun _ h9 => h9) rfl dX6_pair_13 ?_
      refine lv_sipush (v := 4000) hx hb dX6_pair_16 (by decide) ?_
      refine lv_icmp_le (tgt := 24) hx hb dX6_pair_19 (by decide) (fun c_19 => ?_) (fun c_19 => ?_)
      · refine lv_iload_n hx hb dX6_pair_24 rfl (lv_at hl 2 rfl) ?_
        by_cases w0 : w = 0
        · refine lv_tableIn (off := 35) (tgt := 60) hx hb dX6_pair_25 (by rw [w0]; decide) (by rw [w0]; decide) (by rw [w0]; rfl) (by decide) ?_
          refine lv_aload_n hx hb dX6_pair_60 rfl (lv_at hl 0 rfl) ?_
          refine va_get (D := (dC, dI)) (ci := 6) (v := .ref m1) (C := RX6) (T := TX6) (N := 24) hx hb hts iX6_pair_X6 hown hK hP 0 rfl rfl 9 (by decide) (hts (.fieldLink RX6 38 "JoinBenchModel" "pairLeft" "[I") (by decide +kernel)) (fun _ h9 => h9) rfl dX6_pair_61 ?_
          refine lv_iload_n hx hb dX6_pair_64 rfl (lv_at hl 1 rfl) ?_
          refine va_iald hx hb hK hP 7 0 rfl rfl (i := i) (jb_in4000 c_1 c_9 c_19) dX6_pair_65 ?_
          exact W.iret (v := (y.1 i.toNatClampNeg)) hx hb hr (fun t ht hW => ⟨_, rfl, by unfold jm_pairA; rw [if_neg (fun h => h.elim c_1 (fun h => h.elim c_9 (fun h => h c_19))), if_pos w0], ht⟩) (fun _ h => by cases h) dX6_pair_66
        · by_cases w1 : w = 1
          · refine lv_tableIn (off := 42) (tgt := 67) hx hb dX6_pair_25 (by rw [w1]; decide) (by rw [w1]; decide) (by rw [w1]; rfl) (by decide) ?_
            refine lv_aload_n hx hb dX6_pair_67 rfl (lv_at hl 0 rfl) ?_
            refine va_get (D := (dC, dI)) (ci := 6) (v := .ref m2) (C := RX6) (T := TX6) (N := 24) hx hb hts iX6_pair_X6 hown hK hP 0 rfl rfl 10 (by decide) (hts (.fieldLink RX6 41 "JoinBenchModel" "pairRight" "[I") (by decide +kernel)) (fun _ h9 => h9) rfl dX6_pair_68 ?_
            refine lv_iload_n hx hb dX6_pair_71 rfl (lv_at hl 1 rfl) ?_
            refine va_iald hx hb hK hP 8 0 rfl rfl (i := i) (jb_in4000 c_1 c_9 c_19) dX6_pair_72 ?_
            exact W.iret (v := (y.2.1 i.toNatClampNeg)) hx hb hr (fun t ht hW => ⟨_, rfl, by unfold jm_pairA; rw [if_neg (fun h => h.elim c_1 (fun h => h.elim c_9 (fun h => h c_19))), if_neg w0, if_pos w1], ht⟩) (fun _ h => by cases h) dX6_pair_73
          · by_cases w2 : w = 2
            · refine lv_tableIn (off := 49) (tgt := 74) hx hb dX6_pair_25 (by rw [w2]; decide) (by rw [w2]; decide) (by rw [w2]; rfl) (by decide) ?_
              refine lv_aload_n hx hb dX6_pair_74 rfl (lv_at hl 0 rfl) ?_
              refine va_get (D := (dC, dI)) (ci := 6) (v := .ref m3) (C := RX6) (T := TX6) (N := 24) hx hb hts iX6_pair_X6 hown hK hP 0 rfl rfl 11 (by decide) (hts (.fieldLink RX6 44 "JoinBenchModel" "pairKey" "[I") (by decide +kernel)) (fun _ h9 => h9) rfl dX6_pair_75 ?_
              refine lv_iload_n hx hb dX6_pair_78 rfl (lv_at hl 1 rfl) ?_
              refine va_iald hx hb hK hP 9 0 rfl rfl (i := i) (jb_in4000 c_1 c_9 c_19) dX6_pair_79 ?_
              exact W.iret (v := (y.2.2.1 i.toNatClampNeg)) hx hb hr (fun t ht hW => ⟨_, rfl, by unfold jm_pairA; rw [if_neg (fun h => h.elim c_1 (fun h => h.elim c_9 (fun h => h c_19))), if_neg w0, if_neg w1, if_pos w2], ht⟩) (fun _ h => by cases h) dX6_pair_80
            · by_cases w3 : w = 3
              · refine lv_tableIn (off := 56) (tgt := 81) hx hb dX6_pair_25 (by rw [w3]; decide) (by rw [w3]; decide) (by rw [w3]; rfl) (by decide) ?_
                refine lv_aload_n hx hb dX6_pair_81 rfl (lv_at hl 0 rfl) ?_
                refine va_get (D := (dC, dI)) (ci := 6) (v := .ref m4) (C := RX6) (T := TX6) (N := 24) hx hb hts iX6_pair_X6 hown hK hP 0 rfl rfl 12 (by decide) (hts (.fieldLink RX6 47 "JoinBenchModel" "valueLeft" "[I") (by decide +kernel)) (fun _ h9 => h9) rfl dX6_pair_82 ?_
                refine lv_iload_n hx hb dX6_pair_85 rfl (lv_at hl 1 rfl) ?_
                refine va_iald hx hb hK hP 10 0 rfl rfl (i := i) (jb_in4000 c_1 c_9 c_19) dX6_pair_86 ?_
                exact W.iret (v := (y.2.2.2.1 i.toNatClampNeg)) hx hb hr (fun t ht hW => ⟨_, rfl, by unfold jm_pairA; rw [if_neg (fun h => h.elim c_1 (fun h => h.elim c_9 (fun h => h c_19))), if_neg w0, if_neg w1, if_neg w2, if_pos w3], ht⟩) (fun _ h => by cases h) dX6_pair_87
              · by_cases w4 : w = 4
                · refine lv_tableIn (off := 63) (tgt := 88) hx hb dX6_pair_25 (by rw [w4]; decide) (by rw [w4]; decide) (by rw [w4]; rfl) (by decide) ?_
                  refine lv_aload_n hx hb dX6_pair_88 rfl (lv_at hl 0 rfl) ?_
                  refine va_get (D := (dC, dI)) (ci := 6) (v := .ref m5) (C := RX6) (T := TX6) (N := 24) hx hb hts iX6_pair_X6 hown hK hP 0 rfl rfl 13 (by decide) (hts (.fieldLink RX6 50 "JoinBenchModel" "valueRight" "[I") (by decide +kernel)) (fun _ h9 => h9) rfl dX6_pair_89 ?_
                  refine lv_iload_n hx hb dX6_pair_92 rfl (lv_at hl 1 rfl) ?_
                  refine va_iald hx hb hK hP 11 0 rfl rfl (i := i) (jb_in4000 c_1 c_9 c_19) dX6_pair_93 ?_
                  exact W.iret (v := (y.2.2.2.2.1 i.toNatClampNeg)) hx hb hr (fun t ht hW => ⟨_, rfl, by unfold jm_pairA; rw [if_neg (fun h => h.elim c_1 (fun h => h.elim c_9 (fun h => h c_19))), if_neg w0, if_neg w1, if_neg w2, if_neg w3, if_pos w4], ht⟩) (fun _ h => by cases h) dX6_pair_94
                · refine lv_tableOut (tgt := 95) hx hb dX6_pair_25 (jb_sw5 w0 w1 w2 w3 w4) (by decide) ?_
                  refine lv_iconst (v := (-1)) hx hb dX6_pair_95 (by decide) ?_
                  exact W.iret (v := (-1)) hx hb hr (fun t ht hW => ⟨_, rfl, by unfold jm_pairA; rw [if_neg (fun h => h.elim c_1 (fun h => h.elim c_9 (fun h => h c_19))), if_neg w0, if_neg w1, if_neg w2, if_neg w3, if_neg w4], ht⟩) (fun _ h => by cases h) dX6_pair_96
      · refine lv_iconst (v := (-1)) hx hb dX6_pair_22 (by decide) ?_
        exact W.iret (v := (-1)) hx hb hr (fun t ht hW => ⟨_, rfl, (if_pos (Or.inr (Or.inr c_19))).symm, ht⟩) (fun _ h => by cases h) dX6_pair_23
theorem jb_sw11 {w : Int32} (h0 : ¬ w = 0) (h1 : ¬ w = 1) (h2 : ¬ w = 2) (h3 : ¬ w = 3) (h4 : ¬ w = 4) (h5 : ¬ w = 5) (h6 : ¬ w = 6) (h7 : ¬ w = 7) (h8 : ¬ w = 8) (h9 : ¬ w = 9) (h10 : ¬ w = 10) : w.toInt < 0 ∨ 10 < w.toInt := by
  have key : ∀ k : Int32, ¬ w = k → ¬ w.toInt = k.toInt := fun k h q => h (Int32.toInt_inj.mp q)
  have a0 : ¬ w.toInt = 0 := key 0 h0
  have a1 : ¬ w.toInt = 1 := key 1 h1
  have a2 : ¬ w.toInt = 2 := key 2 h2
  have a3 : ¬ w.toInt = 3 := key 3 h3
  have a4 : ¬ w.toInt = 4 := key 4 h4
  have a5 : ¬ w.toInt = 5 := key 5 h5
  have a6 : ¬ w.toInt = 6 := key 6 h6
  have a7 : ¬ w.toInt = 7 := key 7 h7
  have a8 : ¬ w.toInt = 8 := key 8 h8
  have a9 : ¬ w.toInt = 9 := key 9 h9
  have a10 : ¬ w.toInt = 10 := key 10 h10
  omega
def jm_toldA (y : jmR) (w : Int32) : Int32 := if w = 0 then y.2.2.2.2.2.2.2.2.1 else if w = 1 then y.2.2.2.2.2.2.2.2.2.1 else if w = 2 then y.2.2.2.2.2.2.2.2.2.2.1 else if w = 3 then y.2.2.2.2.2.2.2.2.2.2.2.2.1 else if w = 4 then y.2.2.2.2.2.2.2.2.2.2.2.2.2.1 else if w = 5 then y.2.2.2.2.2.2.2.2.2.2.2.2.2.2 else if w = 6 then y.2.2.2.2.2.1 0 else if w = 7 then y.2.2.2.2.2.1 1 else if w = 8 then y.2.2.2.2.2.1 2 else if w = 9 then y.2.2.2.2.2.1 3 else if w = 10 then y.2.2.2.2.2.2.2.1 else -1
theorem iX6_told_X6 : ∀ w ∈ wsX60, w ∈ wsX6_told := by decide +kernel
set_option maxHeartbeats 1000000 in
set_option maxRecDepth 100000 in
/-- told -/
theorem m_told (l : Launch) (dC : Nat → ClassId) (dI : Nat → Nat → Nat) (cI : ClassId) (hM mK mV mN mR mB mX m1 m2 m3 m4 m5 m6 m7 : Nat) (Kf Vf : Nat → Int32) (nl nr per mem par : Nat) (Rf Bf Nf : Nat → Int32) (y : jmR) (w : Int32) : Met l yX6_told wsX6_told ({ frames := 1, cells := 0, slots := 0, locals := 40 } : Room) (va_Pc [.ref hM, .int w] (jb_R dC dI cI [(hM, .inr (6, [.ref mK, .ref mV, .ref mN, .int (nI per), .int (nI mem), .int (nI par), .ref mR, .ref mB, .ref mX, .ref m1, .ref m2, .ref m3, .ref m4, .ref m5, .int y.2.2.2.2.2.2.2.1, .int y.2.2.2.2.2.2.2.2.1, .int y.2.2.2.2.2.2.2.2.2.1, .int y.2.2.2.2.2.2.2.2.2.2.1, .int y.2.2.2.2.2.2.2.2.2.2.2.1, .int y.2.2.2.2.2.2.2.2.2.2.2.2.1, .int y.2.2.2.2.2.2.2.2.2.2.2.2.2.1, .int y.2.2.2.2.2.2.2.2.2.2.2.2.2.2, .ref m6, .ref m7])), (mK, .inl (cI, 1000, .inl Kf)), (mV, .inl (cI, 1000, .inl Vf)), (mN, .inl (cI, 2, .inl (jb_two nl nr))), (mR, .inl (cI, 10000, .inl Rf)), (mB, .inl (cI, 420, .inl Bf)), (mX, .inl (cI, 10, .inl Nf)), (m1, .inl (cI, 4000, .inl y.1)), (m2, .inl (cI, 4000, .inl y.2.1)), (m3, .inl (cI, 4000, .inl y.2.2.1)), (m4, .inl (cI, 4000, .inl y.2.2.2.1)), (m5, .inl (cI, 4000, .inl y.2.2.2.2.1)), (m6, .inl (cI, 4, .inl y.2.2.2.2.2.1)), (m7, .inl (cI, 1500, .inl y.2.2.2.2.2.2.1))])) (vp_Si (fun r => r = jm_toldA y w)) 0 0 (fun _ => False) := by
  refine Met.ofW (cc := cX6_told) (maxL := 2) (ret := (some .int)) (by decide) rfl ?_
  intro p e s m args below meth c s₁ B hml hv
  obtain ⟨rfl, hP, hK, hNw⟩ := hv
  have hx := B.exec
  have hb := B.bytes
  have hr := B.returns
  have hts := atoms_spec (ws := wsX6_told) B.pre
  have hown : s.vm.findClass RX6 = some m.cls := findClass_of_methodNamed B.named
  have hlocks := B.notSynchronized
  have hl := lv_entry ([.ref hM, .int w]) (n := 2) (Nat.le_of_ble_eq_true rfl)
  rw [lg_entry_eq]
  generalize (lg_sl ([.ref hM, .int w]) ++ List.replicate (2 - (lg_sl ([.ref hM, .int w])).length) Slot.unset).toArray = ls at hl ⊢
  have hl : lv_has ls 2 [(0, .ref hM), (1, .int w)] := hl
  refine lv_iload_n hx hb dX6_told_0 rfl (lv_at hl 1 rfl) ?_
  by_cases w0 : w = 0
  · refine lv_tableIn (off := 59) (tgt := 60) hx hb dX6_told_1 (by rw [w0]; decide) (by rw [w0]; decide) (by rw [w0]; rfl) (by decide) ?_
    refine lv_aload_n hx hb dX6_told_60 rfl (lv_at hl 0 rfl) ?_
    refine va_get (D := (dC, dI)) (ci := 6) (v := .int y.2.2.2.2.2.2.2.2.1) (C := RX6) (T := TX6) (N := 24) hx hb hts iX6_told_X6 hown hK hP 0 rfl rfl 15 (by decide) (hts (.fieldLink RX6 103 "JoinBenchModel" "read" "I") (by decide +kernel)) (fun _ h9 => h9) rfl dX6_told_61 ?_
    exact W.iret (v := y.2.2.2.2.2.2.2.2.1) hx hb hr (fun t ht hW => ⟨_, rfl, by unfold jm_toldA; rw [if_pos w0], ht⟩) (fun _ h => by cases h) dX6_told_64
  · by_cases w1 : w = 1
    · refine lv_tableIn (off := 64) (tgt := 65) hx hb dX6_told_1 (by rw [w1]; decide) (by rw [w1]; decide) (by rw [w1]; rfl) (by decide) ?_
      refine lv_aload_n hx hb dX6_told_65 rfl (lv_at hl 0 rfl) ?_
      refine va_get (D := (dC, dI)) (ci := 6) (v := .int y.2.2.2.2.2.2.2.2.2.1) (C := RX6) (T := TX6) (N := 24) hx hb hts iX6_told_X6 hown hK hP 0 rfl rfl 16 (by decide) (hts (.fieldLink RX6 109 "JoinBenchModel" "written" "I") (by decide +kernel)) (fun _ h9 => h9) rfl dX6_told_66 ?_
      exact W.iret (v := y.2.2.2.2.2.2.2.2.2.1) hx hb hr (fun t ht hW => ⟨_, rfl, by unfold jm_toldA; rw [if_neg w0, if_pos w1], ht⟩) (fun _ h => by cases h) dX6_told_69
    · by_cases w2 : w = 2
      · refine lv_tableIn (off := 69) (tgt := 70) hx hb dX6_told_1 (by rw [w2]; decide) (by rw [w2]; decide) (by rw [w2]; rfl) (by decide) ?_
        refine lv_aload_n hx hb dX6_told_70 rfl (lv_at hl 0 rfl) ?_
        refine va_get (D := (dC, dI)) (ci := 6) (v := .int y.2.2.2.2.2.2.2.2.2.2.1) (C := RX6) (T := TX6) (N := 24) hx hb hts iX6_told_X6 hown hK hP 0 rfl rfl 17 (by decide) (hts (.fieldLink RX6 106 "JoinBenchModel" "mostMemory" "I") (by decide +kernel)) (fun _ h9 => h9) rfl dX6_told_71 ?_
        exact W.iret (v := y.2.2.2.2.2.2.2.2.2.2.1) hx hb hr (fun t ht hW => ⟨_, rfl, by unfold jm_toldA; rw [if_neg w0, if_neg w1, if_pos w2], ht⟩) (fun _ h => by cases h) dX6_told_74
      · by_cases w3 : w = 3
        · refine lv_tableIn (off := 74) (tgt := 75) hx hb dX6_told_1 (by rw [w3]; decide) (by rw [w3]; decide) (by rw [w3]; rfl) (by decide) ?_
          refine lv_aload_n hx hb dX6_told_75 rfl (lv_at hl 0 rfl) ?_
          refine va_get (D := (dC, dI)) (ci := 6) (v := .int y.2.2.2.2.2.2.2.2.2.2.2.2.1) (C := RX6) (T := TX6) (N := 24) hx hb hts iX6_told_X6 hown hK hP 0 rfl rfl 19 (by decide) (hts (.fieldLink RX6 118 "JoinBenchModel" "mostDisk" "I") (by decide +kernel)) (fun _ h9 => h9) rfl dX6_told_76 ?_
          exact W.iret (v := y.2.2.2.2.2.2.2.2.2.2.2.2.1) hx hb hr (fun t ht hW => ⟨_, rfl, by unfold jm_toldA; rw [if_neg w0, if_neg w1, if_neg w2, if_pos w3], ht⟩) (fun _ h => by cases h) dX6_told_79
        · by_cases w4 : w = 4
          · refine lv_tableIn (off := 79) (tgt := 80) hx hb dX6_told_1 (by rw [w4]; decide) (by rw [w4]; decide) (by rw [w4]; rfl) (by decide) ?_
            refine lv_aload_n hx hb dX6_told_80 rfl (lv_at hl 0 rfl) ?_
            refine va_get (D := (dC, dI)) (ci := 6) (v := .int y.2.2.2.2.2.2.2.2.2.2.2.2.2.1) (C := RX6) (T := TX6) (N := 24) hx hb hts iX6_told_X6 hown hK hP 0 rfl rfl 20 (by decide) (hts (.fieldLink RX6 53 "JoinBenchModel" "level" "I") (by decide +kernel)) (fun _ h9 => h9) rfl dX6_told_81 ?_
            exact W.iret (v := y.2.2.2.2.2.2.2.2.2.2.2.2.2.1) hx hb hr (fun t ht hW => ⟨_, rfl, by unfold jm_toldA; rw [if_neg w0, if_neg w1, if_neg w2, if_neg w3, if_pos w4], ht⟩) (fun _ h => by cases h) dX6_told_84
          · by_cases w5 : w = 5
            · refine lv_tableIn (off := 84) (tgt := 85) hx hb dX6_told_1 (by rw [w5]; decide) (by rw [w5]; decide) (by rw [w5]; rfl) (by decide) ?_
              refine lv_aload_n hx hb dX6_told_85 rfl (lv_at hl 0 rfl) ?_
              refine va_get (D := (dC, dI)) (ci := 6) (v := .int y.2.2.2.2.2.2.2.2.2.2.2.2.2.2) (C := RX6) (T := TX6) (N := 24) hx hb hts iX6_told_X6 hown hK hP 0 rfl rfl 21 (by decide) (hts (.fieldLink RX6 100 "JoinBenchModel" "events" "I") (by decide +kernel)) (fun _ h9 => h9) rfl dX6_told_86 ?_
              exact W.iret (v := y.2.2.2.2.2.2.2.2.2.2.2.2.2.2) hx hb hr (fun t ht hW => ⟨_, rfl, by unfold jm_toldA; rw [if_neg w0, if_neg w1, if_neg w2, if_neg w3, if_neg w4, if_pos w5], ht⟩) (fun _ h => by cases h) dX6_told_89
            · by_cases w6 : w = 6
              · refine lv_tableIn (off := 89) (tgt := 90) hx hb dX6_told_1 (by rw [w6]; decide) (by rw [w6]; decide) (by rw [w6]; rfl) (by decide) ?_
                refine lv_aload_n hx hb dX6_told_90 rfl (lv_at hl 0 rfl) ?_
                refine va_get (D := (dC, dI)) (ci := 6) (v := .ref m6) (C := RX6) (T := TX6) (N := 24) hx hb hts iX6_told_X6 hown hK hP 0 rfl rfl 22 (by decide) (hts (.fieldLink RX6 56 "JoinBenchModel" "ofKind" "[I") (by decide +kernel)) (fun _ h9 => h9) rfl dX6_told_91 ?_
                refine lv_iload_n hx hb dX6_told_94 rfl (lv_at hl 1 rfl) ?_
                refine lv_bipush (v := 6) hx hb dX6_told_95 (by decide) ?_
                refine lv_isub hx hb dX6_told_97 ?_
                refine lv_topi (fun v_1 ev_1 => ?_)
                have hv_1 : v_1 = nI 0 := ev_1.trans (by rw [w6]; decide)
                clear ev_1; subst hv_1
                refine va_iald hx hb hK hP 12 0 rfl rfl (i := nI 0) (vp_in_nI (n := 0) (by decide) (by decide)) dX6_told_98 ?_
                refine lv_topi (fun v_2 ev_2 => ?_)
                have hv_2 : v_2 = (y.2.2.2.2.2.1 0) := ev_2.trans (congrArg _ (nI_clamp (by decide)))
                clear ev_2; subst hv_2
                exact W.iret (v := (y.2.2.2.2.2.1 0)) hx hb hr (fun t ht hW => ⟨_, rfl, by unfold jm_toldA; rw [if_neg w0, if_neg w1, if_neg w2, if_neg w3, if_neg w4, if_neg w5, if_pos w6], ht⟩) (fun _ h => by cases h) dX6_told_99
              · by_cases w7 : w = 7
                · refine lv_tableIn (off := 89) (tgt := 90) hx hb dX6_told_1 (by rw [w7]; decide) (by rw [w7]; decide) (by rw [w7]; rfl) (by decide) ?_
                  refine lv_aload_n hx hb dX6_told_90 rfl (lv_at hl 0 rfl) ?_
                  refine va_get (D := (dC, dI)) (ci := 6) (v := .ref m6) (C := RX6) (T := TX6) (N := 24) hx hb hts iX6_told_X6 hown hK hP 0 rfl rfl 22 (by decide) (hts (.fieldLink RX6 56 "JoinBenchModel" "ofKind" "[I") (by decide +kernel)) (fun _ h9 => h9) rfl dX6_told_91 ?_
                  refine lv_iload_n hx hb dX6_told_94 rfl (lv_at hl 1 rfl) ?_
                  refine lv_bipush (v := 6) hx hb dX6_told_95 (by decide) ?_
                  refine lv_isub hx hb dX6_told_97 ?_
                  refine lv_topi (fun v_3 ev_3 => ?_)
                  have hv_3 : v_3 = nI 1 := ev_3.trans (by rw [w7]; decide)
                  clear ev_3; subst hv_3
                  refine va_iald hx hb hK hP 12 0 rfl rfl (i := nI 1) (vp_in_nI (n := 1) (by decide) (by decide)) dX6_told_98 ?_
                  refine lv_topi (fun v_4 ev_4 => ?_)
                  have hv_4 : v_4 = (y.2.2.2.2.2.1 1) := ev_4.trans (congrArg _ (nI_clamp (by decide)))
                  clear ev_4; subst hv_4
                  exact W.iret (v := (y.2.2.2.2.2.1 1)) hx hb hr (fun t ht hW => ⟨_, rfl, by unfold jm_toldA; rw [if_neg w0, if_neg w1, if_neg w2, if_neg w3, if_neg w4, if_neg w5, if_neg w6, if_pos w7], ht⟩) (fun _ h => by cases h) dX6_told_99
                · by_cases w8 : w = 8
                  · refine lv_tableIn (off := 89) (tgt := 90) hx hb dX6_told_1 (by rw [w8]; decide) (by rw [w8]; decide) (by rw [w8]; rfl) (by decide) ?_
                    refine lv_aload_n hx hb dX6_told_90 rfl (lv_at hl 0 rfl) ?_
                    refine va_get (D := (dC, dI)) (ci := 6) (v := .ref m6) (C := RX6) (T := TX6) (N := 24) hx hb hts iX6_told_X6 hown hK hP 0 rfl rfl 22 (by decide) (hts (.fieldLink RX6 56 "JoinBenchModel" "ofKind" "[I") (by decide +kernel)) (fun _ h9 => h9) rfl dX6_told_91 ?_
                    refine lv_iload_n hx hb dX6_told_94 rfl (lv_at hl 1 rfl) ?_
                    refine lv_bipush (v := 6) hx hb dX6_told_95 (by decide) ?_
                    refine lv_isub hx hb dX6_told_97 ?_
                    refine lv_topi (fun v_5 ev_5 => ?_)
                    have hv_5 : v_5 = nI 2 := ev_5.trans (by rw [w8]; decide)
                    clear ev_5; subst hv_5
                    refine va_iald hx hb hK hP 12 0 rfl rfl (i := nI 2) (vp_in_nI (n := 2) (by decide) (by decide)) dX6_told_98 ?_
                    refine lv_topi (fun v_6 ev_6 => ?_)
                    have hv_6 : v_6 = (y.2.2.2.2.2.1 2) := ev_6.trans (congrArg _ (nI_clamp (by decide)))
                    clear ev_6; subst hv_6
                    exact W.iret (v := (y.2.2.2.2.2.1 2)) hx hb hr (fun t ht hW => ⟨_, rfl, by unfold jm_toldA; rw [if_neg w0, if_neg w1, if_neg w2, if_neg w3, if_neg w4, if_neg w5, if_neg w6, if_neg w7, if_pos w8], ht⟩) (fun _ h => by cases h) dX6_told_99
                  · by_cases w9 : w = 9
                    · refine lv_tableIn (off := 89) (tgt := 90) hx hb dX6_told_1 (by rw [w9]; decide) (by rw [w9]; decide) (by rw [w9]; rfl) (by decide) ?_
                      refine lv_aload_n hx hb dX6_told_90 rfl (lv_at hl 0 rfl) ?_
                      refine va_get (D := (dC, dI)) (ci := 6) (v := .ref m6) (C := RX6) (T := TX6) (N := 24) hx hb hts iX6_told_X6 hown hK hP 0 rfl rfl 22 (by decide) (hts (.fieldLink RX6 56 "JoinBenchModel" "ofKind" "[I") (by decide +kernel)) (fun _ h9 => h9) rfl dX6_told_91 ?_
                      refine lv_iload_n hx hb dX6_told_94 rfl (lv_at hl 1 rfl) ?_
                      refine lv_bipush (v := 6) hx hb dX6_told_95 (by decide) ?_
                      refine lv_isub hx hb dX6_told_97 ?_
                      refine lv_topi (fun v_7 ev_7 => ?_)
                      have hv_7 : v_7 = nI 3 := ev_7.trans (by rw [w9]; decide)
                      clear ev_7; subst hv_7
                      refine va_iald hx hb hK hP 12 0 rfl rfl (i := nI 3) (vp_in_nI (n := 3) (by decide) (by decide)) dX6_told_98 ?_
                      refine lv_topi (fun v_8 ev_8 => ?_)
                      have hv_8 : v_8 = (y.2.2.2.2.2.1 3) := ev_8.trans (congrArg _ (nI_clamp (by decide)))
                      clear ev_8; subst hv_8
                      exact W.iret (v := (y.2.2.2.2.2.1 3)) hx hb hr (fun t ht hW => ⟨_, rfl, by unfold jm_toldA; rw [if_neg w0, if_neg w1, if_neg w2, if_neg w3, if_neg w4, if_neg w5, if_neg w6, if_neg w7, if_neg w8, if_pos w9], ht⟩) (fun _ h => by cases h) dX6_told_99
                    · by_cases w10 : w = 10
                      · refine lv_tableIn (off := 99) (tgt := 100) hx hb dX6_told_1 (by rw [w10]; decide) (by rw [w10]; decide) (by rw [w10]; rfl) (by decide) ?_
                        refine lv_aload_n hx hb dX6_told_100 rfl (lv_at hl 0 rfl) ?_
                        refine va_get (D := (dC, dI)) (ci := 6) (v := .int y.2.2.2.2.2.2.2.1) (C := RX6) (T := TX6) (N := 24) hx hb hts iX6_told_X6 hown hK hP 0 rfl rfl 14 (by decide) (hts (.fieldLink RX6 93 "JoinBenchModel" "pairs" "I") (by decide +kernel)) (fun _ h9 => h9) rfl dX6_told_101 ?_
                        exact W.iret (v := y.2.2.2.2.2.2.2.1) hx hb hr (fun t ht hW => ⟨_, rfl, by unfold jm_toldA; rw [if_neg w0, if_neg w1, if_neg w2, if_neg w3, if_neg w4, if_neg w5, if_neg w6, if_neg w7, if_neg w8, if_neg w9, if_pos w10], ht⟩) (fun _ h => by cases h) dX6_told_104
                      · refine lv_tableOut (tgt := 105) hx hb dX6_told_1 (jb_sw11 w0 w1 w2 w3 w4 w5 w6 w7 w8 w9 w10) (by decide) ?_
                        refine lv_iconst (v := (-1)) hx hb dX6_told_105 (by decide) ?_
                        exact W.iret (v := (-1)) hx hb hr (fun t ht hW => ⟨_, rfl, by unfold jm_toldA; rw [if_neg w0, if_neg w1, if_neg w2, if_neg w3, if_neg w4, if_neg w5, if_neg w6, if_neg w7, if_neg w8, if_neg w9, if_neg w10], ht⟩) (fun _ h => by cases h) dX6_told_106
