/-! a table as rows come and go: the class JoinBench$Table (X4) -/
def jb_addA (n : Nat) (K : Nat → Int32) (x : Int32) : Nat → Int32 := if n < 500 then upd K n x else K
def jb_addN (n : Nat) : Nat := if n < 500 then n + 1 else n
def jb_addR (n : Nat) : Int32 := if n < 500 then nI (n + 1) else -2
/-- is so many there to drop? -/
def jb_dropN (n : Nat) (k : Int32) : Nat := if k < 0 ∨ nI n < k then n else n - k.toNatClampNeg
def jb_dropR (n : Nat) (k : Int32) : Int32 := if k < 0 ∨ nI n < k then -1 else nI (n - k.toNatClampNeg)
theorem iX4_add_X4 : ∀ w ∈ wsX40, w ∈ wsX4_add := by decide +kernel
set_option maxHeartbeats 1000000 in
set_option maxRecDepth 100000 in
/-- Table.add(key, value) -/
theorem c_add (l : Launch) (dC : Nat → ClassId) (dI : Nat → Nat → Nat) (cI : ClassId) (sz : Nat) (hT hK1 hV1 : Nat) (K V : Nat → Int32) (n : Nat) (x y : Int32) (hn : n ≤ 500) : Met l yX4_add wsX4_add ({ frames := 1, cells := 0, slots := 0, locals := 40 } : Room) (va_Pc [.ref hT, .int x, .int y] (jb_M dC dI cI sz [(hT, .inr (4, [.ref hK1, .ref hV1, .int (nI n)])), (hK1, .inl (cI, 500, .inl K)), (hV1, .inl (cI, 500, .inl V))])) (va_Qi (fun r (_ : Unit) => r = jb_addR n) (jb_B dC dI (va_A [(hT, .inr (4, [.ref hK1, .ref hV1, .int (nI n)])), (hK1, .inl (cI, 500, .inl K)), (hV1, .inl (cI, 500, .inl V))] sz) (fun _ => [(hT, .inr (4, [.ref hK1, .ref hV1, .int (nI (jb_addN n))])), (hK1, .inl (cI, 500, .inl (jb_addA n K x))), (hV1, .inl (cI, 500, .inl (jb_addA n V y)))])) (va_A [(hT, .inr (4, [.ref hK1, .ref hV1, .int (nI n)])), (hK1, .inl (cI, 500, .inl K)), (hV1, .inl (cI, 500, .inl V))] sz)) 0 0 (va_A [(hT, .inr (4, [.ref hK1, .ref hV1, .int (nI n)])), (hK1, .inl (cI, 500, .inl K)), (hV1, .inl (cI, 500, .inl V))] sz) := by
  refine Met.ofW (cc := cX4_add) (maxL := 3) (ret := (some .int)) (by decide) rfl ?_
  intro p e s m args below meth c s₁ B hml hv
  obtain ⟨rfl, hsz, hP, hK, hNw, hD0⟩ := hv
  have hx := B.exec
  have hb := B.bytes
  have hr := B.returns
  have hts := atoms_spec (ws := wsX4_add) B.pre
  have hown : s.vm.findClass RX4 = some m.cls := findClass_of_methodNamed B.named
  have hlocks := B.notSynchronized
  subst hsz
  have hD := hD0.self (sz := s.heap.size)
  generalize hAe : va_A [(hT, .inr (4, [.ref hK1, .ref hV1, .int (nI n)])), (hK1, .inl (cI, 500, .inl K)), (hV1, .inl (cI, 500, .inl V))] s.heap.size = A at hD ⊢
  have hA : ∀ q : Nat, s.heap.size ≤ q → A q := fun q h => by rw [← hAe]; exact Or.inr h
  have hS : va_S A s.heap s.heap [] := va_S.rf
  have hP : va_P (dC, dI) vwCl [(hT, .inr (4, [.ref hK1, .ref hV1, .int (nI n)])), (hK1, .inl (cI, 500, .inl K)), (hV1, .inl (cI, 500, .inl V))] s.heap := hP
  have hl := lv_entry ([.ref hT, .int x, .int y]) (n := 3) (Nat.le_of_ble_eq_true rfl)
  rw [lg_entry_eq]
  generalize (lg_sl ([.ref hT, .int x, .int y]) ++ List.replicate (3 - (lg_sl ([.ref hT, .int x, .int y])).length) Slot.unset).toArray = ls at hl ⊢
  have hl : lv_has ls 3 [(0, .ref hT), (1, .int x), (2, .int y)] := hl
  refine lv_aload_n hx hb dX4_add_0 rfl (lv_at hl 0 rfl) ?_
  refine va_get (D := (dC, dI)) (ci := 4) (v := .int (nI n)) (C := RX4) (T := TX4) (N := 3) hx hb hts iX4_add_X4 hown hK hP 0 rfl rfl 2 (by decide) (hts (.fieldLink RX4 18 "JoinBench$Table" "count" "I") (by decide +kernel)) (fun _ h9 => h9) rfl dX4_add_1 ?_
  refine lv_sipush (v := 500) hx hb dX4_add_4 (by decide) ?_
  refine lv_icmp_lt (tgt := 13) hx hb dX4_add_7 (by decide) (fun c_7 => ?_) (fun c_7 => ?_)
  · have hlt : n < 500 := (nI_ltI (by omega) (by decide)).mp c_7
    refine lv_aload_n hx hb dX4_add_13 rfl (lv_at hl 0 rfl) ?_
    refine va_get (D := (dC, dI)) (ci := 4) (v := .ref hK1) (C := RX4) (T := TX4) (N := 3) hx hb hts iX4_add_X4 hown hK hP 0 rfl rfl 0 (by decide) (hts (.fieldLink RX4 9 "JoinBench$Table" "keys" "[I") (by decide +kernel)) (fun _ h9 => h9) rfl dX4_add_14 ?_
    refine lv_aload_n hx hb dX4_add_17 rfl (lv_at hl 0 rfl) ?_
    refine va_get (D := (dC, dI)) (ci := 4) (v := .int (nI n)) (C := RX4) (T := TX4) (N := 3) hx hb hts iX4_add_X4 hown hK hP 0 rfl rfl 2 (by decide) (hts (.fieldLink RX4 18 "JoinBench$Table" "count" "I") (by decide +kernel)) (fun _ h9 => h9) rfl dX4_add_18 ?_
    refine lv_iload_n hx hb dX4_add_21 rfl (lv_at hl 1 rfl) ?_
    refine va_iast hx hb hK hP hD hS 1 0 rfl rfl (i := nI n) (x := x) (vp_in_nI hlt (by decide)) dX4_add_22 (fun H locs hP hD hS => ?_)
    rw [show (nI n : Int32).toNatClampNeg = n from nI_clamp (by omega)] at hP hD
    have hP : va_P (dC, dI) vwCl [(hT, .inr (4, [.ref hK1, .ref hV1, .int (nI n)])), (hK1, .inl (cI, 500, .inl (upd K n x))), (hV1, .inl (cI, 500, .inl V))] H := hP
    have hD : va_D A [(hT, .inr (4, [.ref hK1, .ref hV1, .int (nI n)])), (hK1, .inl (cI, 500, .inl (upd K n x))), (hV1, .inl (cI, 500, .inl V))] := hD
    refine lv_aload_n hx hb dX4_add_23 rfl (lv_at hl 0 rfl) ?_
    refine va_get (D := (dC, dI)) (ci := 4) (v := .ref hV1) (C := RX4) (T := TX4) (N := 3) hx hb hts iX4_add_X4 hown hK hP 0 rfl rfl 1 (by decide) (hts (.fieldLink RX4 15 "JoinBench$Table" "values" "[I") (by decide +kernel)) (fun _ h9 => h9) rfl dX4_add_24 ?_
    refine lv_aload_n hx hb dX4_add_27 rfl (lv_at hl 0 rfl) ?_
    refine va_get (D := (dC, dI)) (ci := 4) (v := .int (nI n)) (C := RX4) (T := TX4) (N := 3) hx hb hts iX4_add_X4 hown hK hP 0 rfl rfl 2 (by decide) (hts (.fieldLink RX4 18 "JoinBench$Table" "count" "I") (by decide +kernel)) (fun _ h9 => h9) rfl dX4_add_28 ?_
    refine lv_iload_n hx hb dX4_add_31 rfl (lv_at hl 2 rfl) ?_
    refine va_iast hx hb hK hP hD hS 2 0 rfl rfl (i := nI n) (x := y) (vp_in_nI hlt (by decide)) dX4_add_32 (fun H locs hP hD hS => ?_)
    rw [show (nI n : Int32).toNatClampNeg = n from nI_clamp (by omega)] at hP hD
    have hP : va_P (dC, dI) vwCl [(hT, .inr (4, [.ref hK1, .ref hV1, .int (nI n)])), (hK1, .inl (cI, 500, .inl (upd K n x))), (hV1, .inl (cI, 500, .inl (upd V n y)))] H := hP
    have hD : va_D A [(hT, .inr (4, [.ref hK1, .ref hV1, .int (nI n)])), (hK1, .inl (cI, 500, .inl (upd K n x))), (hV1, .inl (cI, 500, .inl (upd V n y)))] := hD
    refine lv_aload_n hx hb dX4_add_33 rfl (lv_at hl 0 rfl) ?_
    refine lv_dup hx hb dX4_add_34 rfl ?_
    refine va_get (D := (dC, dI)) (ci := 4) (v := .int (nI n)) (C := RX4) (T := TX4) (N := 3) hx hb hts iX4_add_X4 hown hK hP 0 rfl rfl 2 (by decide) (hts (.fieldLink RX4 18 "JoinBench$Table" "count" "I") (by decide +kernel)) (fun _ h9 => h9) rfl dX4_add_35 ?_
    refine lv_iconst (v := 1) hx hb dX4_add_38 (by decide) ?_
    refine lv_iadd hx hb dX4_add_39 ?_
    refine lv_topi (fun v_1 ev_1 => ?_)
    have hv_1 : v_1 = nI (n + 1) := ev_1.trans (nI_1 n)
    clear ev_1; subst hv_1
    refine va_put (D := (dC, dI)) (ci := 4) (v := .int (nI (n + 1))) (ty := .int) (C := RX4) (T := TX4) (N := 3) hx hb hts iX4_add_X4 tyX4 tyX4_ok nmX4 hown hK hP hD hS 0 rfl rfl 2 (by decide) (hts (.fieldLink RX4 18 "JoinBench$Table" "count" "I") (by decide +kernel)) (fun _ h9 => h9) rfl (by decide +kernel) rfl rfl (Nat.le_of_ble_eq_true rfl) dX4_add_40 (fun H locs hP hD hS => ?_)
    have hP : va_P (dC, dI) vwCl [(hT, .inr (4, [.ref hK1, .ref hV1, .int (nI (n + 1))])), (hK1, .inl (cI, 500, .inl (upd K n x))), (hV1, .inl (cI, 500, .inl (upd V n y)))] H := hP
    have hD : va_D A [(hT, .inr (4, [.ref hK1, .ref hV1, .int (nI (n + 1))])), (hK1, .inl (cI, 500, .inl (upd K n x))), (hV1, .inl (cI, 500, .inl (upd V n y)))] := hD
    refine lv_aload_n hx hb dX4_add_43 rfl (lv_at hl 0 rfl) ?_
    refine va_get (D := (dC, dI)) (ci := 4) (v := .int (nI (n + 1))) (C := RX4) (T := TX4) (N := 3) hx hb hts iX4_add_X4 hown hK hP 0 rfl rfl 2 (by decide) (hts (.fieldLink RX4 18 "JoinBench$Table" "count" "I") (by decide +kernel)) (fun _ h9 => h9) rfl dX4_add_44 ?_
    have hP9 : va_P (dC, dI) vwCl [(hT, .inr (4, [.ref hK1, .ref hV1, .int (nI (jb_addN n))])), (hK1, .inl (cI, 500, .inl (jb_addA n K x))), (hV1, .inl (cI, 500, .inl (jb_addA n V y)))] H := by rw [show jb_addA n K x = upd K n x from if_pos hlt, show jb_addA n V y = upd V n y from if_pos hlt, show jb_addN n = n + 1 from if_pos hlt]; exact hP.sub [0, 1, 2] rfl
    have hD9 : va_D A [(hT, .inr (4, [.ref hK1, .ref hV1, .int (nI (jb_addN n))])), (hK1, .inl (cI, 500, .inl (jb_addA n K x))), (hV1, .inl (cI, 500, .inl (jb_addA n V y)))] := by rw [show jb_addA n K x = upd K n x from if_pos hlt, show jb_addA n V y = upd V n y from if_pos hlt, show jb_addN n = n + 1 from if_pos hlt]; exact hD.sub [0, 1, 2] (by decide) rfl
    exact W.iret (v := nI (n + 1)) hx hb hr (fun t ht hW => ⟨⟨_, (), rfl, (if_pos hlt).symm, by rw [ht]; exact hP9, hD9⟩, hS.F ht⟩) hS.2.2 dX4_add_47
  · have hge : ¬ n < 500 := fun h => c_7 ((nI_ltI (by omega) (by decide)).mpr h)
    refine lv_bipush (v := (-2)) hx hb dX4_add_10 (by decide) ?_
    have hP9 : va_P (dC, dI) vwCl [(hT, .inr (4, [.ref hK1, .ref hV1, .int (nI (jb_addN n))])), (hK1, .inl (cI, 500, .inl (jb_addA n K x))), (hV1, .inl (cI, 500, .inl (jb_addA n V y)))] s.heap := by rw [show jb_addA n K x = K from if_neg hge, show jb_addA n V y = V from if_neg hge, show jb_addN n = n from if_neg hge]; exact hP.sub [0, 1, 2] rfl
    have hD9 : va_D A [(hT, .inr (4, [.ref hK1, .ref hV1, .int (nI (jb_addN n))])), (hK1, .inl (cI, 500, .inl (jb_addA n K x))), (hV1, .inl (cI, 500, .inl (jb_addA n V y)))] := by rw [show jb_addA n K x = K from if_neg hge, show jb_addA n V y = V from if_neg hge, show jb_addN n = n from if_neg hge]; exact hD.sub [0, 1, 2] (by decide) rfl
    exact W.iret (v := (-2)) hx hb hr (fun t ht hW => ⟨⟨_, (), rfl, (if_neg hge).symm, by rw [ht]; exact hP9, hD9⟩, hS.F ht⟩) hS.2.2 dX4_add_12
theorem iX4_drop_X4 : ∀ w ∈ wsX40, w ∈ wsX4_drop := by decide +kernel
set_option maxHeartbeats 1000000 in
set_option maxRecDepth 100000 in
/-- Table.drop(n) -/
theorem c_drop (l : Launch) (dC : Nat → ClassId) (dI : Nat → Nat → Nat) (cI : ClassId) (sz : Nat) (hT hK1 hV1 : Nat) (K V : Nat → Int32) (n : Nat) (x : Int32) (hn : n ≤ 500) : Met l yX4_drop wsX4_drop ({ frames := 1, cells := 0, slots := 0, locals := 40 } : Room) (va_Pc [.ref hT, .int x] (jb_M dC dI cI sz [(hT, .inr (4, [.ref hK1, .ref hV1, .int (nI n)])), (hK1, .inl (cI, 500, .inl K)), (hV1, .inl (cI, 500, .inl V))])) (va_Qi (fun r (_ : Unit) => r = jb_dropR n x) (jb_B dC dI (va_A [(hT, .inr (4, [.ref hK1, .ref hV1, .int (nI n)])), (hK1, .inl (cI, 500, .inl K)), (hV1, .inl (cI, 500, .inl V))] sz) (fun _ => [(hT, .inr (4, [.ref hK1, .ref hV1, .int (nI (jb_dropN n x))])), (hK1, .inl (cI, 500, .inl K)), (hV1, .inl (cI, 500, .inl V))])) (va_A [(hT, .inr (4, [.ref hK1, .ref hV1, .int (nI n)])), (hK1, .inl (cI, 500, .inl K)), (hV1, .inl (cI, 500, .inl V))] sz)) 0 0 (va_A [(hT, .inr (4, [.ref hK1, .ref hV1, .int (nI n)])), (hK1, .inl (cI, 500, .inl K)), (hV1, .inl (cI, 500, .inl V))] sz) := by
  refine Met.ofW (cc := cX4_drop) (maxL := 2) (ret := (some .int)) (by decide) rfl ?_
  intro p e s m args below meth c s₁ B hml hv
  obtain ⟨rfl, hsz, hP, hK, hNw, hD0⟩ := hv
  have hx := B.exec
  have hb := B.bytes
  have hr := B.returns
  have hts := atoms_spec (ws := wsX4_drop) B.pre
  have hown : s.vm.findClass RX4 = some m.cls := findClass_of_methodNamed B.named
  have hlocks := B.notSynchronized
  subst hsz
  have hD := hD0.self (sz := s.heap.size)
  generalize hAe : va_A [(hT, .inr (4, [.ref hK1, .ref hV1, .int (nI n)])), (hK1, .inl (cI, 500, .inl K)), (hV1, .inl (cI, 500, .inl V))] s.heap.size = A at hD ⊢
  have hA : ∀ q : Nat, s.heap.size ≤ q → A q := fun q h => by rw [← hAe]; exact Or.inr h
  have hS : va_S A s.heap s.heap [] := va_S.rf
  have hP : va_P (dC, dI) vwCl [(hT, .inr (4, [.ref hK1, .ref hV1, .int (nI n)])), (hK1, .inl (cI, 500, .inl K)), (hV1, .inl (cI, 500, .inl V))] s.heap := hP
  have hl := lv_entry ([.ref hT, .int x]) (n := 2) (Nat.le_of_ble_eq_true rfl)
  rw [lg_entry_eq]
  generalize (lg_sl ([.ref hT, .int x]) ++ List.replicate (2 - (lg_sl ([.ref hT, .int x])).length) Slot.unset).toArray = ls at hl ⊢
  have hl : lv_has ls 2 [(0, .ref hT), (1, .int x)] := hl
  refine lv_iload_n hx hb dX4_drop_0 rfl (lv_at hl 1 rfl) ?_
  refine lv_if_lt (tgt := 12) hx hb dX4_drop_1 (by decide) (fun c_1 => ?_) (fun c_1 => ?_)
  · have hbad : x < 0 ∨ nI n < x := Or.inl c_1
    refine lv_iconst (v := (-1)) hx hb dX4_drop_12 (by decide) ?_
    have hP9 : va_P (dC, dI) vwCl [(hT, .inr (4, [.ref hK1, .ref hV1, .int (nI (jb_dropN n x))])), (hK1, .inl (cI, 500, .inl K)), (hV1, .inl (cI, 500, .inl V))] s.heap := by rw [show jb_dropN n x = n from if_pos hbad]; exact hP.sub [0, 1, 2] rfl
    have hD9 : va_D A [(hT, .inr (4, [.ref hK1, .ref hV1, .int (nI (jb_dropN n x))])), (hK1, .inl (cI, 500, .inl K)), (hV1, .inl (cI, 500, .inl V))] := by rw [show jb_dropN n x = n from if_pos hbad]; exact hD.sub [0, 1, 2] (by decide) rfl
    exact W.iret (v := (-1)) hx hb hr (fun t ht hW => ⟨⟨_, (), rfl, (if_pos hbad).symm, by rw [ht]; exact hP9, hD9⟩, hS.F ht⟩) hS.2.2 dX4_drop_13
  · refine lv_iload_n hx hb dX4_drop_4 rfl (lv_at hl 1 rfl) ?_
    refine lv_aload_n hx hb dX4_drop_5 rfl (lv_at hl 0 rfl) ?_
    refine va_get (D := (dC, dI)) (ci := 4) (v := .int (nI n)) (C := RX4) (T := TX4) (N := 3) hx hb hts iX4_drop_X4 hown hK hP 0 rfl rfl 2 (by decide) (hts (.fieldLink RX4 18 "JoinBench$Table" "count" "I") (by decide +kernel)) (fun _ h9 => h9) rfl dX4_drop_6 ?_
    refine lv_icmp_le (tgt := 14) hx hb dX4_drop_9 (by decide) (fun c_9 => ?_) (fun c_9 => ?_)
    · have hgood : ¬ (x < 0 ∨ nI n < x) := fun h => h.elim c_1 (fun h => Int32.not_le.mpr h c_9)
      obtain ⟨k, hk, ek⟩ := nI_of2 (x := x) (M := nI n) (n := n) (nI_toInt (by omega)) c_1 c_9
      refine lv_aload_n hx hb dX4_drop_14 rfl (lv_at hl 0 rfl) ?_
      refine lv_dup hx hb dX4_drop_15 rfl ?_
      refine va_get (D := (dC, dI)) (ci := 4) (v := .int (nI n)) (C := RX4) (T := TX4) (N := 3) hx hb hts iX4_drop_X4 hown hK hP 0 rfl rfl 2 (by decide) (hts (.fieldLink RX4 18 "JoinBench$Table" "count" "I") (by decide +kernel)) (fun _ h9 => h9) rfl dX4_drop_16 ?_
      refine lv_iload_n hx hb dX4_drop_19 rfl (lv_at hl 1 rfl) ?_
      refine lv_isub hx hb dX4_drop_20 ?_
      refine lv_topi (fun v_1 ev_1 => ?_)
      have hv_1 : v_1 = nI (n - x.toNatClampNeg) := ev_1.trans (by rw [ek, nI_clamp (by omega)]; exact pk_sub hk)
      clear ev_1; subst hv_1
      refine va_put (D := (dC, dI)) (ci := 4) (v := .int (nI (n - x.toNatClampNeg))) (ty := .int) (C := RX4) (T := TX4) (N := 3) hx hb hts iX4_drop_X4 tyX4 tyX4_ok nmX4 hown hK hP hD hS 0 rfl rfl 2 (by decide) (hts (.fieldLink RX4 18 "JoinBench$Table" "count" "I") (by decide +kernel)) (fun _ h9 => h9) rfl (by decide +kernel) rfl rfl (Nat.le_of_ble_eq_true rfl) dX4_drop_21 (fun H locs hP hD hS => ?_)
      have hP : va_P (dC, dI) vwCl [(hT, .inr (4, [.ref hK1, .ref hV1, .int (nI (n - x.toNatClampNeg))])), (hK1, .inl (cI, 500, .inl K)), (hV1, .inl (cI, 500, .inl V))] H := hP
      have hD : va_D A [(hT, .inr (4, [.ref hK1, .ref hV1, .int (nI (n - x.toNatClampNeg))])), (hK1, .inl (cI, 500, .inl K)), (hV1, .inl (cI, 500, .inl V))] := hD
      refine lv_aload_n hx hb dX4_drop_24 rfl (lv_at hl 0 rfl) ?_
      refine va_get (D := (dC, dI)) (ci := 4) (v := .int (nI (n - x.toNatClampNeg))) (C := RX4) (T := TX4) (N := 3) hx hb hts iX4_drop_X4 hown hK hP 0 rfl rfl 2 (by decide) (hts (.fieldLink RX4 18 "JoinBench$Table" "count" "I") (by decide +kernel)) (fun _ h9 => h9) rfl dX4_drop_25 ?_
      have hP9 : va_P (dC, dI) vwCl [(hT, .inr (4, [.ref hK1, .ref hV1, .int (nI (jb_dropN n x))])), (hK1, .inl (cI, 500, .inl K)), (hV1, .inl (cI, 500, .inl V))] H := by rw [show jb_dropN n x = n - x.toNatClampNeg from if_neg hgood]; exact hP.sub [0, 1, 2] rfl
      have hD9 : va_D A [(hT, .inr (4, [.ref hK1, .ref hV1, .int (nI (jb_dropN n x))])), (hK1, .inl (cI, 500, .inl K)), (hV1, .inl (cI, 500, .inl V))] := by rw [show jb_dropN n x = n - x.toNatClampNeg from if_neg hgood]; exact hD.sub [0, 1, 2] (by decide) rfl
      exact W.iret (v := nI (n - x.toNatClampNeg)) hx hb hr (fun t ht hW => ⟨⟨_, (), rfl, (if_neg hgood).symm, by rw [ht]; exact hP9, hD9⟩, hS.F ht⟩) hS.2.2 dX4_drop_28
    · have hbad : x < 0 ∨ nI n < x := Or.inr (Int32.not_le.mp c_9)
      refine lv_iconst (v := (-1)) hx hb dX4_drop_12 (by decide) ?_
      have hP9 : va_P (dC, dI) vwCl [(hT, .inr (4, [.ref hK1, .ref hV1, .int (nI (jb_dropN n x))])), (hK1, .inl (cI, 500, .inl K)), (hV1, .inl (cI, 500, .inl V))] s.heap := by rw [show jb_dropN n x = n from if_pos hbad]; exact hP.sub [0, 1, 2] rfl
      have hD9 : va_D A [(hT, .inr (4, [.ref hK1, .ref hV1, .int (nI (jb_dropN n x))])), (hK1, .inl (cI, 500, .inl K)), (hV1, .inl (cI, 500, .inl V))] := by rw [show jb_dropN n x = n from if_pos hbad]; exact hD.sub [0, 1, 2] (by decide) rfl
      exact W.iret (v := (-1)) hx hb hr (fun t ht hW => ⟨⟨_, (), rfl, (if_pos hbad).symm, by rw [ht]; exact hP9, hD9⟩, hS.F ht⟩) hS.2.2 dX4_drop_13
theorem iX4_init_X4 : ∀ w ∈ wsX40, w ∈ wsX4_init := by decide +kernel
set_option maxHeartbeats 1000000 in
set_option maxRecDepth 100000 in
/-- Table() -/
theorem c_Table_init (l : Launch) (dC : Nat → ClassId) (dI : Nat → Nat → Nat) (cI : ClassId) (sz : Nat) (hT : Nat) : Met l yX4_init wsX4_init ({ frames := 1, cells := 2, slots := 1000, locals := 40 } : Room) (va_Pc [.ref hT] (jb_M dC dI cI sz [(hT, .inr (4, [.null, .null, .int 0]))])) (va_Qv (fun (_ : Nat × Nat) => True) (jb_B dC dI (va_A [(hT, .inr (4, [.null, .null, .int 0]))] sz) (fun u => [(hT, .inr (4, [.ref u.1, .ref u.2, .int 0])), (u.1, .inl (cI, 500, .inl (fun _ => 0))), (u.2, .inl (cI, 500, .inl (fun _ => 0)))])) (va_A [(hT, .inr (4, [.null, .null, .int 0]))] sz)) 2 1000 (va_A [(hT, .inr (4, [.null, .null, .int 0]))] sz) := by
  refine Met.ofW (cc := cX4_init) (maxL := 1) (ret := none) (by decide) rfl ?_
  intro p e s m args below meth c s₁ B hml hv
  obtain ⟨rfl, hsz, hP, hK, hNw, hD0⟩ := hv
  have hx := B.exec
  have hb := B.bytes
  have hr := B.returns
  have hts := atoms_spec (ws := wsX4_init) B.pre
  have hown : s.vm.findClass RX4 = some m.cls := findClass_of_methodNamed B.named
  have hlocks := B.notSynchronized
  have hin : meth.name = "<init>" := (name_of_methodNamed B.named B.method).1
  subst hsz
  have hD := hD0.self (sz := s.heap.size)
  generalize hAe : va_A [(hT, .inr (4, [.null, .null, .int 0]))] s.heap.size = A at hD ⊢
  have hA : ∀ q : Nat, s.heap.size ≤ q → A q := fun q h => by rw [← hAe]; exact Or.inr h
  have hS : va_S A s.heap s.heap [] := va_S.rf
  have hP : va_P (dC, dI) vwCl [(hT, .inr (4, [.null, .null, .int 0]))] s.heap := hP
  have hl := lv_entry ([.ref hT]) (n := 1) (Nat.le_of_ble_eq_true rfl)
  rw [lg_entry_eq]
  generalize (lg_sl ([.ref hT]) ++ List.replicate (1 - (lg_sl ([.ref hT])).length) Slot.unset).toArray = ls at hl ⊢
  have hl : lv_has ls 1 [(0, .ref hT)] := hl
  refine lv_aload_n hx hb dX4_init_0 rfl (lv_at hl 0 rfl) ?_
  refine W.objInit hx hb hown (hts (.methodLink RX4 3 objectInit) (by decide +kernel)) (hts (.instanceMethod objectInit) (by decide +kernel)) (hts (.code objectInit ⟨#[0xb1]⟩ 1 none) (by decide +kernel)) rfl (by rw [hml]; exact hl.1) rfl dX4_init_1 (Nat.le_of_ble_eq_true rfl) (Nat.le_of_ble_eq_true rfl) ?_
  refine W.eq (g2 := F0 m 4 ls []) rfl ?_
  refine lv_aload_n hx hb dX4_init_4 rfl (lv_at hl 0 rfl) ?_
  refine lv_sipush (v := 500) hx hb dX4_init_5 (by decide) ?_
  refine va_newa (atype := .int) hx hb (hts (.arrayClass .int) (by decide +kernel)) (ty := .int) rfl hK hP hD hS hA (N' := 500) (a0 := (500, .inl (fun _ => 0))) (jb_arr0 500) (by decide +kernel) (by decide +kernel) (by decide +kernel) (by decide +kernel) (by decide +kernel) dX4_init_8 (fun q_1 cJ H hK2 hP hD hS => ?_)
  have hcj : cJ = cI := jb_cI hK2 hK
  clear hK2; subst cJ
  have hP : va_P (dC, dI) vwCl [(hT, .inr (4, [.null, .null, .int 0])), (q_1, .inl (cI, 500, .inl (fun _ => 0)))] H := hP
  have hD : va_D A [(hT, .inr (4, [.null, .null, .int 0])), (q_1, .inl (cI, 500, .inl (fun _ => 0)))] := hD
  refine W.widen (k := 1) (n := 500) (by decide +kernel) (by decide +kernel) ?_
  refine va_putF (D := (dC, dI)) (ci := 4) (v := .ref q_1) (ty := (.array .int)) (C := RX4) (T := TX4) (N := 3) hx hb hts iX4_init_X4 tyX4 tyX4_ok nmX4 hown hK hP hD hS 0 rfl rfl 0 (by decide) (hts (.fieldLink RX4 9 "JoinBench$Table" "keys" "[I") (by decide +kernel)) (fun _ h9 => h9) rfl hin rfl (by decide +kernel) rfl rfl (Nat.le_of_ble_eq_true rfl) dX4_init_10 (fun H locs hP hD hS => ?_)
  have hP : va_P (dC, dI) vwCl [(hT, .inr (4, [.ref q_1, .null, .int 0])), (q_1, .inl (cI, 500, .inl (fun _ => 0)))] H := hP
  have hD : va_D A [(hT, .inr (4, [.ref q_1, .null, .int 0])), (q_1, .inl (cI, 500, .inl (fun _ => 0)))] := hD
  refine lv_aload_n hx hb dX4_init_13 rfl (lv_at hl 0 rfl) ?_
  refine lv_sipush (v := 500) hx hb dX4_init_14 (by decide) ?_
  refine va_newa (atype := .int) hx hb (hts (.arrayClass .int) (by decide +kernel)) (ty := .int) rfl hK hP hD hS hA (N' := 500) (a0 := (500, .inl (fun _ => 0))) (jb_arr0 500) (by decide +kernel) (by decide +kernel) (by decide +kernel) (by decide +kernel) (by decide +kernel) dX4_init_17 (fun q_2 cJ H hK2 hP hD hS => ?_)
  have hcj : cJ = cI := jb_cI hK2 hK
  clear hK2; subst cJ
  have hP : va_P (dC, dI) vwCl [(hT, .inr (4, [.ref q_1, .null, .int 0])), (q_1, .inl (cI, 500, .inl (fun _ => 0))), (q_2, .inl (cI, 500, .inl (fun _ => 0)))] H := hP
  have hD : va_D A [(hT, .inr (4, [.ref q_1, .null, .int 0])), (q_1, .inl (cI, 500, .inl (fun _ => 0))), (q_2, .inl (cI, 500, .inl (fun _ => 0)))] := hD
  refine W.widen (k := 2) (n := 1000) (by decide +kernel) (by decide +kernel) ?_
  refine va_putF (D := (dC, dI)) (ci := 4) (v := .ref q_2) (ty := (.array .int)) (C := RX4) (T := TX4) (N := 3) hx hb hts iX4_init_X4 tyX4 tyX4_ok nmX4 hown hK hP hD hS 0 rfl rfl 1 (by decide) (hts (.fieldLink RX4 15 "JoinBench$Table" "values" "[I") (by decide +kernel)) (fun _ h9 => h9) rfl hin rfl (by decide +kernel) rfl rfl (Nat.le_of_ble_eq_true rfl) dX4_init_19 (fun H locs hP hD hS => ?_)
  have hP : va_P (dC, dI) vwCl [(hT, .inr (4, [.ref q_1, .ref q_2, .int 0])), (q_1, .inl (cI, 500, .inl (fun _ => 0))), (q_2, .inl (cI, 500, .inl (fun _ => 0)))] H := hP
  have hD : va_D A [(hT, .inr (4, [.ref q_1, .ref q_2, .int 0])), (q_1, .inl (cI, 500, .inl (fun _ => 0))), (q_2, .inl (cI, 500, .inl (fun _ => 0)))] := hD
  refine lv_aload_n hx hb dX4_init_22 rfl (lv_at hl 0 rfl) ?_
  refine lv_iconst (v := 0) hx hb dX4_init_23 (by decide) ?_
  refine va_put (D := (dC, dI)) (ci := 4) (v := .int 0) (ty := .int) (C := RX4) (T := TX4) (N := 3) hx hb hts iX4_init_X4 tyX4 tyX4_ok nmX4 hown hK hP hD hS 0 rfl rfl 2 (by decide) (hts (.fieldLink RX4 18 "JoinBench$Table" "count" "I") (by decide +kernel)) (fun _ h9 => h9) rfl (by decide +kernel) rfl rfl (Nat.le_of_ble_eq_true rfl) dX4_init_24 (fun H locs hP hD hS => ?_)
  have hP : va_P (dC, dI) vwCl [(hT, .inr (4, [.ref q_1, .ref q_2, .int 0])), (q_1, .inl (cI, 500, .inl (fun _ => 0))), (q_2, .inl (cI, 500, .inl (fun _ => 0)))] H := hP
  have hD : va_D A [(hT, .inr (4, [.ref q_1, .ref q_2, .int 0])), (q_1, .inl (cI, 500, .inl (fun _ => 0))), (q_2, .inl (cI, 500, .inl (fun _ => 0)))] := hD
  have hP9 : va_P (dC, dI) vwCl [(hT, .inr (4, [.ref q_1, .ref q_2, .int 0])), (q_1, .inl (cI, 500, .inl (fun _ => 0))), (q_2, .inl (cI, 500, .inl (fun _ => 0)))] H := hP.sub [0, 1, 2] rfl
  have hD9 : va_D A [(hT, .inr (4, [.ref q_1, .ref q_2, .int 0])), (q_1, .inl (cI, 500, .inl (fun _ => 0))), (q_2, .inl (cI, 500, .inl (fun _ => 0)))] := hD.sub [0, 1, 2] (by decide) rfl
  exact W.vret hx hb hr (fun t ht hW => ⟨⟨(q_1, q_2), rfl, trivial, by rw [ht]; exact hP9, hD9⟩, hS.F ht⟩) hS.2.2 dX4_init_27
