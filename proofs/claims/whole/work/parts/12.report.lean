/-! what the latest join came to: the class JoinBench$Report (X1), and Arrays.fill -/
def jb_fl (F : Nat → Int32) (v : Int32) (i : Nat) : Nat → Int32 := fun j => if j < i then v else F j
theorem jb_fl_0 (F : Nat → Int32) (v : Int32) : jb_fl F v 0 = F := by funext j; simp [jb_fl]
theorem jb_fl_s (F : Nat → Int32) (v : Int32) (i : Nat) : upd (jb_fl F v i) i v = jb_fl F v (i + 1) := by
  funext j
  simp only [jb_fl, upd]
  by_cases h : j = i
  · subst h; simp
  · rw [if_neg h]
    by_cases h2 : j < i
    · rw [if_pos h2, if_pos (by omega)]
    · rw [if_neg h2, if_neg (by omega)]
def jb_evF (F : Nat → Int32) (kd : Nat) (lv rd : Int32) : Nat → Int32 :=
  let F1 := upd F 5 (F 5 + 1)
  let F2 := upd F1 (6 + kd) (F1 (6 + kd) + 1)
  let F3 := upd F2 0 (F2 0 + rd)
  upd F3 4 (if F3 4 < lv then lv else F3 4)
def jb_evE (E : Nat → Int32) (ev : Nat) (kd lv x y rd : Int32) : Nat → Int32 := if ev < 300 then upd (upd (upd (upd (upd E (ev * 5) kd) (ev * 5 + 1) lv) (ev * 5 + 2) x) (ev * 5 + 3) y) (ev * 5 + 4) rd else E
def jb_adP (P : Nat → Int32) (np : Nat) (x y : Int32) : Nat → Int32 := if np < 4000 then upd P np (x <<< ((9 : Int32) &&& 31) ||| y) else P
def jb_pof (x : Int32) : Int32 := if 4000 < x then -2 else x
def jb_has (F : Nat → Int32) (i : Int32) : Int32 := if 0 ≤ i ∧ i < jb_pof (F 10) then 1 else 0
def jb_lrow (F P : Nat → Int32) (i : Int32) : Int32 := if 0 ≤ i ∧ i < jb_pof (F 10) then P i.toNatClampNeg >>> ((9 : Int32) &&& 31) else -1
def jb_rrow (F P : Nat → Int32) (i : Int32) : Int32 := if 0 ≤ i ∧ i < jb_pof (F 10) then P i.toNatClampNeg &&& 511 else -1
def jb_fig (F : Nat → Int32) (w : Int32) : Int32 := if w < 0 ∨ 11 ≤ w then -1 else F w.toNatClampNeg
def jb_evt (F E : Nat → Int32) (i w : Int32) : Int32 := if i < 0 ∨ (if 300 < F 5 then 300 else F 5) ≤ i ∨ w < 0 ∨ 5 ≤ w then -1 else E (i.toNatClampNeg * 5 + w.toNatClampNeg)
theorem jb_pof_in {x i : Int32} (h0 : 0 ≤ i) (h : i < jb_pof x) : vp_in i 4000 := by
  have h1 : jb_pof x ≤ 4000 := by
    unfold jb_pof
    split
    · decide
    · rename_i h2; exact Int32.not_lt.mp h2
  rw [vp_in_iff]
  have a1 : (0 : Int32).toInt ≤ i.toInt := Int32.le_iff_toInt_le.mp h0
  have a2 : i.toInt < (jb_pof x).toInt := Int32.lt_iff_toInt_lt.mp h
  have a3 : (jb_pof x).toInt ≤ (4000 : Int32).toInt := Int32.le_iff_toInt_le.mp h1
  have e1 : (0 : Int32).toInt = 0 := rfl
  have e2 : (4000 : Int32).toInt = 4000 := rfl
  rw [e1] at a1
  rw [e2] at a3
  constructor <;> omega
theorem jb_in_of {x : Int32} {n : Nat} {N : Int32} (hN : N.toInt = n) (h0 : ¬ x < 0) (h : x < N) : vp_in x n := by
  rw [vp_in_iff]
  have a1 := Int32.le_iff_toInt_le.mp (Int32.not_lt.mp h0)
  have a2 := Int32.lt_iff_toInt_lt.mp h
  have e1 : (0 : Int32).toInt = 0 := rfl
  rw [e1] at a1
  rw [hN] at a2
  exact ⟨a1, a2⟩
set_option maxHeartbeats 1000000 in
set_option maxRecDepth 100000 in
/-- Arrays.fill(int[], int) -/
theorem c_fill (l : Launch) (dC : Nat → ClassId) (dI : Nat → Nat → Nat) (cI : ClassId) (sz : Nat) (hF n : Nat) (F : Nat → Int32) (v : Int32) (hn : n < 1000000) : Met l yJ7_fill_53178 wsJ7_fill_53178 ({ frames := 1, cells := 0, slots := 0, locals := 40 } : Room) (va_Pc [.ref hF, .int v] (jb_M dC dI cI sz [(hF, .inl (cI, n, .inl F))])) (va_Qv (fun (_ : Unit) => True) (jb_B dC dI (va_A [(hF, .inl (cI, n, .inl F))] sz) (fun _ => [(hF, .inl (cI, n, .inl (jb_fl F v n)))])) (va_A [(hF, .inl (cI, n, .inl F))] sz)) 0 0 (va_A [(hF, .inl (cI, n, .inl F))] sz) := by
  refine Met.ofW (cc := cJ7_fill_53178) (maxL := 4) (ret := none) (by decide) rfl ?_
  intro p e s m args below meth c s₁ B hml hv
  obtain ⟨rfl, hsz, hP, hK, hNw, hD0⟩ := hv
  have hx := B.exec
  have hb := B.bytes
  have hr := B.returns
  have hts := atoms_spec (ws := wsJ7_fill_53178) B.pre
  have hown : s.vm.findClass RJ7 = some m.cls := findClass_of_methodNamed B.named
  have hlocks := B.notSynchronized
  subst hsz
  have hD := hD0.self (sz := s.heap.size)
  generalize hAe : va_A [(hF, .inl (cI, n, .inl F))] s.heap.size = A at hD ⊢
  have hA : ∀ q : Nat, s.heap.size ≤ q → A q := fun q h => by rw [← hAe]; exact Or.inr h
  have hS : va_S A s.heap s.heap [] := va_S.rf
  have hP : va_P (dC, dI) vwCl [(hF, .inl (cI, n, .inl F))] s.heap := hP
  have hl := lv_entry ([.ref hF, .int v]) (n := 4) (Nat.le_of_ble_eq_true rfl)
  rw [lg_entry_eq]
  generalize (lg_sl ([.ref hF, .int v]) ++ List.replicate (4 - (lg_sl ([.ref hF, .int v])).length) Slot.unset).toArray = ls at hl ⊢
  have hl : lv_has ls 4 [(0, .ref hF), (1, .int v)] := hl
  refine lv_iconst (v := 0) hx hb dJ7_fill_53178_0 (by decide) ?_
  refine lv_istore_n (lv' := [(2, .int 0), (0, .ref hF), (1, .int v)]) hx hb dJ7_fill_53178_1 rfl hl (by decide) rfl (fun ls hl => ?_)
  refine lv_aload_n hx hb dJ7_fill_53178_2 rfl (lv_at hl 1 rfl) ?_
  refine va_alen hx hb hK hP 0 0 rfl rfl (v := nI n) rfl dJ7_fill_53178_3 ?_
  refine lv_istore_n (lv' := [(3, .int (nI n)), (2, .int 0), (0, .ref hF), (1, .int v)]) hx hb dJ7_fill_53178_4 rfl hl (by decide) rfl (fun ls hl => ?_)
  have hloop : ∀ (k : Nat) (i : Nat), n - i < k → i ≤ n → ∀ (H : Heap) (locs : List Loc), va_P (dC, dI) vwCl [(hF, .inl (cI, n, .inl (jb_fl F v i)))] H → va_D A [(hF, .inl (cI, n, .inl (jb_fl F v i)))] → va_S A s.heap H locs → ∀ ls : Array Slot, lv_has ls 4 [(2, .int (nI i)), (0, .ref hF), (1, .int v), (3, .int (nI n))] → W p l e ({ frames := 1, cells := 0, slots := 0, locals := 40 } : Room) s m ([.ref hF, .int v] : List Value).toArray below meth c H locs 0 0 (MQ below (va_Qv (fun (_ : Unit) => True) (jb_B dC dI A (fun _ => [(hF, .inl (cI, n, .inl (jb_fl F v n)))])) A) ([.ref hF, .int v] : List Value).toArray s 0 0 (A)) (F0 m 5 ls []) := by
    intro k
    induction k with
    | zero => intro i hk; exact absurd hk (Nat.not_lt_zero _)
    | succ k ih =>
      intro i hk hi H locs hP hD hS ls hl
      refine lv_iload_n hx hb dJ7_fill_53178_5 rfl (lv_at hl 0 rfl) ?_
      refine lv_iload_n hx hb dJ7_fill_53178_6 rfl (lv_at hl 3 rfl) ?_
      refine lv_icmp_ge (tgt := 20) hx hb dJ7_fill_53178_7 (by decide) (fun c_7 => ?_) (fun c_7 => ?_)
      · have hin : i = n := by have := (nI_leI (a := n) (b := i) (by omega) (by omega)).mp c_7; omega
        rw [hin] at hP hD
        have hP9 : va_P (dC, dI) vwCl [(hF, .inl (cI, n, .inl (jb_fl F v n)))] H := hP.sub [0] rfl
        have hD9 : va_D A [(hF, .inl (cI, n, .inl (jb_fl F v n)))] := hD.sub [0] (by decide) rfl
        exact W.vret hx hb hr (fun t ht hW => ⟨⟨(), rfl, trivial, by rw [ht]; exact hP9, hD9⟩, hS.F ht⟩) hS.2.2 dJ7_fill_53178_20
      · have hlt : i < n := (jb_nle (by omega) (by omega)).mp c_7
        refine lv_aload_n hx hb dJ7_fill_53178_10 rfl (lv_at hl 1 rfl) ?_
        refine lv_iload_n hx hb dJ7_fill_53178_11 rfl (lv_at hl 0 rfl) ?_
        refine lv_iload_n hx hb dJ7_fill_53178_12 rfl (lv_at hl 2 rfl) ?_
        refine va_iast hx hb hK hP hD hS 0 0 rfl rfl (i := nI i) (x := v) (vp_in_nI hlt (by omega)) dJ7_fill_53178_13 (fun H locs hP hD hS => ?_)
        rw [show (nI i : Int32).toNatClampNeg = i from nI_clamp (by omega)] at hP hD
        have hP : va_P (dC, dI) vwCl [(hF, .inl (cI, n, .inl (upd (jb_fl F v i) i v)))] H := hP
        have hD : va_D A [(hF, .inl (cI, n, .inl (upd (jb_fl F v i) i v)))] := hD
        rw [jb_fl_s] at hP hD
        refine lv_iinc (v := nI (i + 1)) (lv' := [(2, .int (nI (i + 1))), (0, .ref hF), (1, .int v), (3, .int (nI n))]) hx hb dJ7_fill_53178_14 hl (k := 0) rfl (nI_1 i) (by decide) rfl (fun ls hl => ?_)
        refine lv_goto (tgt := 5) hx hb dJ7_fill_53178_17 (by decide) ?_
        exact ih (i + 1) (by omega) (by omega) H locs hP hD hS ls (lv_sub hl [0, 1, 2, 3] rfl)
  refine hloop (n + 1) 0 (by omega) (Nat.zero_le _) s.heap [] (by rw [jb_fl_0]; exact hP) (by rw [jb_fl_0]; exact hD) hS ls (lv_sub hl [1, 2, 3, 0] rfl)
theorem iX1_addEvent_X1 : ∀ w ∈ wsX10, w ∈ wsX1_addEvent := by decide +kernel
set_option maxHeartbeats 1000000 in
set_option maxRecDepth 100000 in
/-- Report.addEvent -/
theorem c_addEvent (l : Launch) (dC : Nat → ClassId) (dI : Nat → Nat → Nat) (cI : ClassId) (sz : Nat) (hR hF hE hQ : Nat) (F E P : Nat → Int32) (dk : Int32) (kd ev : Nat) (lv x y rd : Int32) (hev : F 5 = nI ev) (hb1 : ev < 1000000) (hkd : kd < 4) : Met l yX1_addEvent wsX1_addEvent ({ frames := 2, cells := 0, slots := 0, locals := 80 } : Room) (va_Pc [.ref hR, .int (nI kd), .int lv, .int x, .int y, .int rd] (jb_M dC dI cI sz [(hR, .inr (1, [.ref hF, .ref hE, .ref hQ, .int dk])), (hF, .inl (cI, 11, .inl F)), (hE, .inl (cI, 1500, .inl E)), (hQ, .inl (cI, 4000, .inl P))])) (va_Qv (fun (_ : Unit) => True) (jb_B dC dI (va_A [(hR, .inr (1, [.ref hF, .ref hE, .ref hQ, .int dk])), (hF, .inl (cI, 11, .inl F)), (hE, .inl (cI, 1500, .inl E)), (hQ, .inl (cI, 4000, .inl P))] sz) (fun _ => [(hR, .inr (1, [.ref hF, .ref hE, .ref hQ, .int dk])), (hF, .inl (cI, 11, .inl (jb_evF F kd lv rd))), (hE, .inl (cI, 1500, .inl (jb_evE E ev (nI kd) lv x y rd))), (hQ, .inl (cI, 4000, .inl P))])) (va_A [(hR, .inr (1, [.ref hF, .ref hE, .ref hQ, .int dk])), (hF, .inl (cI, 11, .inl F)), (hE, .inl (cI, 1500, .inl E)), (hQ, .inl (cI, 4000, .inl P))] sz)) 0 0 (va_A [(hR, .inr (1, [.ref hF, .ref hE, .ref hQ, .int dk])), (hF, .inl (cI, 11, .inl F)), (hE, .inl (cI, 1500, .inl E)), (hQ, .inl (cI, 4000, .inl P))] sz) := by
  refine Met.ofW (cc := cX1_addEvent) (maxL := 8) (ret := none) (by decide) rfl ?_
  intro p e s m args below meth c s₁ B hml hv
  obtain ⟨rfl, hsz, hP, hK, hNw, hD0⟩ := hv
  have hx := B.exec
  have hb := B.bytes
  have hr := B.returns
  have hts := atoms_spec (ws := wsX1_addEvent) B.pre
  have hown : s.vm.findClass RX1 = some m.cls := findClass_of_methodNamed B.named
  have hlocks := B.notSynchronized
  subst hsz
  have hD := hD0.self (sz := s.heap.size)
  generalize hAe : va_A [(hR, .inr (1, [.ref hF, .ref hE, .ref hQ, .int dk])), (hF, .inl (cI, 11, .inl F)), (hE, .inl (cI, 1500, .inl E)), (hQ, .inl (cI, 4000, .inl P))] s.heap.size = A at hD ⊢
  have hA : ∀ q : Nat, s.heap.size ≤ q → A q := fun q h => by rw [← hAe]; exact Or.inr h
  have hS : va_S A s.heap s.heap [] := va_S.rf
  have hP : va_P (dC, dI) vwCl [(hR, .inr (1, [.ref hF, .ref hE, .ref hQ, .int dk])), (hF, .inl (cI, 11, .inl F)), (hE, .inl (cI, 1500, .inl E)), (hQ, .inl (cI, 4000, .inl P))] s.heap := hP
  have hl := lv_entry ([.ref hR, .int (nI kd), .int lv, .int x, .int y, .int rd]) (n := 8) (Nat.le_of_ble_eq_true rfl)
  rw [lg_entry_eq]
  generalize (lg_sl ([.ref hR, .int (nI kd), .int lv, .int x, .int y, .int rd]) ++ List.replicate (8 - (lg_sl ([.ref hR, .int (nI kd), .int lv, .int x, .int y, .int rd])).length) Slot.unset).toArray = ls at hl ⊢
  have hl : lv_has ls 8 [(0, .ref hR), (1, .int (nI kd)), (2, .int lv), (3, .int x), (4, .int y), (5, .int rd)] := hl
  refine lv_aload_n hx hb dX1_addEvent_0 rfl (lv_at hl 0 rfl) ?_
  refine va_get (D := (dC, dI)) (ci := 1) (v := .ref hF) (C := RX1) (T := TX1) (N := 4) hx hb hts iX1_addEvent_X1 hown hK hP 0 rfl rfl 0 (by decide) (hts (.fieldLink RX1 11 "JoinBench$Report" "figures" "[I") (by decide +kernel)) (fun _ h9 => h9) rfl dX1_addEvent_1 ?_
  refine lv_iconst (v := 5) hx hb dX1_addEvent_4 (by decide) ?_
  refine va_iald hx hb hK hP 1 0 rfl rfl (i := 5) (by unfold vp_in; decide) dX1_addEvent_5 ?_
  refine lv_topi (fun v_1 ev_1 => ?_)
  have hv_1 : v_1 = nI ev := ev_1.trans (hev)
  clear ev_1; subst hv_1
  refine lv_istore (lv' := [(6, .int (nI ev)), (0, .ref hR), (1, .int (nI kd)), (2, .int lv), (3, .int x), (4, .int y), (5, .int rd)]) hx hb dX1_addEvent_6 hl (by decide) rfl (fun ls hl => ?_)
  refine lv_iload hx hb dX1_addEvent_8 (lv_at hl 0 rfl) ?_
  refine lv_sipush (v := 300) hx hb dX1_addEvent_10 (by decide) ?_
  refine lv_icmp_ge (tgt := 72) hx hb dX1_addEvent_13 (by decide) (fun c_13 => ?_) (fun c_13 => ?_)
  · have hge : ¬ ev < 300 := fun h => absurd c_13 ((jb_nle (a := 300) (b := ev) (by omega) (by omega)).mpr h)
    refine lv_aload_n hx hb dX1_addEvent_72 rfl (lv_at hl 1 rfl) ?_
    refine va_get (D := (dC, dI)) (ci := 1) (v := .ref hF) (C := RX1) (T := TX1) (N := 4) hx hb hts iX1_addEvent_X1 hown hK hP 0 rfl rfl 0 (by decide) (hts (.fieldLink RX1 11 "JoinBench$Report" "figures" "[I") (by decide +kernel)) (fun _ h9 => h9) rfl dX1_addEvent_73 ?_
    refine lv_iconst (v := 5) hx hb dX1_addEvent_76 (by decide) ?_
    refine lv_dup2_11 hx hb dX1_addEvent_77 rfl rfl ?_
    refine va_iald hx hb hK hP 1 0 rfl rfl (i := 5) (by unfold vp_in; decide) dX1_addEvent_78 ?_
    refine lv_topi (fun v_2 ev_2 => ?_)
    have hv_2 : v_2 = (F 5) := ev_2.trans (rfl)
    clear ev_2; subst hv_2
    refine lv_iconst (v := 1) hx hb dX1_addEvent_79 (by decide) ?_
    refine lv_iadd hx hb dX1_addEvent_80 ?_
    refine va_iast hx hb hK hP hD hS 1 0 rfl rfl (i := 5) (x := ((F 5) + 1)) (by unfold vp_in; decide) dX1_addEvent_81 (fun H locs hP hD hS => ?_)
    rw [show (5 : Int32).toNatClampNeg = 5 from rfl] at hP hD
    have hP : va_P (dC, dI) vwCl [(hR, .inr (1, [.ref hF, .ref hE, .ref hQ, .int dk])), (hF, .inl (cI, 11, .inl (upd F 5 ((F 5) + 1)))), (hE, .inl (cI, 1500, .inl E)), (hQ, .inl (cI, 4000, .inl P))] H := hP
    have hD : va_D A [(hR, .inr (1, [.ref hF, .ref hE, .ref hQ, .int dk])), (hF, .inl (cI, 11, .inl (upd F 5 ((F 5) + 1)))), (hE, .inl (cI, 1500, .inl E)), (hQ, .inl (cI, 4000, .inl P))] := hD
    refine lv_aload_n hx hb dX1_addEvent_82 rfl (lv_at hl 1 rfl) ?_
    refine va_get (D := (dC, dI)) (ci := 1) (v := .ref hF) (C := RX1) (T := TX1) (N := 4) hx hb hts iX1_addEvent_X1 hown hK hP 0 rfl rfl 0 (by decide) (hts (.fieldLink RX1 11 "JoinBench$Report" "figures" "[I") (by decide +kernel)) (fun _ h9 => h9) rfl dX1_addEvent_83 ?_
    refine lv_bipush (v := 6) hx hb dX1_addEvent_86 (by decide) ?_
    refine lv_iload_n hx hb dX1_addEvent_88 rfl (lv_at hl 2 rfl) ?_
    refine lv_iadd hx hb dX1_addEvent_89 ?_
    refine lv_topi (fun v_3 ev_3 => ?_)
    have hv_3 : v_3 = nI (6 + kd) := ev_3.trans (nI_add 6 kd)
    clear ev_3; subst hv_3
    refine lv_dup2_11 hx hb dX1_addEvent_90 rfl rfl ?_
    refine va_iald hx hb hK hP 1 0 rfl rfl (i := nI (6 + kd)) (vp_in_nI (n := 6 + kd) (by omega) (by decide)) dX1_addEvent_91 ?_
    refine lv_topi (fun v_4 ev_4 => ?_)
    have hv_4 : v_4 = ((upd F 5 ((F 5) + 1)) (6 + kd)) := ev_4.trans (congrArg _ (nI_clamp (by omega)))
    clear ev_4; subst hv_4
    refine lv_iconst (v := 1) hx hb dX1_addEvent_92 (by decide) ?_
    refine lv_iadd hx hb dX1_addEvent_93 ?_
    refine va_iast hx hb hK hP hD hS 1 0 rfl rfl (i := nI (6 + kd)) (x := (((upd F 5 ((F 5) + 1)) (6 + kd)) + 1)) (vp_in_nI (n := 6 + kd) (by omega) (by decide)) dX1_addEvent_94 (fun H locs hP hD hS => ?_)
    rw [show (nI (6 + kd) : Int32).toNatClampNeg = 6 + kd from nI_clamp (by omega)] at hP hD
    have hP : va_P (dC, dI) vwCl [(hR, .inr (1, [.ref hF, .ref hE, .ref hQ, .int dk])), (hF, .inl (cI, 11, .inl (upd (upd F 5 ((F 5) + 1)) (6 + kd) (((upd F 5 ((F 5) + 1)) (6 + kd)) + 1)))), (hE, .inl (cI, 1500, .inl E)), (hQ, .inl (cI, 4000, .inl P))] H := hP
    have hD : va_D A [(hR, .inr (1, [.ref hF, .ref hE, .ref hQ, .int dk])), (hF, .inl (cI, 11, .inl (upd (upd F 5 ((F 5) + 1)) (6 + kd) (((upd F 5 ((F 5) + 1)) (6 + kd)) + 1)))), (hE, .inl (cI, 1500, .inl E)), (hQ, .inl (cI, 4000, .inl P))] := hD
    refine lv_aload_n hx hb dX1_addEvent_95 rfl (lv_at hl 1 rfl) ?_
    refine va_get (D := (dC, dI)) (ci := 1) (v := .ref hF) (C := RX1) (T := TX1) (N := 4) hx hb hts iX1_addEvent_X1 hown hK hP 0 rfl rfl 0 (by decide) (hts (.fieldLink RX1 11 "JoinBench$Report" "figures" "[I") (by decide +kernel)) (fun _ h9 => h9) rfl dX1_addEvent_96 ?_
    refine lv_iconst (v := 0) hx hb dX1_addEvent_99 (by decide) ?_
    refine lv_dup2_11 hx hb dX1_addEvent_100 rfl rfl ?_
    refine va_iald hx hb hK hP 1 0 rfl rfl (i := 0) (by unfold vp_in; decide) dX1_addEvent_101 ?_
    refine lv_topi (fun v_5 ev_5 => ?_)
    have hv_5 : v_5 = ((upd (upd F 5 ((F 5) + 1)) (6 + kd) (((upd F 5 ((F 5) + 1)) (6 + kd)) + 1)) 0) := ev_5.trans (rfl)
    clear ev_5; subst hv_5
    refine lv_iload hx hb dX1_addEvent_102 (lv_at hl 6 rfl) ?_
    refine lv_iadd hx hb dX1_addEvent_104 ?_
    refine va_iast hx hb hK hP hD hS 1 0 rfl rfl (i := 0) (x := (((upd (upd F 5 ((F 5) + 1)) (6 + kd) (((upd F 5 ((F 5) + 1)) (6 + kd)) + 1)) 0) + rd)) (by unfold vp_in; decide) dX1_addEvent_105 (fun H locs hP hD hS => ?_)
    rw [show (0 : Int32).toNatClampNeg = 0 from rfl] at hP hD
    have hP : va_P (dC, dI) vwCl [(hR, .inr (1, [.ref hF, .ref hE, .ref hQ, .int dk])), (hF, .inl (cI, 11, .inl (upd (upd (upd F 5 ((F 5) + 1)) (6 + kd) (((upd F 5 ((F 5) + 1)) (6 + kd)) + 1)) 0 (((upd (upd F 5 ((F 5) + 1)) (6 + kd) (((upd F 5 ((F 5) + 1)) (6 + kd)) + 1)) 0) + rd)))), (hE, .inl (cI, 1500, .inl E)), (hQ, .inl (cI, 4000, .inl P))] H := hP
    have hD : va_D A [(hR, .inr (1, [.ref hF, .ref hE, .ref hQ, .int dk])), (hF, .inl (cI, 11, .inl (upd (upd (upd F 5 ((F 5) + 1)) (6 + kd) (((upd F 5 ((F 5) + 1)) (6 + kd)) + 1)) 0 (((upd (upd F 5 ((F 5) + 1)) (6 + kd) (((upd F 5 ((F 5) + 1)) (6 + kd)) + 1)) 0) + rd)))), (hE, .inl (cI, 1500, .inl E)), (hQ, .inl (cI, 4000, .inl P))] := hD
    refine lv_aload_n hx hb dX1_addEvent_106 rfl (lv_at hl 1 rfl) ?_
    refine va_get (D := (dC, dI)) (ci := 1) (v := .ref hF) (C := RX1) (T := TX1) (N := 4) hx hb hts iX1_addEvent_X1 hown hK hP 0 rfl rfl 0 (by decide) (hts (.fieldLink RX1 11 "JoinBench$Report" "figures" "[I") (by decide +kernel)) (fun _ h9 => h9) rfl dX1_addEvent_107 ?_
    refine lv_iconst (v := 4) hx hb dX1_addEvent_110 (by decide) ?_
    refine lv_aload_n hx hb dX1_addEvent_111 rfl (lv_at hl 1 rfl) ?_
    refine va_get (D := (dC, dI)) (ci := 1) (v := .ref hF) (C := RX1) (T := TX1) (N := 4) hx hb hts iX1_addEvent_X1 hown hK hP 0 rfl rfl 0 (by decide) (hts (.fieldLink RX1 11 "JoinBench$Report" "figures" "[I") (by decide +kernel)) (fun _ h9 => h9) rfl dX1_addEvent_112 ?_
    refine lv_iconst (v := 4) hx hb dX1_addEvent_115 (by decide) ?_
    refine va_iald hx hb hK hP 1 0 rfl rfl (i := 4) (by unfold vp_in; decide) dX1_addEvent_116 ?_
    refine lv_topi (fun v_6 ev_6 => ?_)
    have hv_6 : v_6 = ((upd (upd (upd F 5 ((F 5) + 1)) (6 + kd) (((upd F 5 ((F 5) + 1)) (6 + kd)) + 1)) 0 (((upd (upd F 5 ((F 5) + 1)) (6 + kd) (((upd F 5 ((F 5) + 1)) (6 + kd)) + 1)) 0) + rd)) 4) := ev_6.trans (rfl)
    clear ev_6; subst hv_6
    refine lv_iload_n hx hb dX1_addEvent_117 rfl (lv_at hl 3 rfl) ?_
    refine va_mmax hx hb (by rw [hml]; exact hl.1.symm) hown (hts (.methodLink RX1 31 Lib.Math.max.name) (by decide +kernel)) (hts (.static Lib.Math.max.name) (by decide +kernel)) (hts (.initialized "java/lang/Math") (by decide +kernel)) (hts (.code Lib.Math.max.name Lib.Math.max.code 2 (some .int)) (by decide +kernel)) (by decide +kernel) (Nat.le_of_ble_eq_true rfl) (Nat.zero_le _) (Nat.zero_le _) dX1_addEvent_118 ?_
    refine va_iast hx hb hK hP hD hS 1 0 rfl rfl (i := 4) (x := (if ((upd (upd (upd F 5 ((F 5) + 1)) (6 + kd) (((upd F 5 ((F 5) + 1)) (6 + kd)) + 1)) 0 (((upd (upd F 5 ((F 5) + 1)) (6 + kd) (((upd F 5 ((F 5) + 1)) (6 + kd)) + 1)) 0) + rd)) 4) < lv then lv else ((upd (upd (upd F 5 ((F 5) + 1)) (6 + kd) (((upd F 5 ((F 5) + 1)) (6 + kd)) + 1)) 0 (((upd (upd F 5 ((F 5) + 1)) (6 + kd) (((upd F 5 ((F 5) + 1)) (6 + kd)) + 1)) 0) + rd)) 4))) (by unfold vp_in; decide) dX1_addEvent_121 (fun H locs hP hD hS => ?_)
    rw [show (4 : Int32).toNatClampNeg = 4 from rfl] at hP hD
    have hP : va_P (dC, dI) vwCl [(hR, .inr (1, [.ref hF, .ref hE, .ref hQ, .int dk])), (hF, .inl (cI, 11, .inl (upd (upd (upd (upd F 5 ((F 5) + 1)) (6 + kd) (((upd F 5 ((F 5) + 1)) (6 + kd)) + 1)) 0 (((upd (upd F 5 ((F 5) + 1)) (6 + kd) (((upd F 5 ((F 5) + 1)) (6 + kd)) + 1)) 0) + rd)) 4 (if ((upd (upd (upd F 5 ((F 5) + 1)) (6 + kd) (((upd F 5 ((F 5) + 1)) (6 + kd)) + 1)) 0 (((upd (upd F 5 ((F 5) + 1)) (6 + kd) (((upd F 5 ((F 5) + 1)) (6 + kd)) + 1)) 0) + rd)) 4) < lv then lv else ((upd (upd (upd F 5 ((F 5) + 1)) (6 + kd) (((upd F 5 ((F 5) + 1)) (6 + kd)) + 1)) 0 (((upd (upd F 5 ((F 5) + 1)) (6 + kd) (((upd F 5 ((F 5) + 1)) (6 + kd)) + 1)) 0) + rd)) 4))))), (hE, .inl (cI, 1500, .inl E)), (hQ, .inl (cI, 4000, .inl P))] H := hP
    have hD : va_D A [(hR, .inr (1, [.ref hF, .ref hE, .ref hQ, .int dk])), (hF, .inl (cI, 11, .inl (upd (upd (upd (upd F 5 ((F 5) + 1)) (6 + kd) (((upd F 5 ((F 5) + 1)) (6 + kd)) + 1)) 0 (((upd (upd F 5 ((F 5) + 1)) (6 + kd) (((upd F 5 ((F 5) + 1)) (6 + kd)) + 1)) 0) + rd)) 4 (if ((upd (upd (upd F 5 ((F 5) + 1)) (6 + kd) (((upd F 5 ((F 5) + 1)) (6 + kd)) + 1)) 0 (((upd (upd F 5 ((F 5) + 1)) (6 + kd) (((upd F 5 ((F 5) + 1)) (6 + kd)) + 1)) 0) + rd)) 4) < lv then lv else ((upd (upd (upd F 5 ((F 5) + 1)) (6 + kd) (((upd F 5 ((F 5) + 1)) (6 + kd)) + 1)) 0 (((upd (upd F 5 ((F 5) + 1)) (6 + kd) (((upd F 5 ((F 5) + 1)) (6 + kd)) + 1)) 0) + rd)) 4))))), (hE, .inl (cI, 1500, .inl E)), (hQ, .inl (cI, 4000, .inl P))] := hD
    have hP9 : va_P (dC, dI) vwCl [(hR, .inr (1, [.ref hF, .ref hE, .ref hQ, .int dk])), (hF, .inl (cI, 11, .inl (jb_evF F kd lv rd))), (hE, .inl (cI, 1500, .inl (jb_evE E ev (nI kd) lv x y rd))), (hQ, .inl (cI, 4000, .inl P))] H := by rw [show jb_evE E ev (nI kd) lv x y rd = E from if_neg hge]; exact hP.sub [0, 1, 2, 3] rfl
    have hD9 : va_D A [(hR, .inr (1, [.ref hF, .ref hE, .ref hQ, .int dk])), (hF, .inl (cI, 11, .inl (jb_evF F kd lv rd))), (hE, .inl (cI, 1500, .inl (jb_evE E ev (nI kd) lv x y rd))), (hQ, .inl (cI, 4000, .inl P))] := by rw [show jb_evE E ev (nI kd) lv x y rd = E from if_neg hge]; exact hD.sub [0, 1, 2, 3] (by decide) rfl
    exact W.vret hx hb hr (fun t ht hW => ⟨⟨(), rfl, trivial, by rw [ht]; exact hP9, hD9⟩, hS.F ht⟩) hS.2.2 dX1_addEvent_122
  · have hlt : ev < 300 := (jb_nle (a := 300) (b := ev) (by omega) (by omega)).mp c_13
    refine lv_iload hx hb dX1_addEvent_16 (lv_at hl 0 rfl) ?_
    refine lv_iconst (v := 5) hx hb dX1_addEvent_18 (by decide) ?_
    refine lv_imul hx hb dX1_addEvent_19 ?_
    refine lv_topi (fun v_7 ev_7 => ?_)
    have hv_7 : v_7 = nI (ev * 5) := ev_7.trans (jb_nmul ev 5)
    clear ev_7; subst hv_7
    refine lv_istore (lv' := [(7, .int (nI (ev * 5))), (6, .int (nI ev)), (0, .ref hR), (1, .int (nI kd)), (2, .int lv), (3, .int x), (4, .int y), (5, .int rd)]) hx hb dX1_addEvent_20 hl (by decide) rfl (fun ls hl => ?_)
    refine lv_aload_n hx hb dX1_addEvent_22 rfl (lv_at hl 2 rfl) ?_
    refine va_get (D := (dC, dI)) (ci := 1) (v := .ref hE) (C := RX1) (T := TX1) (N := 4) hx hb hts iX1_addEvent_X1 hown hK hP 0 rfl rfl 1 (by decide) (hts (.fieldLink RX1 15 "JoinBench$Report" "events" "[I") (by decide +kernel)) (fun _ h9 => h9) rfl dX1_addEvent_23 ?_
    refine lv_iload hx hb dX1_addEvent_26 (lv_at hl 0 rfl) ?_
    refine lv_iload_n hx hb dX1_addEvent_28 rfl (lv_at hl 3 rfl) ?_
    refine va_iast hx hb hK hP hD hS 2 0 rfl rfl (i := nI (ev * 5)) (x := nI kd) (vp_in_nI (n := ev * 5) (by omega) (by decide)) dX1_addEvent_29 (fun H locs hP hD hS => ?_)
    rw [show (nI (ev * 5) : Int32).toNatClampNeg = ev * 5 from nI_clamp (by omega)] at hP hD
    have hP : va_P (dC, dI) vwCl [(hR, .inr (1, [.ref hF, .ref hE, .ref hQ, .int dk])), (hF, .inl (cI, 11, .inl F)), (hE, .inl (cI, 1500, .inl (upd E (ev * 5) (nI kd)))), (hQ, .inl (cI, 4000, .inl P))] H := hP
    have hD : va_D A [(hR, .inr (1, [.ref hF, .ref hE, .ref hQ, .int dk])), (hF, .inl (cI, 11, .inl F)), (hE, .inl (cI, 1500, .inl (upd E (ev * 5) (nI kd)))), (hQ, .inl (cI, 4000, .inl P))] := hD
    refine lv_aload_n hx hb dX1_addEvent_30 rfl (lv_at hl 2 rfl) ?_
    refine va_get (D := (dC, dI)) (ci := 1) (v := .ref hE) (C := RX1) (T := TX1) (N := 4) hx hb hts iX1_addEvent_X1 hown hK hP 0 rfl rfl 1 (by decide) (hts (.fieldLink RX1 15 "JoinBench$Report" "events" "[I") (by decide +kernel)) (fun _ h9 => h9) rfl dX1_addEvent_31 ?_
    refine lv_iload hx hb dX1_addEvent_34 (lv_at hl 0 rfl) ?_
    refine lv_iconst (v := 1) hx hb dX1_addEvent_36 (by decide) ?_
    refine lv_iadd hx hb dX1_addEvent_37 ?_
    refine lv_topi (fun v_8 ev_8 => ?_)
    have hv_8 : v_8 = nI (ev * 5 + 1) := ev_8.trans (nI_add (ev * 5) 1)
    clear ev_8; subst hv_8
    refine lv_iload_n hx hb dX1_addEvent_38 rfl (lv_at hl 4 rfl) ?_
    refine va_iast hx hb hK hP hD hS 2 0 rfl rfl (i := nI (ev * 5 + 1)) (x := lv) (vp_in_nI (n := ev * 5 + 1) (by omega) (by decide)) dX1_addEvent_39 (fun H locs hP hD hS => ?_)
    rw [show (nI (ev * 5 + 1) : Int32).toNatClampNeg = ev * 5 + 1 from nI_clamp (by omega)] at hP hD
    have hP : va_P (dC, dI) vwCl [(hR, .inr (1, [.ref hF, .ref hE, .ref hQ, .int dk])), (hF, .inl (cI, 11, .inl F)), (hE, .inl (cI, 1500, .inl (upd (upd E (ev * 5) (nI kd)) (ev * 5 + 1) lv))), (hQ, .inl (cI, 4000, .inl P))] H := hP
    have hD : va_D A [(hR, .inr (1, [.ref hF, .ref hE, .ref hQ, .int dk])), (hF, .inl (cI, 11, .inl F)), (hE, .inl (cI, 1500, .inl (upd (upd E (ev * 5) (nI kd)) (ev * 5 + 1) lv))), (hQ, .inl (cI, 4000, .inl P))] := hD
    refine lv_aload_n hx hb dX1_addEvent_40 rfl (lv_at hl 2 rfl) ?_
    refine va_get (D := (dC, dI)) (ci := 1) (v := .ref hE) (C := RX1) (T := TX1) (N := 4) hx hb hts iX1_addEvent_X1 hown hK hP 0 rfl rfl 1 (by decide) (hts (.fieldLink RX1 15 "JoinBench$Report" "events" "[I") (by decide +kernel)) (fun _ h9 => h9) rfl dX1_addEvent_41 ?_
    refine lv_iload hx hb dX1_addEvent_44 (lv_at hl 0 rfl) ?_
    refine lv_iconst (v := 2) hx hb dX1_addEvent_46 (by decide) ?_
    refine lv_iadd hx hb dX1_addEvent_47 ?_
    refine lv_topi (fun v_9 ev_9 => ?_)
    have hv_9 : v_9 = nI (ev * 5 + 2) := ev_9.trans (nI_add (ev * 5) 2)
    clear ev_9; subst hv_9
    refine lv_iload_n hx hb dX1_addEvent_48 rfl (lv_at hl 5 rfl) ?_
    refine va_iast hx hb hK hP hD hS 2 0 rfl rfl (i := nI (ev * 5 + 2)) (x := x) (vp_in_nI (n := ev * 5 + 2) (by omega) (by decide)) dX1_addEvent_49 (fun H locs hP hD hS => ?_)
    rw [show (nI (ev * 5 + 2) : Int32).toNatClampNeg = ev * 5 + 2 from nI_clamp (by omega)] at hP hD
    have hP : va_P (dC, dI) vwCl [(hR, .inr (1, [.ref hF, .ref hE, .ref hQ, .int dk])), (hF, .inl (cI, 11, .inl F)), (hE, .inl (cI, 1500, .inl (upd (upd (upd E (ev * 5) (nI kd)) (ev * 5 + 1) lv) (ev * 5 + 2) x))), (hQ, .inl (cI, 4000, .inl P))] H := hP
    have hD : va_D A [(hR, .inr (1, [.ref hF, .ref hE, .ref hQ, .int dk])), (hF, .inl (cI, 11, .inl F)), (hE, .inl (cI, 1500, .inl (upd (upd (upd E (ev * 5) (nI kd)) (ev * 5 + 1) lv) (ev * 5 + 2) x))), (hQ, .inl (cI, 4000, .inl P))] := hD
    refine lv_aload_n hx hb dX1_addEvent_50 rfl (lv_at hl 2 rfl) ?_
    refine va_get (D := (dC, dI)) (ci := 1) (v := .ref hE) (C := RX1) (T := TX1) (N := 4) hx hb hts iX1_addEvent_X1 hown hK hP 0 rfl rfl 1 (by decide) (hts (.fieldLink RX1 15 "JoinBench$Report" "events" "[I") (by decide +kernel)) (fun _ h9 => h9) rfl dX1_addEvent_51 ?_
    refine lv_iload hx hb dX1_addEvent_54 (lv_at hl 0 rfl) ?_
    refine lv_iconst (v := 3) hx hb dX1_addEvent_56 (by decide) ?_
    refine lv_iadd hx hb dX1_addEvent_57 ?_
    refine lv_topi (fun v_10 ev_10 => ?_)
    have hv_10 : v_10 = nI (ev * 5 + 3) := ev_10.trans (nI_add (ev * 5) 3)
    clear ev_10; subst hv_10
    refine lv_iload hx hb dX1_addEvent_58 (lv_at hl 6 rfl) ?_
    refine va_iast hx hb hK hP hD hS 2 0 rfl rfl (i := nI (ev * 5 + 3)) (x := y) (vp_in_nI (n := ev * 5 + 3) (by omega) (by decide)) dX1_addEvent_60 (fun H locs hP hD hS => ?_)
    rw [show (nI (ev * 5 + 3) : Int32).toNatClampNeg = ev * 5 + 3 from nI_clamp (by omega)] at hP hD
    have hP : va_P (dC, dI) vwCl [(hR, .inr (1, [.ref hF, .ref hE, .ref hQ, .int dk])), (hF, .inl (cI, 11, .inl F)), (hE, .inl (cI, 1500, .inl (upd (upd (upd (upd E (ev * 5) (nI kd)) (ev * 5 + 1) lv) (ev * 5 + 2) x) (ev * 5 + 3) y))), (hQ, .inl (cI, 4000, .inl P))] H := hP
    have hD : va_D A [(hR, .inr (1, [.ref hF, .ref hE, .ref hQ, .int dk])), (hF, .inl (cI, 11, .inl F)), (hE, .inl (cI, 1500, .inl (upd (upd (upd (upd E (ev * 5) (nI kd)) (ev * 5 + 1) lv) (ev * 5 + 2) x) (ev * 5 + 3) y))), (hQ, .inl (cI, 4000, .inl P))] := hD
    refine lv_aload_n hx hb dX1_addEvent_61 rfl (lv_at hl 2 rfl) ?_
    refine va_get (D := (dC, dI)) (ci := 1) (v := .ref hE) (C := RX1) (T := TX1) (N := 4) hx hb hts iX1_addEvent_X1 hown hK hP 0 rfl rfl 1 (by decide) (hts (.fieldLink RX1 15 "JoinBench$Report" "events" "[I") (by decide +kernel)) (fun _ h9 => h9) rfl dX1_addEvent_62 ?_
    refine lv_iload hx hb dX1_addEvent_65 (lv_at hl 0 rfl) ?_
    refine lv_iconst (v := 4) hx hb dX1_addEvent_67 (by decide) ?_
    refine lv_iadd hx hb dX1_addEvent_68 ?_
    refine lv_topi (fun v_11 ev_11 => ?_)
    have hv_11 : v_11 = nI (ev * 5 + 4) := ev_11.trans (nI_add (ev * 5) 4)
    clear ev_11; subst hv_11
    refine lv_iload hx hb dX1_addEvent_69 (lv_at hl 7 rfl) ?_
    refine va_iast hx hb hK hP hD hS 2 0 rfl rfl (i := nI (ev * 5 + 4)) (x := rd) (vp_in_nI (n := ev * 5 + 4) (by omega) (by decide)) dX1_addEvent_71 (fun H locs hP hD hS => ?_)
    rw [show (nI (ev * 5 + 4) : Int32).toNatClampNeg = ev * 5 + 4 from nI_clamp (by omega)] at hP hD
    have hP : va_P (dC, dI) vwCl [(hR, .inr (1, [.ref hF, .ref hE, .ref hQ, .int dk])), (hF, .inl (cI, 11, .inl F)), (hE, .inl (cI, 1500, .inl (upd (upd (upd (upd (upd E (ev * 5) (nI kd)) (ev * 5 + 1) lv) (ev * 5 + 2) x) (ev * 5 + 3) y) (ev * 5 + 4) rd))), (hQ, .inl (cI, 4000, .inl P))] H := hP
    have hD : va_D A [(hR, .inr (1, [.ref hF, .ref hE, .ref hQ, .int dk])), (hF, .inl (cI, 11, .inl F)), (hE, .inl (cI, 1500, .inl (upd (upd (upd (upd (upd E (ev * 5) (nI kd)) (ev * 5 + 1) lv) (ev * 5 + 2) x) (ev * 5 + 3) y) (ev * 5 + 4) rd))), (hQ, .inl (cI, 4000, .inl P))] := hD
    refine lv_aload_n hx hb dX1_addEvent_72 rfl (lv_at hl 2 rfl) ?_
    refine va_get (D := (dC, dI)) (ci := 1) (v := .ref hF) (C := RX1) (T := TX1) (N := 4) hx hb hts iX1_addEvent_X1 hown hK hP 0 rfl rfl 0 (by decide) (hts (.fieldLink RX1 11 "JoinBench$Report" "figures" "[I") (by decide +kernel)) (fun _ h9 => h9) rfl dX1_addEvent_73 ?_
    refine lv_iconst (v := 5) hx hb dX1_addEvent_76 (by decide) ?_
    refine lv_dup2_11 hx hb dX1_addEvent_77 rfl rfl ?_
    refine va_iald hx hb hK hP 1 0 rfl rfl (i := 5) (by unfold vp_in; decide) dX1_addEvent_78 ?_
    refine lv_topi (fun v_12 ev_12 => ?_)
    have hv_12 : v_12 = (F 5) := ev_12.trans (rfl)
    clear ev_12; subst hv_12
    refine lv_iconst (v := 1) hx hb dX1_addEvent_79 (by decide) ?_
    refine lv_iadd hx hb dX1_addEvent_80 ?_
    refine va_iast hx hb hK hP hD hS 1 0 rfl rfl (i := 5) (x := ((F 5) + 1)) (by unfold vp_in; decide) dX1_addEvent_81 (fun H locs hP hD hS => ?_)
    rw [show (5 : Int32).toNatClampNeg = 5 from rfl] at hP hD
    have hP : va_P (dC, dI) vwCl [(hR, .inr (1, [.ref hF, .ref hE, .ref hQ, .int dk])), (hF, .inl (cI, 11, .inl (upd F 5 ((F 5) + 1)))), (hE, .inl (cI, 1500, .inl (upd (upd (upd (upd (upd E (ev * 5) (nI kd)) (ev * 5 + 1) lv) (ev * 5 + 2) x) (ev * 5 + 3) y) (ev * 5 + 4) rd))), (hQ, .inl (cI, 4000, .inl P))] H := hP
    have hD : va_D A [(hR, .inr (1, [.ref hF, .ref hE, .ref hQ, .int dk])), (hF, .inl (cI, 11, .inl (upd F 5 ((F 5) + 1)))), (hE, .inl (cI, 1500, .inl (upd (upd (upd (upd (upd E (ev * 5) (nI kd)) (ev * 5 + 1) lv) (ev * 5 + 2) x) (ev * 5 + 3) y) (ev * 5 + 4) rd))), (hQ, .inl (cI, 4000, .inl P))] := hD
    refine lv_aload_n hx hb dX1_addEvent_82 rfl (lv_at hl 2 rfl) ?_
    refine va_get (D := (dC, dI)) (ci := 1) (v := .ref hF) (C := RX1) (T := TX1) (N := 4) hx hb hts iX1_addEvent_X1 hown hK hP 0 rfl rfl 0 (by decide) (hts (.fieldLink RX1 11 "JoinBench$Report" "figures" "[I") (by decide +kernel)) (fun _ h9 => h9) rfl dX1_addEvent_83 ?_
    refine lv_bipush (v := 6) hx hb dX1_addEvent_86 (by decide) ?_
    refine lv_iload_n hx hb dX1_addEvent_88 rfl (lv_at hl 3 rfl) ?_
    refine lv_iadd hx hb dX1_addEvent_89 ?_
    refine lv_topi (fun v_13 ev_13 => ?_)
    have hv_13 : v_13 = nI (6 + kd) := ev_13.trans (nI_add 6 kd)
    clear ev_13; subst hv_13
    refine lv_dup2_11 hx hb dX1_addEvent_90 rfl rfl ?_
    refine va_iald hx hb hK hP 1 0 rfl rfl (i := nI (6 + kd)) (vp_in_nI (n := 6 + kd) (by omega) (by decide)) dX1_addEvent_91 ?_
    refine lv_topi (fun v_14 ev_14 => ?_)
    have hv_14 : v_14 = ((upd F 5 ((F 5) + 1)) (6 + kd)) := ev_14.trans (congrArg _ (nI_clamp (by omega)))
    clear ev_14; subst hv_14
    refine lv_iconst (v := 1) hx hb dX1_addEvent_92 (by decide) ?_
    refine lv_iadd hx hb dX1_addEvent_93 ?_
    refine va_iast hx hb hK hP hD hS 1 0 rfl rfl (i := nI (6 + kd)) (x := (((upd F 5 ((F 5) + 1)) (6 + kd)) + 1)) (vp_in_nI (n := 6 + kd) (by omega) (by decide)) dX1_addEvent_94 (fun H locs hP hD hS => ?_)
    rw [show (nI (6 + kd) : Int32).toNatClampNeg = 6 + kd from nI_clamp (by omega)] at hP hD
    have hP : va_P (dC, dI) vwCl [(hR, .inr (1, [.ref hF, .ref hE, .ref hQ, .int dk])), (hF, .inl (cI, 11, .inl (upd (upd F 5 ((F 5) + 1)) (6 + kd) (((upd F 5 ((F 5) + 1)) (6 + kd)) + 1)))), (hE, .inl (cI, 1500, .inl (upd (upd (upd (upd (upd E (ev * 5) (nI kd)) (ev * 5 + 1) lv) (ev * 5 + 2) x) (ev * 5 + 3) y) (ev * 5 + 4) rd))), (hQ, .inl (cI, 4000, .inl P))] H := hP
    have hD : va_D A [(hR, .inr (1, [.ref hF, .ref hE, .ref hQ, .int dk])), (hF, .inl (cI, 11, .inl (upd (upd F 5 ((F 5) + 1)) (6 + kd) (((upd F 5 ((F 5) + 1)) (6 + kd)) + 1)))), (hE, .inl (cI, 1500, .inl (upd (upd (upd (upd (upd E (ev * 5) (nI kd)) (ev * 5 + 1) lv) (ev * 5 + 2) x) (ev * 5 + 3) y) (ev * 5 + 4) rd))), (hQ, .inl (cI, 4000, .inl P))] := hD
    refine lv_aload_n hx hb dX1_addEvent_95 rfl (lv_at hl 2 rfl) ?_
    refine va_get (D := (dC, dI)) (ci := 1) (v := .ref hF) (C := RX1) (T := TX1) (N := 4) hx hb hts iX1_addEvent_X1 hown hK hP 0 rfl rfl 0 (by decide) (hts (.fieldLink RX1 11 "JoinBench$Report" "figures" "[I") (by decide +kernel)) (fun _ h9 => h9) rfl dX1_addEvent_96 ?_
    refine lv_iconst (v := 0) hx hb dX1_addEvent_99 (by decide) ?_
    refine lv_dup2_11 hx hb dX1_addEvent_100 rfl rfl ?_
    refine va_iald hx hb hK hP 1 0 rfl rfl (i := 0) (by unfold vp_in; decide) dX1_addEvent_101 ?_
    refine lv_topi (fun v_15 ev_15 => ?_)
    have hv_15 : v_15 = ((upd (upd F 5 ((F 5) + 1)) (6 + kd) (((upd F 5 ((F 5) + 1)) (6 + kd)) + 1)) 0) := ev_15.trans (rfl)
    clear ev_15; subst hv_15
    refine lv_iload hx hb dX1_addEvent_102 (lv_at hl 7 rfl) ?_
    refine lv_iadd hx hb dX1_addEvent_104 ?_
    refine va_iast hx hb hK hP hD hS 1 0 rfl rfl (i := 0) (x := (((upd (upd F 5 ((F 5) + 1)) (6 + kd) (((upd F 5 ((F 5) + 1)) (6 + kd)) + 1)) 0) + rd)) (by unfold vp_in; decide) dX1_addEvent_105 (fun H locs hP hD hS => ?_)
    rw [show (0 : Int32).toNatClampNeg = 0 from rfl] at hP hD
    have hP : va_P (dC, dI) vwCl [(hR, .inr (1, [.ref hF, .ref hE, .ref hQ, .int dk])), (hF, .inl (cI, 11, .inl (upd (upd (upd F 5 ((F 5) + 1)) (6 + kd) (((upd F 5 ((F 5) + 1)) (6 + kd)) + 1)) 0 (((upd (upd F 5 ((F 5) + 1)) (6 + kd) (((upd F 5 ((F 5) + 1)) (6 + kd)) + 1)) 0) + rd)))), (hE, .inl (cI, 1500, .inl (upd (upd (upd (upd (upd E (ev * 5) (nI kd)) (ev * 5 + 1) lv) (ev * 5 + 2) x) (ev * 5 + 3) y) (ev * 5 + 4) rd))), (hQ, .inl (cI, 4000, .inl P))] H := hP
    have hD : va_D A [(hR, .inr (1, [.ref hF, .ref hE, .ref hQ, .int dk])), (hF, .inl (cI, 11, .inl (upd (upd (upd F 5 ((F 5) + 1)) (6 + kd) (((upd F 5 ((F 5) + 1)) (6 + kd)) + 1)) 0 (((upd (upd F 5 ((F 5) + 1)) (6 + kd) (((upd F 5 ((F 5) + 1)) (6 + kd)) + 1)) 0) + rd)))), (hE, .inl (cI, 1500, .inl (upd (upd (upd (upd (upd E (ev * 5) (nI kd)) (ev * 5 + 1) lv) (ev * 5 + 2) x) (ev * 5 + 3) y) (ev * 5 + 4) rd))), (hQ, .inl (cI, 4000, .inl P))] := hD
    refine lv_aload_n hx hb dX1_addEvent_106 rfl (lv_at hl 2 rfl) ?_
    refine va_get (D := (dC, dI)) (ci := 1) (v := .ref hF) (C := RX1) (T := TX1) (N := 4) hx hb hts iX1_addEvent_X1 hown hK hP 0 rfl rfl 0 (by decide) (hts (.fieldLink RX1 11 "JoinBench$Report" "figures" "[I") (by decide +kernel)) (fun _ h9 => h9) rfl dX1_addEvent_107 ?_
    refine lv_iconst (v := 4) hx hb dX1_addEvent_110 (by decide) ?_
    refine lv_aload_n hx hb dX1_addEvent_111 rfl (lv_at hl 2 rfl) ?_
    refine va_get (D := (dC, dI)) (ci := 1) (v := .ref hF) (C := RX1) (T := TX1) (N := 4) hx hb hts iX1_addEvent_X1 hown hK hP 0 rfl rfl 0 (by decide) (hts (.fieldLink RX1 11 "JoinBench$Report" "figures" "[I") (by decide +kernel)) (fun _ h9 => h9) rfl dX1_addEvent_112 ?_
    refine lv_iconst (v := 4) hx hb dX1_addEvent_115 (by decide) ?_
    refine va_iald hx hb hK hP 1 0 rfl rfl (i := 4) (by unfold vp_in; decide) dX1_addEvent_116 ?_
    refine lv_topi (fun v_16 ev_16 => ?_)
    have hv_16 : v_16 = ((upd (upd (upd F 5 ((F 5) + 1)) (6 + kd) (((upd F 5 ((F 5) + 1)) (6 + kd)) + 1)) 0 (((upd (upd F 5 ((F 5) + 1)) (6 + kd) (((upd F 5 ((F 5) + 1)) (6 + kd)) + 1)) 0) + rd)) 4) := ev_16.trans (rfl)
    clear ev_16; subst hv_16
    refine lv_iload_n hx hb dX1_addEvent_117 rfl (lv_at hl 4 rfl) ?_
    refine va_mmax hx hb (by rw [hml]; exact hl.1.symm) hown (hts (.methodLink RX1 31 Lib.Math.max.name) (by decide +kernel)) (hts (.static Lib.Math.max.name) (by decide +kernel)) (hts (.initialized "java/lang/Math") (by decide +kernel)) (hts (.code Lib.Math.max.name Lib.Math.max.code 2 (some .int)) (by decide +kernel)) (by decide +kernel) (Nat.le_of_ble_eq_true rfl) (Nat.zero_le _) (Nat.zero_le _) dX1_addEvent_118 ?_
    refine va_iast hx hb hK hP hD hS 1 0 rfl rfl (i := 4) (x := (if ((upd (upd (upd F 5 ((F 5) + 1)) (6 + kd) (((upd F 5 ((F 5) + 1)) (6 + kd)) + 1)) 0 (((upd (upd F 5 ((F 5) + 1)) (6 + kd) (((upd F 5 ((F 5) + 1)) (6 + kd)) + 1)) 0) + rd)) 4) < lv then lv else ((upd (upd (upd F 5 ((F 5) + 1)) (6 + kd) (((upd F 5 ((F 5) + 1)) (6 + kd)) + 1)) 0 (((upd (upd F 5 ((F 5) + 1)) (6 + kd) (((upd F 5 ((F 5) + 1)) (6 + kd)) + 1)) 0) + rd)) 4))) (by unfold vp_in; decide) dX1_addEvent_121 (fun H locs hP hD hS => ?_)
    rw [show (4 : Int32).toNatClampNeg = 4 from rfl] at hP hD
    have hP : va_P (dC, dI) vwCl [(hR, .inr (1, [.ref hF, .ref hE, .ref hQ, .int dk])), (hF, .inl (cI, 11, .inl (upd (upd (upd (upd F 5 ((F 5) + 1)) (6 + kd) (((upd F 5 ((F 5) + 1)) (6 + kd)) + 1)) 0 (((upd (upd F 5 ((F 5) + 1)) (6 + kd) (((upd F 5 ((F 5) + 1)) (6 + kd)) + 1)) 0) + rd)) 4 (if ((upd (upd (upd F 5 ((F 5) + 1)) (6 + kd) (((upd F 5 ((F 5) + 1)) (6 + kd)) + 1)) 0 (((upd (upd F 5 ((F 5) + 1)) (6 + kd) (((upd F 5 ((F 5) + 1)) (6 + kd)) + 1)) 0) + rd)) 4) < lv then lv else ((upd (upd (upd F 5 ((F 5) + 1)) (6 + kd) (((upd F 5 ((F 5) + 1)) (6 + kd)) + 1)) 0 (((upd (upd F 5 ((F 5) + 1)) (6 + kd) (((upd F 5 ((F 5) + 1)) (6 + kd)) + 1)) 0) + rd)) 4))))), (hE, .inl (cI, 1500, .inl (upd (upd (upd (upd (upd E (ev * 5) (nI kd)) (ev * 5 + 1) lv) (ev * 5 + 2) x) (ev * 5 + 3) y) (ev * 5 + 4) rd))), (hQ, .inl (cI, 4000, .inl P))] H := hP
    have hD : va_D A [(hR, .inr (1, [.ref hF, .ref hE, .ref hQ, .int dk])), (hF, .inl (cI, 11, .inl (upd (upd (upd (upd F 5 ((F 5) + 1)) (6 + kd) (((upd F 5 ((F 5) + 1)) (6 + kd)) + 1)) 0 (((upd (upd F 5 ((F 5) + 1)) (6 + kd) (((upd F 5 ((F 5) + 1)) (6 + kd)) + 1)) 0) + rd)) 4 (if ((upd (upd (upd F 5 ((F 5) + 1)) (6 + kd) (((upd F 5 ((F 5) + 1)) (6 + kd)) + 1)) 0 (((upd (upd F 5 ((F 5) + 1)) (6 + kd) (((upd F 5 ((F 5) + 1)) (6 + kd)) + 1)) 0) + rd)) 4) < lv then lv else ((upd (upd (upd F 5 ((F 5) + 1)) (6 + kd) (((upd F 5 ((F 5) + 1)) (6 + kd)) + 1)) 0 (((upd (upd F 5 ((F 5) + 1)) (6 + kd) (((upd F 5 ((F 5) + 1)) (6 + kd)) + 1)) 0) + rd)) 4))))), (hE, .inl (cI, 1500, .inl (upd (upd (upd (upd (upd E (ev * 5) (nI kd)) (ev * 5 + 1) lv) (ev * 5 + 2) x) (ev * 5 + 3) y) (ev * 5 + 4) rd))), (hQ, .inl (cI, 4000, .inl P))] := hD
    have hP9 : va_P (dC, dI) vwCl [(hR, .inr (1, [.ref hF, .ref hE, .ref hQ, .int dk])), (hF, .inl (cI, 11, .inl (jb_evF F kd lv rd))), (hE, .inl (cI, 1500, .inl (jb_evE E ev (nI kd) lv x y rd))), (hQ, .inl (cI, 4000, .inl P))] H := by rw [show jb_evE E ev (nI kd) lv x y rd = (upd (upd (upd (upd (upd E (ev * 5) (nI kd)) (ev * 5 + 1) lv) (ev * 5 + 2) x) (ev * 5 + 3) y) (ev * 5 + 4) rd) from if_pos hlt]; exact hP.sub [0, 1, 2, 3] rfl
    have hD9 : va_D A [(hR, .inr (1, [.ref hF, .ref hE, .ref hQ, .int dk])), (hF, .inl (cI, 11, .inl (jb_evF F kd lv rd))), (hE, .inl (cI, 1500, .inl (jb_evE E ev (nI kd) lv x y rd))), (hQ, .inl (cI, 4000, .inl P))] := by rw [show jb_evE E ev (nI kd) lv x y rd = (upd (upd (upd (upd (upd E (ev * 5) (nI kd)) (ev * 5 + 1) lv) (ev * 5 + 2) x) (ev * 5 + 3) y) (ev * 5 + 4) rd) from if_pos hlt]; exact hD.sub [0, 1, 2, 3] (by decide) rfl
    exact W.vret hx hb hr (fun t ht hW => ⟨⟨(), rfl, trivial, by rw [ht]; exact hP9, hD9⟩, hS.F ht⟩) hS.2.2 dX1_addEvent_122
theorem iX1_takeMemory_X1 : ∀ w ∈ wsX10, w ∈ wsX1_takeMemory := by decide +kernel
set_option maxHeartbeats 1000000 in
set_option maxRecDepth 100000 in
/-- Report.takeMemory -/
theorem c_takeMemory (l : Launch) (dC : Nat → ClassId) (dI : Nat → Nat → Nat) (cI : ClassId) (sz : Nat) (hR hF hE hQ : Nat) (F E P : Nat → Int32) (dk : Int32) (x : Int32) : Met l yX1_takeMemory wsX1_takeMemory ({ frames := 2, cells := 0, slots := 0, locals := 80 } : Room) (va_Pc [.ref hR, .int x] (jb_M dC dI cI sz [(hR, .inr (1, [.ref hF, .ref hE, .ref hQ, .int dk])), (hF, .inl (cI, 11, .inl F)), (hE, .inl (cI, 1500, .inl E)), (hQ, .inl (cI, 4000, .inl P))])) (va_Qv (fun (_ : Unit) => True) (jb_B dC dI (va_A [(hR, .inr (1, [.ref hF, .ref hE, .ref hQ, .int dk])), (hF, .inl (cI, 11, .inl F)), (hE, .inl (cI, 1500, .inl E)), (hQ, .inl (cI, 4000, .inl P))] sz) (fun _ => [(hR, .inr (1, [.ref hF, .ref hE, .ref hQ, .int dk])), (hF, .inl (cI, 11, .inl (upd F 2 (if F 2 < x then x else F 2)))), (hE, .inl (cI, 1500, .inl E)), (hQ, .inl (cI, 4000, .inl P))])) (va_A [(hR, .inr (1, [.ref hF, .ref hE, .ref hQ, .int dk])), (hF, .inl (cI, 11, .inl F)), (hE, .inl (cI, 1500, .inl E)), (hQ, .inl (cI, 4000, .inl P))] sz)) 0 0 (va_A [(hR, .inr (1, [.ref hF, .ref hE, .ref hQ, .int dk])), (hF, .inl (cI, 11, .inl F)), (hE, .inl (cI, 1500, .inl E)), (hQ, .inl (cI, 4000, .inl P))] sz) := by
  refine Met.ofW (cc := cX1_takeMemory) (maxL := 2) (ret := none) (by decide) rfl ?_
  intro p e s m args below meth c s₁ B hml hv
  obtain ⟨rfl, hsz, hP, hK, hNw, hD0⟩ := hv
  have hx := B.exec
  have hb := B.bytes
  have hr := B.returns
  have hts := atoms_spec (ws := wsX1_takeMemory) B.pre
  have hown : s.vm.findClass RX1 = some m.cls := findClass_of_methodNamed B.named
  have hlocks := B.notSynchronized
  subst hsz
  have hD := hD0.self (sz := s.heap.size)
  generalize hAe : va_A [(hR, .inr (1, [.ref hF, .ref hE, .ref hQ, .int dk])), (hF, .inl (cI, 11, .inl F)), (hE, .inl (cI, 1500, .inl E)), (hQ, .inl (cI, 4000, .inl P))] s.heap.size = A at hD ⊢
  have hA : ∀ q : Nat, s.heap.size ≤ q → A q := fun q h => by rw [← hAe]; exact Or.inr h
  have hS : va_S A s.heap s.heap [] := va_S.rf
  have hP : va_P (dC, dI) vwCl [(hR, .inr (1, [.ref hF, .ref hE, .ref hQ, .int dk])), (hF, .inl (cI, 11, .inl F)), (hE, .inl (cI, 1500, .inl E)), (hQ, .inl (cI, 4000, .inl P))] s.heap := hP
  have hl := lv_entry ([.ref hR, .int x]) (n := 2) (Nat.le_of_ble_eq_true rfl)
  rw [lg_entry_eq]
  generalize (lg_sl ([.ref hR, .int x]) ++ List.replicate (2 - (lg_sl ([.ref hR, .int x])).length) Slot.unset).toArray = ls at hl ⊢
  have hl : lv_has ls 2 [(0, .ref hR), (1, .int x)] := hl
  refine lv_aload_n hx hb dX1_takeMemory_0 rfl (lv_at hl 0 rfl) ?_
  refine va_get (D := (dC, dI)) (ci := 1) (v := .ref hF) (C := RX1) (T := TX1) (N := 4) hx hb hts iX1_takeMemory_X1 hown hK hP 0 rfl rfl 0 (by decide) (hts (.fieldLink RX1 11 "JoinBench$Report" "figures" "[I") (by decide +kernel)) (fun _ h9 => h9) rfl dX1_takeMemory_1 ?_
  refine lv_iconst (v := 2) hx hb dX1_takeMemory_4 (by decide) ?_
  refine lv_aload_n hx hb dX1_takeMemory_5 rfl (lv_at hl 0 rfl) ?_
  refine va_get (D := (dC, dI)) (ci := 1) (v := .ref hF) (C := RX1) (T := TX1) (N := 4) hx hb hts iX1_takeMemory_X1 hown hK hP 0 rfl rfl 0 (by decide) (hts (.fieldLink RX1 11 "JoinBench$Report" "figures" "[I") (by decide +kernel)) (fun _ h9 => h9) rfl dX1_takeMemory_6 ?_
  refine lv_iconst (v := 2) hx hb dX1_takeMemory_9 (by decide) ?_
  refine va_iald hx hb hK hP 1 0 rfl rfl (i := 2) (by unfold vp_in; decide) dX1_takeMemory_10 ?_
  refine lv_topi (fun v_1 ev_1 => ?_)
  have hv_1 : v_1 = (F 2) := ev_1.trans (rfl)
  clear ev_1; subst hv_1
  refine lv_iload_n hx hb dX1_takeMemory_11 rfl (lv_at hl 1 rfl) ?_
  refine va_mmax hx hb (by rw [hml]; exact hl.1.symm) hown (hts (.methodLink RX1 31 Lib.Math.max.name) (by decide +kernel)) (hts (.static Lib.Math.max.name) (by decide +kernel)) (hts (.initialized "java/lang/Math") (by decide +kernel)) (hts (.code Lib.Math.max.name Lib.Math.max.code 2 (some .int)) (by decide +kernel)) (by decide +kernel) (Nat.le_of_ble_eq_true rfl) (Nat.zero_le _) (Nat.zero_le _) dX1_takeMemory_12 ?_
  refine va_iast hx hb hK hP hD hS 1 0 rfl rfl (i := 2) (x := (if (F 2) < x then x else (F 2))) (by unfold vp_in; decide) dX1_takeMemory_15 (fun H locs hP hD hS => ?_)
  rw [show (2 : Int32).toNatClampNeg = 2 from rfl] at hP hD
  have hP : va_P (dC, dI) vwCl [(hR, .inr (1, [.ref hF, .ref hE, .ref hQ, .int dk])), (hF, .inl (cI, 11, .inl (upd F 2 (if (F 2) < x then x else (F 2))))), (hE, .inl (cI, 1500, .inl E)), (hQ, .inl (cI, 4000, .inl P))] H := hP
  have hD : va_D A [(hR, .inr (1, [.ref hF, .ref hE, .ref hQ, .int dk])), (hF, .inl (cI, 11, .inl (upd F 2 (if (F 2) < x then x else (F 2))))), (hE, .inl (cI, 1500, .inl E)), (hQ, .inl (cI, 4000, .inl P))] := hD
  have hP9 : va_P (dC, dI) vwCl [(hR, .inr (1, [.ref hF, .ref hE, .ref hQ, .int dk])), (hF, .inl (cI, 11, .inl (upd F 2 (if F 2 < x then x else F 2)))), (hE, .inl (cI, 1500, .inl E)), (hQ, .inl (cI, 4000, .inl P))] H := hP.sub [0, 1, 2, 3] rfl
  have hD9 : va_D A [(hR, .inr (1, [.ref hF, .ref hE, .ref hQ, .int dk])), (hF, .inl (cI, 11, .inl (upd F 2 (if F 2 < x then x else F 2)))), (hE, .inl (cI, 1500, .inl E)), (hQ, .inl (cI, 4000, .inl P))] := hD.sub [0, 1, 2, 3] (by decide) rfl
  exact W.vret hx hb hr (fun t ht hW => ⟨⟨(), rfl, trivial, by rw [ht]; exact hP9, hD9⟩, hS.F ht⟩) hS.2.2 dX1_takeMemory_16
def jb_wdF (F : Nat → Int32) (dk x : Int32) : Nat → Int32 :=
  let F1 := upd F 1 (F 1 + x)
  upd F1 3 (if F1 3 < dk + x then dk + x else F1 3)
theorem iX1_writeToDisk_X1 : ∀ w ∈ wsX10, w ∈ wsX1_writeToDisk := by decide +kernel
set_option maxHeartbeats 1000000 in
set_option maxRecDepth 100000 in
/-- Report.writeToDisk -/
theorem c_writeToDisk (l : Launch) (dC : Nat → ClassId) (dI : Nat → Nat → Nat) (cI : ClassId) (sz : Nat) (hR hF hE hQ : Nat) (F E P : Nat → Int32) (dk : Int32) (x : Int32) : Met l yX1_writeToDisk wsX1_writeToDisk ({ frames := 2, cells := 0, slots := 0, locals := 80 } : Room) (va_Pc [.ref hR, .int x] (jb_M dC dI cI sz [(hR, .inr (1, [.ref hF, .ref hE, .ref hQ, .int dk])), (hF, .inl (cI, 11, .inl F)), (hE, .inl (cI, 1500, .inl E)), (hQ, .inl (cI, 4000, .inl P))])) (va_Qv (fun (_ : Unit) => True) (jb_B dC dI (va_A [(hR, .inr (1, [.ref hF, .ref hE, .ref hQ, .int dk])), (hF, .inl (cI, 11, .inl F)), (hE, .inl (cI, 1500, .inl E)), (hQ, .inl (cI, 4000, .inl P))] sz) (fun _ => [(hR, .inr (1, [.ref hF, .ref hE, .ref hQ, .int (dk + x)])), (hF, .inl (cI, 11, .inl (jb_wdF F dk x))), (hE, .inl (cI, 1500, .inl E)), (hQ, .inl (cI, 4000, .inl P))])) (va_A [(hR, .inr (1, [.ref hF, .ref hE, .ref hQ, .int dk])), (hF, .inl (cI, 11, .inl F)), (hE, .inl (cI, 1500, .inl E)), (hQ, .inl (cI, 4000, .inl P))] sz)) 0 0 (va_A [(hR, .inr (1, [.ref hF, .ref hE, .ref hQ, .int dk])), (hF, .inl (cI, 11, .inl F)), (hE, .inl (cI, 1500, .inl E)), (hQ, .inl (cI, 4000, .inl P))] sz) := by
  refine Met.ofW (cc := cX1_writeToDisk) (maxL := 2) (ret := none) (by decide) rfl ?_
  intro p e s m args below meth c s₁ B hml hv
  obtain ⟨rfl, hsz, hP, hK, hNw, hD0⟩ := hv
  have hx := B.exec
  have hb := B.bytes
  have hr := B.returns
  have hts := atoms_spec (ws := wsX1_writeToDisk) B.pre
  have hown : s.vm.findClass RX1 = some m.cls := findClass_of_methodNamed B.named
  have hlocks := B.notSynchronized
  subst hsz
  have hD := hD0.self (sz := s.heap.size)
  generalize hAe : va_A [(hR, .inr (1, [.ref hF, .ref hE, .ref hQ, .int dk])), (hF, .inl (cI, 11, .inl F)), (hE, .inl (cI, 1500, .inl E)), (hQ, .inl (cI, 4000, .inl P))] s.heap.size = A at hD ⊢
  have hA : ∀ q : Nat, s.heap.size ≤ q → A q := fun q h => by rw [← hAe]; exact Or.inr h
  have hS : va_S A s.heap s.heap [] := va_S.rf
  have hP : va_P (dC, dI) vwCl [(hR, .inr (1, [.ref hF, .ref hE, .ref hQ, .int dk])), (hF, .inl (cI, 11, .inl F)), (hE, .inl (cI, 1500, .inl E)), (hQ, .inl (cI, 4000, .inl P))] s.heap := hP
  have hl := lv_entry ([.ref hR, .int x]) (n := 2) (Nat.le_of_ble_eq_true rfl)
  rw [lg_entry_eq]
  generalize (lg_sl ([.ref hR, .int x]) ++ List.replicate (2 - (lg_sl ([.ref hR, .int x])).length) Slot.unset).toArray = ls at hl ⊢
  have hl : lv_has ls 2 [(0, .ref hR), (1, .int x)] := hl
  refine lv_aload_n hx hb dX1_writeToDisk_0 rfl (lv_at hl 0 rfl) ?_
  refine va_get (D := (dC, dI)) (ci := 1) (v := .ref hF) (C := RX1) (T := TX1) (N := 4) hx hb hts iX1_writeToDisk_X1 hown hK hP 0 rfl rfl 0 (by decide) (hts (.fieldLink RX1 11 "JoinBench$Report" "figures" "[I") (by decide +kernel)) (fun _ h9 => h9) rfl dX1_writeToDisk_1 ?_
  refine lv_iconst (v := 1) hx hb dX1_writeToDisk_4 (by decide) ?_
  refine lv_dup2_11 hx hb dX1_writeToDisk_5 rfl rfl ?_
  refine va_iald hx hb hK hP 1 0 rfl rfl (i := 1) (by unfold vp_in; decide) dX1_writeToDisk_6 ?_
  refine lv_topi (fun v_1 ev_1 => ?_)
  have hv_1 : v_1 = (F 1) := ev_1.trans (rfl)
  clear ev_1; subst hv_1
  refine lv_iload_n hx hb dX1_writeToDisk_7 rfl (lv_at hl 1 rfl) ?_
  refine lv_iadd hx hb dX1_writeToDisk_8 ?_
  refine va_iast hx hb hK hP hD hS 1 0 rfl rfl (i := 1) (x := ((F 1) + x)) (by unfold vp_in; decide) dX1_writeToDisk_9 (fun H locs hP hD hS => ?_)
  rw [show (1 : Int32).toNatClampNeg = 1 from rfl] at hP hD
  have hP : va_P (dC, dI) vwCl [(hR, .inr (1, [.ref hF, .ref hE, .ref hQ, .int dk])), (hF, .inl (cI, 11, .inl (upd F 1 ((F 1) + x)))), (hE, .inl (cI, 1500, .inl E)), (hQ, .inl (cI, 4000, .inl P))] H := hP
  have hD : va_D A [(hR, .inr (1, [.ref hF, .ref hE, .ref hQ, .int dk])), (hF, .inl (cI, 11, .inl (upd F 1 ((F 1) + x)))), (hE, .inl (cI, 1500, .inl E)), (hQ, .inl (cI, 4000, .inl P))] := hD
  refine lv_aload_n hx hb dX1_writeToDisk_10 rfl (lv_at hl 0 rfl) ?_
  refine lv_dup hx hb dX1_writeToDisk_11 rfl ?_
  refine va_get (D := (dC, dI)) (ci := 1) (v := .int dk) (C := RX1) (T := TX1) (N := 4) hx hb hts iX1_writeToDisk_X1 hown hK hP 0 rfl rfl 3 (by decide) (hts (.fieldLink RX1 21 "JoinBench$Report" "onDisk" "I") (by decide +kernel)) (fun _ h9 => h9) rfl dX1_writeToDisk_12 ?_
  refine lv_iload_n hx hb dX1_writeToDisk_15 rfl (lv_at hl 1 rfl) ?_
  refine lv_iadd hx hb dX1_writeToDisk_16 ?_
  refine va_put (D := (dC, dI)) (ci := 1) (v := .int (dk + x)) (ty := .int) (C := RX1) (T := TX1) (N := 4) hx hb hts iX1_writeToDisk_X1 tyX1 tyX1_ok nmX1 hown hK hP hD hS 0 rfl rfl 3 (by decide) (hts (.fieldLink RX1 21 "JoinBench$Report" "onDisk" "I") (by decide +kernel)) (fun _ h9 => h9) rfl (by decide +kernel) rfl rfl (Nat.le_of_ble_eq_true rfl) dX1_writeToDisk_17 (fun H locs hP hD hS => ?_)
  have hP : va_P (dC, dI) vwCl [(hR, .inr (1, [.ref hF, .ref hE, .ref hQ, .int (dk + x)])), (hF, .inl (cI, 11, .inl (upd F 1 ((F 1) + x)))), (hE, .inl (cI, 1500, .inl E)), (hQ, .inl (cI, 4000, .inl P))] H := hP
  have hD : va_D A [(hR, .inr (1, [.ref hF, .ref hE, .ref hQ, .int (dk + x)])), (hF, .inl (cI, 11, .inl (upd F 1 ((F 1) + x)))), (hE, .inl (cI, 1500, .inl E)), (hQ, .inl (cI, 4000, .inl P))] := hD
  refine lv_aload_n hx hb dX1_writeToDisk_20 rfl (lv_at hl 0 rfl) ?_
  refine va_get (D := (dC, dI)) (ci := 1) (v := .ref hF) (C := RX1) (T := TX1) (N := 4) hx hb hts iX1_writeToDisk_X1 hown hK hP 0 rfl rfl 0 (by decide) (hts (.fieldLink RX1 11 "JoinBench$Report" "figures" "[I") (by decide +kernel)) (fun _ h9 => h9) rfl dX1_writeToDisk_21 ?_
  refine lv_iconst (v := 3) hx hb dX1_writeToDisk_24 (by decide) ?_
  refine lv_aload_n hx hb dX1_writeToDisk_25 rfl (lv_at hl 0 rfl) ?_
  refine va_get (D := (dC, dI)) (ci := 1) (v := .ref hF) (C := RX1) (T := TX1) (N := 4) hx hb hts iX1_writeToDisk_X1 hown hK hP 0 rfl rfl 0 (by decide) (hts (.fieldLink RX1 11 "JoinBench$Report" "figures" "[I") (by decide +kernel)) (fun _ h9 => h9) rfl dX1_writeToDisk_26 ?_
  refine lv_iconst (v := 3) hx hb dX1_writeToDisk_29 (by decide) ?_
  refine va_iald hx hb hK hP 1 0 rfl rfl (i := 3) (by unfold vp_in; decide) dX1_writeToDisk_30 ?_
  refine lv_topi (fun v_2 ev_2 => ?_)
  have hv_2 : v_2 = ((upd F 1 ((F 1) + x)) 3) := ev_2.trans (rfl)
  clear ev_2; subst hv_2
  refine lv_aload_n hx hb dX1_writeToDisk_31 rfl (lv_at hl 0 rfl) ?_
  refine va_get (D := (dC, dI)) (ci := 1) (v := .int (dk + x)) (C := RX1) (T := TX1) (N := 4) hx hb hts iX1_writeToDisk_X1 hown hK hP 0 rfl rfl 3 (by decide) (hts (.fieldLink RX1 21 "JoinBench$Report" "onDisk" "I") (by decide +kernel)) (fun _ h9 => h9) rfl dX1_writeToDisk_32 ?_
  refine va_mmax hx hb (by rw [hml]; exact hl.1.symm) hown (hts (.methodLink RX1 31 Lib.Math.max.name) (by decide +kernel)) (hts (.static Lib.Math.max.name) (by decide +kernel)) (hts (.initialized "java/lang/Math") (by decide +kernel)) (hts (.code Lib.Math.max.name Lib.Math.max.code 2 (some .int)) (by decide +kernel)) (by decide +kernel) (Nat.le_of_ble_eq_true rfl) (Nat.zero_le _) (Nat.zero_le _) dX1_writeToDisk_35 ?_
  refine va_iast hx hb hK hP hD hS 1 0 rfl rfl (i := 3) (x := (if ((upd F 1 ((F 1) + x)) 3) < (dk + x) then (dk + x) else ((upd F 1 ((F 1) + x)) 3))) (by unfold vp_in; decide) dX1_writeToDisk_38 (fun H locs hP hD hS => ?_)
  rw [show (3 : Int32).toNatClampNeg = 3 from rfl] at hP hD
  have hP : va_P (dC, dI) vwCl [(hR, .inr (1, [.ref hF, .ref hE, .ref hQ, .int (dk + x)])), (hF, .inl (cI, 11, .inl (upd (upd F 1 ((F 1) + x)) 3 (if ((upd F 1 ((F 1) + x)) 3) < (dk + x) then (dk + x) else ((upd F 1 ((F 1) + x)) 3))))), (hE, .inl (cI, 1500, .inl E)), (hQ, .inl (cI, 4000, .inl P))] H := hP
  have hD : va_D A [(hR, .inr (1, [.ref hF, .ref hE, .ref hQ, .int (dk + x)])), (hF, .inl (cI, 11, .inl (upd (upd F 1 ((F 1) + x)) 3 (if ((upd F 1 ((F 1) + x)) 3) < (dk + x) then (dk + x) else ((upd F 1 ((F 1) + x)) 3))))), (hE, .inl (cI, 1500, .inl E)), (hQ, .inl (cI, 4000, .inl P))] := hD
  have hP9 : va_P (dC, dI) vwCl [(hR, .inr (1, [.ref hF, .ref hE, .ref hQ, .int (dk + x)])), (hF, .inl (cI, 11, .inl (jb_wdF F dk x))), (hE, .inl (cI, 1500, .inl E)), (hQ, .inl (cI, 4000, .inl P))] H := hP.sub [0, 1, 2, 3] rfl
  have hD9 : va_D A [(hR, .inr (1, [.ref hF, .ref hE, .ref hQ, .int (dk + x)])), (hF, .inl (cI, 11, .inl (jb_wdF F dk x))), (hE, .inl (cI, 1500, .inl E)), (hQ, .inl (cI, 4000, .inl P))] := hD.sub [0, 1, 2, 3] (by decide) rfl
  exact W.vret hx hb hr (fun t ht hW => ⟨⟨(), rfl, trivial, by rw [ht]; exact hP9, hD9⟩, hS.F ht⟩) hS.2.2 dX1_writeToDisk_39
theorem iX1_freeDisk_X1 : ∀ w ∈ wsX10, w ∈ wsX1_freeDisk := by decide +kernel
set_option maxHeartbeats 1000000 in
set_option maxRecDepth 100000 in
/-- Report.freeDisk -/
theorem c_freeDisk (l : Launch) (dC : Nat → ClassId) (dI : Nat → Nat → Nat) (cI : ClassId) (sz : Nat) (hR hF hE hQ : Nat) (F E P : Nat → Int32) (dk : Int32) (x : Int32) : Met l yX1_freeDisk wsX1_freeDisk ({ frames := 1, cells := 0, slots := 0, locals := 40 } : Room) (va_Pc [.ref hR, .int x] (jb_M dC dI cI sz [(hR, .inr (1, [.ref hF, .ref hE, .ref hQ, .int dk])), (hF, .inl (cI, 11, .inl F)), (hE, .inl (cI, 1500, .inl E)), (hQ, .inl (cI, 4000, .inl P))])) (va_Qv (fun (_ : Unit) => True) (jb_B dC dI (va_A [(hR, .inr (1, [.ref hF, .ref hE, .ref hQ, .int dk])), (hF, .inl (cI, 11, .inl F)), (hE, .inl (cI, 1500, .inl E)), (hQ, .inl (cI, 4000, .inl P))] sz) (fun _ => [(hR, .inr (1, [.ref hF, .ref hE, .ref hQ, .int (dk - x)])), (hF, .inl (cI, 11, .inl F)), (hE, .inl (cI, 1500, .inl E)), (hQ, .inl (cI, 4000, .inl P))])) (va_A [(hR, .inr (1, [.ref hF, .ref hE, .ref hQ, .int dk])), (hF, .inl (cI, 11, .inl F)), (hE, .inl (cI, 1500, .inl E)), (hQ, .inl (cI, 4000, .inl P))] sz)) 0 0 (va_A [(hR, .inr (1, [.ref hF, .ref hE, .ref hQ, .int dk])), (hF, .inl (cI, 11, .inl F)), (hE, .inl (cI, 1500, .inl E)), (hQ, .inl (cI, 4000, .inl P))] sz) := by
  refine Met.ofW (cc := cX1_freeDisk) (maxL := 2) (ret := none) (by decide) rfl ?_
  intro p e s m args below meth c s₁ B hml hv
  obtain ⟨rfl, hsz, hP, hK, hNw, hD0⟩ := hv
  have hx := B.exec
  have hb := B.bytes
  have hr := B.returns
  have hts := atoms_spec (ws := wsX1_freeDisk) B.pre
  have hown : s.vm.findClass RX1 = some m.cls := findClass_of_methodNamed B.named
  have hlocks := B.notSynchronized
  subst hsz
  have hD := hD0.self (sz := s.heap.size)
  generalize hAe : va_A [(hR, .inr (1, [.ref hF, .ref hE, .ref hQ, .int dk])), (hF, .inl (cI, 11, .inl F)), (hE, .inl (cI, 1500, .inl E)), (hQ, .inl (cI, 4000, .inl P))] s.heap.size = A at hD ⊢
  have hA : ∀ q : Nat, s.heap.size ≤ q → A q := fun q h => by rw [← hAe]; exact Or.inr h
  have hS : va_S A s.heap s.heap [] := va_S.rf
  have hP : va_P (dC, dI) vwCl [(hR, .inr (1, [.ref hF, .ref hE, .ref hQ, .int dk])), (hF, .inl (cI, 11, .inl F)), (hE, .inl (cI, 1500, .inl E)), (hQ, .inl (cI, 4000, .inl P))] s.heap := hP
  have hl := lv_entry ([.ref hR, .int x]) (n := 2) (Nat.le_of_ble_eq_true rfl)
  rw [lg_entry_eq]
  generalize (lg_sl ([.ref hR, .int x]) ++ List.replicate (2 - (lg_sl ([.ref hR, .int x])).length) Slot.unset).toArray = ls at hl ⊢
  have hl : lv_has ls 2 [(0, .ref hR), (1, .int x)] := hl
  refine lv_aload_n hx hb dX1_freeDisk_0 rfl (lv_at hl 0 rfl) ?_
  refine lv_dup hx hb dX1_freeDisk_1 rfl ?_
  refine va_get (D := (dC, dI)) (ci := 1) (v := .int dk) (C := RX1) (T := TX1) (N := 4) hx hb hts iX1_freeDisk_X1 hown hK hP 0 rfl rfl 3 (by decide) (hts (.fieldLink RX1 21 "JoinBench$Report" "onDisk" "I") (by decide +kernel)) (fun _ h9 => h9) rfl dX1_freeDisk_2 ?_
  refine lv_iload_n hx hb dX1_freeDisk_5 rfl (lv_at hl 1 rfl) ?_
  refine lv_isub hx hb dX1_freeDisk_6 ?_
  refine va_put (D := (dC, dI)) (ci := 1) (v := .int (dk - x)) (ty := .int) (C := RX1) (T := TX1) (N := 4) hx hb hts iX1_freeDisk_X1 tyX1 tyX1_ok nmX1 hown hK hP hD hS 0 rfl rfl 3 (by decide) (hts (.fieldLink RX1 21 "JoinBench$Report" "onDisk" "I") (by decide +kernel)) (fun _ h9 => h9) rfl (by decide +kernel) rfl rfl (Nat.le_of_ble_eq_true rfl) dX1_freeDisk_7 (fun H locs hP hD hS => ?_)
  have hP : va_P (dC, dI) vwCl [(hR, .inr (1, [.ref hF, .ref hE, .ref hQ, .int (dk - x)])), (hF, .inl (cI, 11, .inl F)), (hE, .inl (cI, 1500, .inl E)), (hQ, .inl (cI, 4000, .inl P))] H := hP
  have hD : va_D A [(hR, .inr (1, [.ref hF, .ref hE, .ref hQ, .int (dk - x)])), (hF, .inl (cI, 11, .inl F)), (hE, .inl (cI, 1500, .inl E)), (hQ, .inl (cI, 4000, .inl P))] := hD
  have hP9 : va_P (dC, dI) vwCl [(hR, .inr (1, [.ref hF, .ref hE, .ref hQ, .int (dk - x)])), (hF, .inl (cI, 11, .inl F)), (hE, .inl (cI, 1500, .inl E)), (hQ, .inl (cI, 4000, .inl P))] H := hP.sub [0, 1, 2, 3] rfl
  have hD9 : va_D A [(hR, .inr (1, [.ref hF, .ref hE, .ref hQ, .int (dk - x)])), (hF, .inl (cI, 11, .inl F)), (hE, .inl (cI, 1500, .inl E)), (hQ, .inl (cI, 4000, .inl P))] := hD.sub [0, 1, 2, 3] (by decide) rfl
  exact W.vret hx hb hr (fun t ht hW => ⟨⟨(), rfl, trivial, by rw [ht]; exact hP9, hD9⟩, hS.F ht⟩) hS.2.2 dX1_freeDisk_10
theorem iX1_addPair_X1 : ∀ w ∈ wsX10, w ∈ wsX1_addPair := by decide +kernel
set_option maxHeartbeats 1000000 in
set_option maxRecDepth 100000 in
/-- Report.addPair -/
theorem c_addPair (l : Launch) (dC : Nat → ClassId) (dI : Nat → Nat → Nat) (cI : ClassId) (sz : Nat) (hR hF hE hQ : Nat) (F E P : Nat → Int32) (dk : Int32) (np : Nat) (x y : Int32) (hnp : F 10 = nI np) (hb1 : np < 1000000) : Met l yX1_addPair wsX1_addPair ({ frames := 1, cells := 0, slots := 0, locals := 40 } : Room) (va_Pc [.ref hR, .int x, .int y] (jb_M dC dI cI sz [(hR, .inr (1, [.ref hF, .ref hE, .ref hQ, .int dk])), (hF, .inl (cI, 11, .inl F)), (hE, .inl (cI, 1500, .inl E)), (hQ, .inl (cI, 4000, .inl P))])) (va_Qv (fun (_ : Unit) => True) (jb_B dC dI (va_A [(hR, .inr (1, [.ref hF, .ref hE, .ref hQ, .int dk])), (hF, .inl (cI, 11, .inl F)), (hE, .inl (cI, 1500, .inl E)), (hQ, .inl (cI, 4000, .inl P))] sz) (fun _ => [(hR, .inr (1, [.ref hF, .ref hE, .ref hQ, .int dk])), (hF, .inl (cI, 11, .inl (upd F 10 (F 10 + 1)))), (hE, .inl (cI, 1500, .inl E)), (hQ, .inl (cI, 4000, .inl (jb_adP P np x y)))])) (va_A [(hR, .inr (1, [.ref hF, .ref hE, .ref hQ, .int dk])), (hF, .inl (cI, 11, .inl F)), (hE, .inl (cI, 1500, .inl E)), (hQ, .inl (cI, 4000, .inl P))] sz)) 0 0 (va_A [(hR, .inr (1, [.ref hF, .ref hE, .ref hQ, .int dk])), (hF, .inl (cI, 11, .inl F)), (hE, .inl (cI, 1500, .inl E)), (hQ, .inl (cI, 4000, .inl P))] sz) := by
  refine Met.ofW (cc := cX1_addPair) (maxL := 4) (ret := none) (by decide) rfl ?_
  intro p e s m args below meth c s₁ B hml hv
  obtain ⟨rfl, hsz, hP, hK, hNw, hD0⟩ := hv
  have hx := B.exec
  have hb := B.bytes
  have hr := B.returns
  have hts := atoms_spec (ws := wsX1_addPair) B.pre
  have hown : s.vm.findClass RX1 = some m.cls := findClass_of_methodNamed B.named
  have hlocks := B.notSynchronized
  subst hsz
  have hD := hD0.self (sz := s.heap.size)
  generalize hAe : va_A [(hR, .inr (1, [.ref hF, .ref hE, .ref hQ, .int dk])), (hF, .inl (cI, 11, .inl F)), (hE, .inl (cI, 1500, .inl E)), (hQ, .inl (cI, 4000, .inl P))] s.heap.size = A at hD ⊢
  have hA : ∀ q : Nat, s.heap.size ≤ q → A q := fun q h => by rw [← hAe]; exact Or.inr h
  have hS : va_S A s.heap s.heap [] := va_S.rf
  have hP : va_P (dC, dI) vwCl [(hR, .inr (1, [.ref hF, .ref hE, .ref hQ, .int dk])), (hF, .inl (cI, 11, .inl F)), (hE, .inl (cI, 1500, .inl E)), (hQ, .inl (cI, 4000, .inl P))] s.heap := hP
  have hl := lv_entry ([.ref hR, .int x, .int y]) (n := 4) (Nat.le_of_ble_eq_true rfl)
  rw [lg_entry_eq]
  generalize (lg_sl ([.ref hR, .int x, .int y]) ++ List.replicate (4 - (lg_sl ([.ref hR, .int x, .int y])).length) Slot.unset).toArray = ls at hl ⊢
  have hl : lv_has ls 4 [(0, .ref hR), (1, .int x), (2, .int y)] := hl
  refine lv_aload_n hx hb dX1_addPair_0 rfl (lv_at hl 0 rfl) ?_
  refine va_get (D := (dC, dI)) (ci := 1) (v := .ref hF) (C := RX1) (T := TX1) (N := 4) hx hb hts iX1_addPair_X1 hown hK hP 0 rfl rfl 0 (by decide) (hts (.fieldLink RX1 11 "JoinBench$Report" "figures" "[I") (by decide +kernel)) (fun _ h9 => h9) rfl dX1_addPair_1 ?_
  refine lv_bipush (v := 10) hx hb dX1_addPair_4 (by decide) ?_
  refine va_iald hx hb hK hP 1 0 rfl rfl (i := 10) (by unfold vp_in; decide) dX1_addPair_6 ?_
  refine lv_topi (fun v_1 ev_1 => ?_)
  have hv_1 : v_1 = nI np := ev_1.trans (hnp)
  clear ev_1; subst hv_1
  refine lv_istore_n (lv' := [(3, .int (nI np)), (0, .ref hR), (1, .int x), (2, .int y)]) hx hb dX1_addPair_7 rfl hl (by decide) rfl (fun ls hl => ?_)
  refine lv_iload_n hx hb dX1_addPair_8 rfl (lv_at hl 0 rfl) ?_
  refine lv_sipush (v := 4000) hx hb dX1_addPair_9 (by decide) ?_
  refine lv_icmp_ge (tgt := 27) hx hb dX1_addPair_12 (by decide) (fun c_12 => ?_) (fun c_12 => ?_)
  · have hge : ¬ np < 4000 := fun h => absurd c_12 ((jb_nle (a := 4000) (b := np) (by omega) (by omega)).mpr h)
    refine lv_aload_n hx hb dX1_addPair_27 rfl (lv_at hl 1 rfl) ?_
    refine va_get (D := (dC, dI)) (ci := 1) (v := .ref hF) (C := RX1) (T := TX1) (N := 4) hx hb hts iX1_addPair_X1 hown hK hP 0 rfl rfl 0 (by decide) (hts (.fieldLink RX1 11 "JoinBench$Report" "figures" "[I") (by decide +kernel)) (fun _ h9 => h9) rfl dX1_addPair_28 ?_
    refine lv_bipush (v := 10) hx hb dX1_addPair_31 (by decide) ?_
    refine lv_dup2_11 hx hb dX1_addPair_33 rfl rfl ?_
    refine va_iald hx hb hK hP 1 0 rfl rfl (i := 10) (by unfold vp_in; decide) dX1_addPair_34 ?_
    refine lv_topi (fun v_2 ev_2 => ?_)
    have hv_2 : v_2 = (F 10) := ev_2.trans (rfl)
    clear ev_2; subst hv_2
    refine lv_iconst (v := 1) hx hb dX1_addPair_35 (by decide) ?_
    refine lv_iadd hx hb dX1_addPair_36 ?_
    refine va_iast hx hb hK hP hD hS 1 0 rfl rfl (i := 10) (x := ((F 10) + 1)) (by unfold vp_in; decide) dX1_addPair_37 (fun H locs hP hD hS => ?_)
    rw [show (10 : Int32).toNatClampNeg = 10 from rfl] at hP hD
    have hP : va_P (dC, dI) vwCl [(hR, .inr (1, [.ref hF, .ref hE, .ref hQ, .int dk])), (hF, .inl (cI, 11, .inl (upd F 10 ((F 10) + 1)))), (hE, .inl (cI, 1500, .inl E)), (hQ, .inl (cI, 4000, .inl P))] H := hP
    have hD : va_D A [(hR, .inr (1, [.ref hF, .ref hE, .ref hQ, .int dk])), (hF, .inl (cI, 11, .inl (upd F 10 ((F 10) + 1)))), (hE, .inl (cI, 1500, .inl E)), (hQ, .inl (cI, 4000, .inl P))] := hD
    have hP9 : va_P (dC, dI) vwCl [(hR, .inr (1, [.ref hF, .ref hE, .ref hQ, .int dk])), (hF, .inl (cI, 11, .inl (upd F 10 (F 10 + 1)))), (hE, .inl (cI, 1500, .inl E)), (hQ, .inl (cI, 4000, .inl (jb_adP P np x y)))] H := by rw [show jb_adP P np x y = P from if_neg hge]; exact hP.sub [0, 1, 2, 3] rfl
    have hD9 : va_D A [(hR, .inr (1, [.ref hF, .ref hE, .ref hQ, .int dk])), (hF, .inl (cI, 11, .inl (upd F 10 (F 10 + 1)))), (hE, .inl (cI, 1500, .inl E)), (hQ, .inl (cI, 4000, .inl (jb_adP P np x y)))] := by rw [show jb_adP P np x y = P from if_neg hge]; exact hD.sub [0, 1, 2, 3] (by decide) rfl
    exact W.vret hx hb hr (fun t ht hW => ⟨⟨(), rfl, trivial, by rw [ht]; exact hP9, hD9⟩, hS.F ht⟩) hS.2.2 dX1_addPair_38
  · have hlt : np < 4000 := (jb_nle (a := 4000) (b := np) (by omega) (by omega)).mp c_12
    refine lv_aload_n hx hb dX1_addPair_15 rfl (lv_at hl 1 rfl) ?_
    refine va_get (D := (dC, dI)) (ci := 1) (v := .ref hQ) (C := RX1) (T := TX1) (N := 4) hx hb hts iX1_addPair_X1 hown hK hP 0 rfl rfl 2 (by decide) (hts (.fieldLink RX1 18 "JoinBench$Report" "pairs" "[I") (by decide +kernel)) (fun _ h9 => h9) rfl dX1_addPair_16 ?_
    refine lv_iload_n hx hb dX1_addPair_19 rfl (lv_at hl 0 rfl) ?_
    refine lv_iload_n hx hb dX1_addPair_20 rfl (lv_at hl 2 rfl) ?_
    refine lv_bipush (v := 9) hx hb dX1_addPair_21 (by decide) ?_
    refine lv_ishl hx hb dX1_addPair_23 ?_
    refine lv_iload_n hx hb dX1_addPair_24 rfl (lv_at hl 3 rfl) ?_
    refine lv_ior hx hb dX1_addPair_25 ?_
    refine va_iast hx hb hK hP hD hS 3 0 rfl rfl (i := nI np) (x := ((x <<< (9 &&& 31)) ||| y)) (vp_in_nI (n := np) (by omega) (by decide)) dX1_addPair_26 (fun H locs hP hD hS => ?_)
    rw [show (nI np : Int32).toNatClampNeg = np from nI_clamp (by omega)] at hP hD
    have hP : va_P (dC, dI) vwCl [(hR, .inr (1, [.ref hF, .ref hE, .ref hQ, .int dk])), (hF, .inl (cI, 11, .inl F)), (hE, .inl (cI, 1500, .inl E)), (hQ, .inl (cI, 4000, .inl (upd P np ((x <<< (9 &&& 31)) ||| y))))] H := hP
    have hD : va_D A [(hR, .inr (1, [.ref hF, .ref hE, .ref hQ, .int dk])), (hF, .inl (cI, 11, .inl F)), (hE, .inl (cI, 1500, .inl E)), (hQ, .inl (cI, 4000, .inl (upd P np ((x <<< (9 &&& 31)) ||| y))))] := hD
    refine lv_aload_n hx hb dX1_addPair_27 rfl (lv_at hl 1 rfl) ?_
    refine va_get (D := (dC, dI)) (ci := 1) (v := .ref hF) (C := RX1) (T := TX1) (N := 4) hx hb hts iX1_addPair_X1 hown hK hP 0 rfl rfl 0 (by decide) (hts (.fieldLink RX1 11 "JoinBench$Report" "figures" "[I") (by decide +kernel)) (fun _ h9 => h9) rfl dX1_addPair_28 ?_
    refine lv_bipush (v := 10) hx hb dX1_addPair_31 (by decide) ?_
    refine lv_dup2_11 hx hb dX1_addPair_33 rfl rfl ?_
    refine va_iald hx hb hK hP 1 0 rfl rfl (i := 10) (by unfold vp_in; decide) dX1_addPair_34 ?_
    refine lv_topi (fun v_3 ev_3 => ?_)
    have hv_3 : v_3 = (F 10) := ev_3.trans (rfl)
    clear ev_3; subst hv_3
    refine lv_iconst (v := 1) hx hb dX1_addPair_35 (by decide) ?_
    refine lv_iadd hx hb dX1_addPair_36 ?_
    refine va_iast hx hb hK hP hD hS 1 0 rfl rfl (i := 10) (x := ((F 10) + 1)) (by unfold vp_in; decide) dX1_addPair_37 (fun H locs hP hD hS => ?_)
    rw [show (10 : Int32).toNatClampNeg = 10 from rfl] at hP hD
    have hP : va_P (dC, dI) vwCl [(hR, .inr (1, [.ref hF, .ref hE, .ref hQ, .int dk])), (hF, .inl (cI, 11, .inl (upd F 10 ((F 10) + 1)))), (hE, .inl (cI, 1500, .inl E)), (hQ, .inl (cI, 4000, .inl (upd P np ((x <<< (9 &&& 31)) ||| y))))] H := hP
    have hD : va_D A [(hR, .inr (1, [.ref hF, .ref hE, .ref hQ, .int dk])), (hF, .inl (cI, 11, .inl (upd F 10 ((F 10) + 1)))), (hE, .inl (cI, 1500, .inl E)), (hQ, .inl (cI, 4000, .inl (upd P np ((x <<< (9 &&& 31)) ||| y))))] := hD
    have hP9 : va_P (dC, dI) vwCl [(hR, .inr (1, [.ref hF, .ref hE, .ref hQ, .int dk])), (hF, .inl (cI, 11, .inl (upd F 10 (F 10 + 1)))), (hE, .inl (cI, 1500, .inl E)), (hQ, .inl (cI, 4000, .inl (jb_adP P np x y)))] H := by rw [show jb_adP P np x y = (upd P np ((x <<< (9 &&& 31)) ||| y)) from if_pos hlt]; exact hP.sub [0, 1, 2, 3] rfl
    have hD9 : va_D A [(hR, .inr (1, [.ref hF, .ref hE, .ref hQ, .int dk])), (hF, .inl (cI, 11, .inl (upd F 10 (F 10 + 1)))), (hE, .inl (cI, 1500, .inl E)), (hQ, .inl (cI, 4000, .inl (jb_adP P np x y)))] := by rw [show jb_adP P np x y = (upd P np ((x <<< (9 &&& 31)) ||| y)) from if_pos hlt]; exact hD.sub [0, 1, 2, 3] (by decide) rfl
    exact W.vret hx hb hr (fun t ht hW => ⟨⟨(), rfl, trivial, by rw [ht]; exact hP9, hD9⟩, hS.F ht⟩) hS.2.2 dX1_addPair_38
theorem iX1_pairsOrFull_X1 : ∀ w ∈ wsX10, w ∈ wsX1_pairsOrFull := by decide +kernel
set_option maxHeartbeats 1000000 in
set_option maxRecDepth 100000 in
/-- Report.pairsOrFull() -/
theorem c_pairsOrFull (l : Launch) (dC : Nat → ClassId) (dI : Nat → Nat → Nat) (cI : ClassId) (hR hF hE hQ : Nat) (F E P : Nat → Int32) (dk : Int32) : Met l yX1_pairsOrFull wsX1_pairsOrFull ({ frames := 1, cells := 0, slots := 0, locals := 40 } : Room) (va_Pc [.ref hR] (jb_R dC dI cI [(hR, .inr (1, [.ref hF, .ref hE, .ref hQ, .int dk])), (hF, .inl (cI, 11, .inl F)), (hE, .inl (cI, 1500, .inl E)), (hQ, .inl (cI, 4000, .inl P))])) (vp_Si (fun r => r = jb_pof (F 10))) 0 0 (fun _ => False) := by
  refine Met.ofW (cc := cX1_pairsOrFull) (maxL := 1) (ret := (some .int)) (by decide) rfl ?_
  intro p e s m args below meth c s₁ B hml hv
  obtain ⟨rfl, hP, hK, hNw⟩ := hv
  have hx := B.exec
  have hb := B.bytes
  have hr := B.returns
  have hts := atoms_spec (ws := wsX1_pairsOrFull) B.pre
  have hown : s.vm.findClass RX1 = some m.cls := findClass_of_methodNamed B.named
  have hlocks := B.notSynchronized
  have hl := lv_entry ([.ref hR]) (n := 1) (Nat.le_of_ble_eq_true rfl)
  rw [lg_entry_eq]
  generalize (lg_sl ([.ref hR]) ++ List.replicate (1 - (lg_sl ([.ref hR])).length) Slot.unset).toArray = ls at hl ⊢
  have hl : lv_has ls 1 [(0, .ref hR)] := hl
  refine lv_aload_n hx hb dX1_pairsOrFull_0 rfl (lv_at hl 0 rfl) ?_
  refine va_get (D := (dC, dI)) (ci := 1) (v := .ref hF) (C := RX1) (T := TX1) (N := 4) hx hb hts iX1_pairsOrFull_X1 hown hK hP 0 rfl rfl 0 (by decide) (hts (.fieldLink RX1 11 "JoinBench$Report" "figures" "[I") (by decide +kernel)) (fun _ h9 => h9) rfl dX1_pairsOrFull_1 ?_
  refine lv_bipush (v := 10) hx hb dX1_pairsOrFull_4 (by decide) ?_
  refine va_iald hx hb hK hP 1 0 rfl rfl (i := 10) (by unfold vp_in; decide) dX1_pairsOrFull_6 ?_
  refine lv_topi (fun v_1 ev_1 => ?_)
  have hv_1 : v_1 = (F 10) := ev_1.trans (rfl)
  clear ev_1; subst hv_1
  refine lv_sipush (v := 4000) hx hb dX1_pairsOrFull_7 (by decide) ?_
  refine lv_icmp_le (tgt := 18) hx hb dX1_pairsOrFull_10 (by decide) (fun c_10 => ?_) (fun c_10 => ?_)
  · refine lv_aload_n hx hb dX1_pairsOrFull_18 rfl (lv_at hl 0 rfl) ?_
    refine va_get (D := (dC, dI)) (ci := 1) (v := .ref hF) (C := RX1) (T := TX1) (N := 4) hx hb hts iX1_pairsOrFull_X1 hown hK hP 0 rfl rfl 0 (by decide) (hts (.fieldLink RX1 11 "JoinBench$Report" "figures" "[I") (by decide +kernel)) (fun _ h9 => h9) rfl dX1_pairsOrFull_19 ?_
    refine lv_bipush (v := 10) hx hb dX1_pairsOrFull_22 (by decide) ?_
    refine va_iald hx hb hK hP 1 0 rfl rfl (i := 10) (by unfold vp_in; decide) dX1_pairsOrFull_24 ?_
    refine lv_topi (fun v_2 ev_2 => ?_)
    have hv_2 : v_2 = (F 10) := ev_2.trans (rfl)
    clear ev_2; subst hv_2
    exact W.iret (v := (F 10)) hx hb hr (fun t ht hW => ⟨_, rfl, (if_neg (Int32.not_lt.mpr c_10)).symm, ht⟩) (fun _ h => by cases h) dX1_pairsOrFull_25
  · refine lv_bipush (v := (-2)) hx hb dX1_pairsOrFull_13 (by decide) ?_
    refine lv_goto (tgt := 25) hx hb dX1_pairsOrFull_15 (by decide) ?_
    exact W.iret (v := (-2)) hx hb hr (fun t ht hW => ⟨_, rfl, (if_pos (Int32.not_le.mp c_10)).symm, ht⟩) (fun _ h => by cases h) dX1_pairsOrFull_25
set_option maxHeartbeats 1000000 in
set_option maxRecDepth 100000 in
/-- Report.hasPair(i) -/
theorem c_hasPair (l : Launch) (dC : Nat → ClassId) (dI : Nat → Nat → Nat) (cI : ClassId) (hR hF hE hQ : Nat) (F E P : Nat → Int32) (dk : Int32) (i : Int32) : Met l yX1_hasPair wsX1_hasPair ({ frames := 2, cells := 0, slots := 0, locals := 80 } : Room) (va_Pc [.ref hR, .int i] (jb_R dC dI cI [(hR, .inr (1, [.ref hF, .ref hE, .ref hQ, .int dk])), (hF, .inl (cI, 11, .inl F)), (hE, .inl (cI, 1500, .inl E)), (hQ, .inl (cI, 4000, .inl P))])) (vp_Si (fun r => r = jb_has F i)) 0 0 (fun _ => False) := by
  refine Met.ofW (cc := cX1_hasPair) (maxL := 2) (ret := (some .boolean)) (by decide) rfl ?_
  intro p e s m args below meth c s₁ B hml hv
  obtain ⟨rfl, hP, hK, hNw⟩ := hv
  have hx := B.exec
  have hb := B.bytes
  have hr := B.returns
  have hts := atoms_spec (ws := wsX1_hasPair) B.pre
  have hown : s.vm.findClass RX1 = some m.cls := findClass_of_methodNamed B.named
  have hlocks := B.notSynchronized
  have hl := lv_entry ([.ref hR, .int i]) (n := 2) (Nat.le_of_ble_eq_true rfl)
  rw [lg_entry_eq]
  generalize (lg_sl ([.ref hR, .int i]) ++ List.replicate (2 - (lg_sl ([.ref hR, .int i])).length) Slot.unset).toArray = ls at hl ⊢
  have hl : lv_has ls 2 [(0, .ref hR), (1, .int i)] := hl
  refine lv_iload_n hx hb dX1_hasPair_0 rfl (lv_at hl 1 rfl) ?_
  refine lv_if_lt (tgt := 16) hx hb dX1_hasPair_1 (by decide) (fun c_1 => ?_) (fun c_1 => ?_)
  · refine lv_iconst (v := 0) hx hb dX1_hasPair_16 (by decide) ?_
    exact W.zret (v := 0) hx hb hr (by first | rfl | decide | (split <;> rfl)) (fun t ht hW => ⟨_, rfl, (if_neg (fun h => Int32.not_lt.mpr h.1 c_1)).symm, ht⟩) (fun _ h => by cases h) dX1_hasPair_17
  · refine lv_iload_n hx hb dX1_hasPair_4 rfl (lv_at hl 1 rfl) ?_
    refine lv_aload_n hx hb dX1_hasPair_5 rfl (lv_at hl 0 rfl) ?_
    refine vp_callSi (va_runV (As := []) (rest := [.int i]) ⟨hx, hb, hml, hown, hts⟩ (c_pairsOrFull l dC dI cI hR hF hE hQ F E P dk) (cwV 0 hts gX1_hasPair_X1_pairsOrFull rfl rfl rfl (by decide +kernel) ⟨(by decide +kernel), (by decide +kernel)⟩)  ⟨jb_R_blind, va_recv hK hP (ci := 1) (q0 := 0) rfl rfl, jb_R_pre (hP.sub (ws' := [(hR, .inr (1, [.ref hF, .ref hE, .ref hQ, .int dk])), (hF, .inl (cI, 11, .inl F)), (hE, .inl (cI, 1500, .inl E)), (hQ, .inl (cI, 4000, .inl P))]) [0, 1, 2, 3] rfl) hK hNw⟩ rfl rfl hl.1 rfl (lv_room (Nat.le_of_ble_eq_true rfl)) dX1_hasPair_6 ⟨by decide +kernel, by decide +kernel⟩).run (fun r_1 hr_1 => ?_)
    subst hr_1
    refine lv_icmp_ge (tgt := 16) hx hb dX1_hasPair_9 (by decide) (fun c_9 => ?_) (fun c_9 => ?_)
    · refine lv_iconst (v := 0) hx hb dX1_hasPair_16 (by decide) ?_
      exact W.zret (v := 0) hx hb hr (by first | rfl | decide | (split <;> rfl)) (fun t ht hW => ⟨_, rfl, (if_neg (fun h => Int32.not_lt.mpr c_9 h.2)).symm, ht⟩) (fun _ h => by cases h) dX1_hasPair_17
    · refine lv_iconst (v := 1) hx hb dX1_hasPair_12 (by decide) ?_
      refine lv_goto (tgt := 17) hx hb dX1_hasPair_13 (by decide) ?_
      exact W.zret (v := 1) hx hb hr (by first | rfl | decide | (split <;> rfl)) (fun t ht hW => ⟨_, rfl, (if_pos ⟨Int32.not_lt.mp c_1, Int32.not_le.mp c_9⟩).symm, ht⟩) (fun _ h => by cases h) dX1_hasPair_17
theorem jb_has_no {F : Nat → Int32} {i : Int32} (h : jb_has F i = 0) : ¬ (0 ≤ i ∧ i < jb_pof (F 10)) := fun q => by
  unfold jb_has at h
  rw [if_pos q] at h
  exact absurd h (by decide)
theorem jb_has_yes {F : Nat → Int32} {i : Int32} (h : ¬ jb_has F i = 0) : 0 ≤ i ∧ i < jb_pof (F 10) := by
  by_cases q : 0 ≤ i ∧ i < jb_pof (F 10)
  · exact q
  · exact absurd (if_neg q) h
theorem iX1_leftRowOf_X1 : ∀ w ∈ wsX10, w ∈ wsX1_leftRowOf := by decide +kernel
set_option maxHeartbeats 1000000 in
set_option maxRecDepth 100000 in
/-- Report.leftRowOf(i) -/
theorem c_leftRowOf (l : Launch) (dC : Nat → ClassId) (dI : Nat → Nat → Nat) (cI : ClassId) (hR hF hE hQ : Nat) (F E P : Nat → Int32) (dk : Int32) (i : Int32) : Met l yX1_leftRowOf wsX1_leftRowOf ({ frames := 3, cells := 0, slots := 0, locals := 120 } : Room) (va_Pc [.ref hR, .int i] (jb_R dC dI cI [(hR, .inr (1, [.ref hF, .ref hE, .ref hQ, .int dk])), (hF, .inl (cI, 11, .inl F)), (hE, .inl (cI, 1500, .inl E)), (hQ, .inl (cI, 4000, .inl P))])) (vp_Si (fun r => r = jb_lrow F P i)) 0 0 (fun _ => False) := by
  refine Met.ofW (cc := cX1_leftRowOf) (maxL := 2) (ret := (some .int)) (by decide) rfl ?_
  intro p e s m args below meth c s₁ B hml hv
  obtain ⟨rfl, hP, hK, hNw⟩ := hv
  have hx := B.exec
  have hb := B.bytes
  have hr := B.returns
  have hts := atoms_spec (ws := wsX1_leftRowOf) B.pre
  have hown : s.vm.findClass RX1 = some m.cls := findClass_of_methodNamed B.named
  have hlocks := B.notSynchronized
  have hl := lv_entry ([.ref hR, .int i]) (n := 2) (Nat.le_of_ble_eq_true rfl)
  rw [lg_entry_eq]
  generalize (lg_sl ([.ref hR, .int i]) ++ List.replicate (2 - (lg_sl ([.ref hR, .int i])).length) Slot.unset).toArray = ls at hl ⊢
  have hl : lv_has ls 2 [(0, .ref hR), (1, .int i)] := hl
  refine lv_aload_n hx hb dX1_leftRowOf_0 rfl (lv_at hl 0 rfl) ?_
  refine lv_iload_n hx hb dX1_leftRowOf_1 rfl (lv_at hl 1 rfl) ?_
  refine vp_callSi (va_runV (As := [.int i]) (rest := []) ⟨hx, hb, hml, hown, hts⟩ (c_hasPair l dC dI cI hR hF hE hQ F E P dk i) (cwV 1 hts gX1_leftRowOf_X1_hasPair rfl rfl rfl (by decide +kernel) ⟨(by decide +kernel), (by decide +kernel)⟩)  ⟨jb_R_blind, va_recv hK hP (ci := 1) (q0 := 0) rfl rfl, jb_R_pre (hP.sub (ws' := [(hR, .inr (1, [.ref hF, .ref hE, .ref hQ, .int dk])), (hF, .inl (cI, 11, .inl F)), (hE, .inl (cI, 1500, .inl E)), (hQ, .inl (cI, 4000, .inl P))]) [0, 1, 2, 3] rfl) hK hNw⟩ rfl rfl hl.1 rfl (lv_room (Nat.le_of_ble_eq_true rfl)) dX1_leftRowOf_2 ⟨by decide +kernel, by decide +kernel⟩).run (fun r_1 hr_1 => ?_)
  subst hr_1
  refine lv_if_eq (tgt := 20) hx hb dX1_leftRowOf_5 (by decide) (fun c_5 => ?_) (fun c_5 => ?_)
  · refine lv_iconst (v := (-1)) hx hb dX1_leftRowOf_20 (by decide) ?_
    exact W.iret (v := (-1)) hx hb hr (fun t ht hW => ⟨_, rfl, (if_neg (jb_has_no c_5)).symm, ht⟩) (fun _ h => by cases h) dX1_leftRowOf_21
  · have hy := jb_has_yes c_5
    refine lv_aload_n hx hb dX1_leftRowOf_8 rfl (lv_at hl 0 rfl) ?_
    refine va_get (D := (dC, dI)) (ci := 1) (v := .ref hQ) (C := RX1) (T := TX1) (N := 4) hx hb hts iX1_leftRowOf_X1 hown hK hP 0 rfl rfl 2 (by decide) (hts (.fieldLink RX1 18 "JoinBench$Report" "pairs" "[I") (by decide +kernel)) (fun _ h9 => h9) rfl dX1_leftRowOf_9 ?_
    refine lv_iload_n hx hb dX1_leftRowOf_12 rfl (lv_at hl 1 rfl) ?_
    refine va_iald hx hb hK hP 3 0 rfl rfl (i := i) (jb_pof_in hy.1 hy.2) dX1_leftRowOf_13 ?_
    refine lv_bipush (v := 9) hx hb dX1_leftRowOf_14 (by decide) ?_
    refine lv_ishr hx hb dX1_leftRowOf_16 ?_
    refine lv_goto (tgt := 21) hx hb dX1_leftRowOf_17 (by decide) ?_
    exact W.iret (v := ((P i.toNatClampNeg) >>> (9 &&& 31))) hx hb hr (fun t ht hW => ⟨_, rfl, (if_pos hy).symm, ht⟩) (fun _ h => by cases h) dX1_leftRowOf_21
theorem iX1_rightRowOf_X1 : ∀ w ∈ wsX10, w ∈ wsX1_rightRowOf := by decide +kernel
set_option maxHeartbeats 1000000 in
set_option maxRecDepth 100000 in
/-- Report.rightRowOf(i) -/
theorem c_rightRowOf (l : Launch) (dC : Nat → ClassId) (dI : Nat → Nat → Nat) (cI : ClassId) (hR hF hE hQ : Nat) (F E P : Nat → Int32) (dk : Int32) (i : Int32) : Met l yX1_rightRowOf wsX1_rightRowOf ({ frames := 3, cells := 0, slots := 0, locals := 120 } : Room) (va_Pc [.ref hR, .int i] (jb_R dC dI cI [(hR, .inr (1, [.ref hF, .ref hE, .ref hQ, .int dk])), (hF, .inl (cI, 11, .inl F)), (hE, .inl (cI, 1500, .inl E)), (hQ, .inl (cI, 4000, .inl P))])) (vp_Si (fun r => r = jb_rrow F P i)) 0 0 (fun _ => False) := by
  refine Met.ofW (cc := cX1_rightRowOf) (maxL := 2) (ret := (some .int)) (by decide) rfl ?_
  intro p e s m args below meth c s₁ B hml hv
  obtain ⟨rfl, hP, hK, hNw⟩ := hv
  have hx := B.exec
  have hb := B.bytes
  have hr := B.returns
  have hts := atoms_spec (ws := wsX1_rightRowOf) B.pre
  have hown : s.vm.findClass RX1 = some m.cls := findClass_of_methodNamed B.named
  have hlocks := B.notSynchronized
  have hl := lv_entry ([.ref hR, .int i]) (n := 2) (Nat.le_of_ble_eq_true rfl)
  rw [lg_entry_eq]
  generalize (lg_sl ([.ref hR, .int i]) ++ List.replicate (2 - (lg_sl ([.ref hR, .int i])).length) Slot.unset).toArray = ls at hl ⊢
  have hl : lv_has ls 2 [(0, .ref hR), (1, .int i)] := hl
  refine lv_aload_n hx hb dX1_rightRowOf_0 rfl (lv_at hl 0 rfl) ?_
  refine lv_iload_n hx hb dX1_rightRowOf_1 rfl (lv_at hl 1 rfl) ?_
  refine vp_callSi (va_runV (As := [.int i]) (rest := []) ⟨hx, hb, hml, hown, hts⟩ (c_hasPair l dC dI cI hR hF hE hQ F E P dk i) (cwV 1 hts gX1_rightRowOf_X1_hasPair rfl rfl rfl (by decide +kernel) ⟨(by decide +kernel), (by decide +kernel)⟩)  ⟨jb_R_blind, va_recv hK hP (ci := 1) (q0 := 0) rfl rfl, jb_R_pre (hP.sub (ws' := [(hR, .inr (1, [.ref hF, .ref hE, .ref hQ, .int dk])), (hF, .inl (cI, 11, .inl F)), (hE, .inl (cI, 1500, .inl E)), (hQ, .inl (cI, 4000, .inl P))]) [0, 1, 2, 3] rfl) hK hNw⟩ rfl rfl hl.1 rfl (lv_room (Nat.le_of_ble_eq_true rfl)) dX1_rightRowOf_2 ⟨by decide +kernel, by decide +kernel⟩).run (fun r_1 hr_1 => ?_)
  subst hr_1
  refine lv_if_eq (tgt := 21) hx hb dX1_rightRowOf_5 (by decide) (fun c_5 => ?_) (fun c_5 => ?_)
  · refine lv_iconst (v := (-1)) hx hb dX1_rightRowOf_21 (by decide) ?_
    exact W.iret (v := (-1)) hx hb hr (fun t ht hW => ⟨_, rfl, (if_neg (jb_has_no c_5)).symm, ht⟩) (fun _ h => by cases h) dX1_rightRowOf_22
  · have hy := jb_has_yes c_5
    refine lv_aload_n hx hb dX1_rightRowOf_8 rfl (lv_at hl 0 rfl) ?_
    refine va_get (D := (dC, dI)) (ci := 1) (v := .ref hQ) (C := RX1) (T := TX1) (N := 4) hx hb hts iX1_rightRowOf_X1 hown hK hP 0 rfl rfl 2 (by decide) (hts (.fieldLink RX1 18 "JoinBench$Report" "pairs" "[I") (by decide +kernel)) (fun _ h9 => h9) rfl dX1_rightRowOf_9 ?_
    refine lv_iload_n hx hb dX1_rightRowOf_12 rfl (lv_at hl 1 rfl) ?_
    refine va_iald hx hb hK hP 3 0 rfl rfl (i := i) (jb_pof_in hy.1 hy.2) dX1_rightRowOf_13 ?_
    refine lv_sipush (v := 511) hx hb dX1_rightRowOf_14 (by decide) ?_
    refine lv_iand hx hb dX1_rightRowOf_17 ?_
    refine lv_goto (tgt := 22) hx hb dX1_rightRowOf_18 (by decide) ?_
    exact W.iret (v := ((P i.toNatClampNeg) &&& 511)) hx hb hr (fun t ht hW => ⟨_, rfl, (if_pos hy).symm, ht⟩) (fun _ h => by cases h) dX1_rightRowOf_22
theorem iX1_figure_X1 : ∀ w ∈ wsX10, w ∈ wsX1_figure := by decide +kernel
set_option maxHeartbeats 1000000 in
set_option maxRecDepth 100000 in
/-- Report.figure(what) -/
theorem c_figure (l : Launch) (dC : Nat → ClassId) (dI : Nat → Nat → Nat) (cI : ClassId) (hR hF hE hQ : Nat) (F E P : Nat → Int32) (dk : Int32) (i : Int32) : Met l yX1_figure wsX1_figure ({ frames := 1, cells := 0, slots := 0, locals := 40 } : Room) (va_Pc [.ref hR, .int i] (jb_R dC dI cI [(hR, .inr (1, [.ref hF, .ref hE, .ref hQ, .int dk])), (hF, .inl (cI, 11, .inl F)), (hE, .inl (cI, 1500, .inl E)), (hQ, .inl (cI, 4000, .inl P))])) (vp_Si (fun r => r = jb_fig F i)) 0 0 (fun _ => False) := by
  refine Met.ofW (cc := cX1_figure) (maxL := 2) (ret := (some .int)) (by decide) rfl ?_
  intro p e s m args below meth c s₁ B hml hv
  obtain ⟨rfl, hP, hK, hNw⟩ := hv
  have hx := B.exec
  have hb := B.bytes
  have hr := B.returns
  have hts := atoms_spec (ws := wsX1_figure) B.pre
  have hown : s.vm.findClass RX1 = some m.cls := findClass_of_methodNamed B.named
  have hlocks := B.notSynchronized
  have hl := lv_entry ([.ref hR, .int i]) (n := 2) (Nat.le_of_ble_eq_true rfl)
  rw [lg_entry_eq]
  generalize (lg_sl ([.ref hR, .int i]) ++ List.replicate (2 - (lg_sl ([.ref hR, .int i])).length) Slot.unset).toArray = ls at hl ⊢
  have hl : lv_has ls 2 [(0, .ref hR), (1, .int i)] := hl
  refine lv_iload_n hx hb dX1_figure_0 rfl (lv_at hl 1 rfl) ?_
  refine lv_if_lt (tgt := 10) hx hb dX1_figure_1 (by decide) (fun c_1 => ?_) (fun c_1 => ?_)
  · refine lv_iconst (v := (-1)) hx hb dX1_figure_10 (by decide) ?_
    refine lv_goto (tgt := 20) hx hb dX1_figure_11 (by decide) ?_
    exact W.iret (v := (-1)) hx hb hr (fun t ht hW => ⟨_, rfl, (if_pos (Or.inl c_1)).symm, ht⟩) (fun _ h => by cases h) dX1_figure_20
  · refine lv_iload_n hx hb dX1_figure_4 rfl (lv_at hl 1 rfl) ?_
    refine lv_bipush (v := 11) hx hb dX1_figure_5 (by decide) ?_
    refine lv_icmp_lt (tgt := 14) hx hb dX1_figure_7 (by decide) (fun c_7 => ?_) (fun c_7 => ?_)
    · refine lv_aload_n hx hb dX1_figure_14 rfl (lv_at hl 0 rfl) ?_
      refine va_get (D := (dC, dI)) (ci := 1) (v := .ref hF) (C := RX1) (T := TX1) (N := 4) hx hb hts iX1_figure_X1 hown hK hP 0 rfl rfl 0 (by decide) (hts (.fieldLink RX1 11 "JoinBench$Report" "figures" "[I") (by decide +kernel)) (fun _ h9 => h9) rfl dX1_figure_15 ?_
      refine lv_iload_n hx hb dX1_figure_18 rfl (lv_at hl 1 rfl) ?_
      refine va_iald hx hb hK hP 1 0 rfl rfl (i := i) (jb_in_of (N := 11) rfl c_1 c_7) dX1_figure_19 ?_
      exact W.iret (v := (F i.toNatClampNeg)) hx hb hr (fun t ht hW => ⟨_, rfl, (if_neg (fun h => h.elim c_1 (fun h => Int32.not_lt.mpr h c_7))).symm, ht⟩) (fun _ h => by cases h) dX1_figure_20
    · refine lv_iconst (v := (-1)) hx hb dX1_figure_10 (by decide) ?_
      refine lv_goto (tgt := 20) hx hb dX1_figure_11 (by decide) ?_
      exact W.iret (v := (-1)) hx hb hr (fun t ht hW => ⟨_, rfl, (if_pos (Or.inr (Int32.not_lt.mp c_7))).symm, ht⟩) (fun _ h => by cases h) dX1_figure_20
theorem jb_min_lt {x i : Int32} (h : i < (if 300 < x then 300 else x)) : i < 300 := by
  split at h
  · exact h
  · rename_i h2
    exact Int32.lt_of_lt_of_le h (Int32.not_lt.mp h2)
theorem iX1_ofEvent_X1 : ∀ w ∈ wsX10, w ∈ wsX1_ofEvent := by decide +kernel
set_option maxHeartbeats 1000000 in
set_option maxRecDepth 100000 in
/-- Report.ofEvent(i, what) -/
theorem c_ofEvent (l : Launch) (dC : Nat → ClassId) (dI : Nat → Nat → Nat) (cI : ClassId) (hR hF hE hQ : Nat) (F E P : Nat → Int32) (dk : Int32) (i j : Int32) : Met l yX1_ofEvent wsX1_ofEvent ({ frames := 2, cells := 0, slots := 0, locals := 80 } : Room) (va_Pc [.ref hR, .int i, .int j] (jb_R dC dI cI [(hR, .inr (1, [.ref hF, .ref hE, .ref hQ, .int dk])), (hF, .inl (cI, 11, .inl F)), (hE, .inl (cI, 1500, .inl E)), (hQ, .inl (cI, 4000, .inl P))])) (vp_Si (fun r => r = jb_evt F E i j)) 0 0 (fun _ => False) := by
  refine Met.ofW (cc := cX1_ofEvent) (maxL := 3) (ret := (some .int)) (by decide) rfl ?_
  intro p e s m args below meth c s₁ B hml hv
  obtain ⟨rfl, hP, hK, hNw⟩ := hv
  have hx := B.exec
  have hb := B.bytes
  have hr := B.returns
  have hts := atoms_spec (ws := wsX1_ofEvent) B.pre
  have hown : s.vm.findClass RX1 = some m.cls := findClass_of_methodNamed B.named
  have hlocks := B.notSynchronized
  have hl := lv_entry ([.ref hR, .int i, .int j]) (n := 3) (Nat.le_of_ble_eq_true rfl)
  rw [lg_entry_eq]
  generalize (lg_sl ([.ref hR, .int i, .int j]) ++ List.replicate (3 - (lg_sl ([.ref hR, .int i, .int j])).length) Slot.unset).toArray = ls at hl ⊢
  have hl : lv_has ls 3 [(0, .ref hR), (1, .int i), (2, .int j)] := hl
  refine lv_iload_n hx hb dX1_ofEvent_0 rfl (lv_at hl 1 rfl) ?_
  refine lv_if_lt (tgt := 20) hx hb dX1_ofEvent_1 (by decide) (fun c_1 => ?_) (fun c_1 => ?_)
  · refine lv_iconst (v := (-1)) hx hb dX1_ofEvent_20 (by decide) ?_
    exact W.iret (v := (-1)) hx hb hr (fun t ht hW => ⟨_, rfl, (if_pos (Or.inl c_1)).symm, ht⟩) (fun _ h => by cases h) dX1_ofEvent_21
  · refine lv_iload_n hx hb dX1_ofEvent_4 rfl (lv_at hl 1 rfl) ?_
    refine lv_aload_n hx hb dX1_ofEvent_5 rfl (lv_at hl 0 rfl) ?_
    refine va_get (D := (dC, dI)) (ci := 1) (v := .ref hF) (C := RX1) (T := TX1) (N := 4) hx hb hts iX1_ofEvent_X1 hown hK hP 0 rfl rfl 0 (by decide) (hts (.fieldLink RX1 11 "JoinBench$Report" "figures" "[I") (by decide +kernel)) (fun _ h9 => h9) rfl dX1_ofEvent_6 ?_
    refine lv_iconst (v := 5) hx hb dX1_ofEvent_9 (by decide) ?_
    refine va_iald hx hb hK hP 1 0 rfl rfl (i := 5) (by unfold vp_in; decide) dX1_ofEvent_10 ?_
    refine lv_topi (fun v_1 ev_1 => ?_)
    have hv_1 : v_1 = (F 5) := ev_1.trans (rfl)
    clear ev_1; subst hv_1
    refine lv_sipush (v := 300) hx hb dX1_ofEvent_11 (by decide) ?_
    refine va_mmin hx hb (by rw [hml]; exact hl.1.symm) hown (hts (.methodLink RX1 45 Lib.Math.min.name) (by decide +kernel)) (hts (.static Lib.Math.min.name) (by decide +kernel)) (hts (.initialized "java/lang/Math") (by decide +kernel)) (hts (.code Lib.Math.min.name Lib.Math.min.code 2 (some .int)) (by decide +kernel)) (by decide +kernel) (Nat.le_of_ble_eq_true rfl) (Nat.zero_le _) (Nat.zero_le _) dX1_ofEvent_14 ?_
    refine lv_icmp_lt (tgt := 22) hx hb dX1_ofEvent_17 (by decide) (fun c_17 => ?_) (fun c_17 => ?_)
    · refine lv_iload_n hx hb dX1_ofEvent_22 rfl (lv_at hl 2 rfl) ?_
      refine lv_if_lt (tgt := 31) hx hb dX1_ofEvent_23 (by decide) (fun c_23 => ?_) (fun c_23 => ?_)
      · refine lv_iconst (v := (-1)) hx hb dX1_ofEvent_31 (by decide) ?_
        exact W.iret (v := (-1)) hx hb hr (fun t ht hW => ⟨_, rfl, (if_pos (Or.inr (Or.inr (Or.inl c_23)))).symm, ht⟩) (fun _ h => by cases h) dX1_ofEvent_32
      · refine lv_iload_n hx hb dX1_ofEvent_26 rfl (lv_at hl 2 rfl) ?_
        refine lv_iconst (v := 5) hx hb dX1_ofEvent_27 (by decide) ?_
        refine lv_icmp_lt (tgt := 33) hx hb dX1_ofEvent_28 (by decide) (fun c_28 => ?_) (fun c_28 => ?_)
        · refine lv_aload_n hx hb dX1_ofEvent_33 rfl (lv_at hl 0 rfl) ?_
          refine va_get (D := (dC, dI)) (ci := 1) (v := .ref hE) (C := RX1) (T := TX1) (N := 4) hx hb hts iX1_ofEvent_X1 hown hK hP 0 rfl rfl 1 (by decide) (hts (.fieldLink RX1 15 "JoinBench$Report" "events" "[I") (by decide +kernel)) (fun _ h9 => h9) rfl dX1_ofEvent_34 ?_
          refine lv_iload_n hx hb dX1_ofEvent_37 rfl (lv_at hl 1 rfl) ?_
          refine lv_iconst (v := 5) hx hb dX1_ofEvent_38 (by decide) ?_
          refine lv_imul hx hb dX1_ofEvent_39 ?_
          refine lv_iload_n hx hb dX1_ofEvent_40 rfl (lv_at hl 2 rfl) ?_
          refine lv_iadd hx hb dX1_ofEvent_41 ?_
          obtain ⟨a, ha, ea⟩ := vp_in_of (jb_in_of (n := 300) (N := 300) rfl c_1 (jb_min_lt c_17)) (by decide)
          obtain ⟨b, hb2, eb⟩ := vp_in_of (jb_in_of (n := 5) (N := 5) rfl c_23 c_28) (by decide)
          refine lv_topi (fun v_2 ev_2 => ?_)
          have hv_2 : v_2 = nI (a * 5 + b) := ev_2.trans (by rw [ea, eb, show (5 : Int32) = nI 5 from rfl, jb_nmul, nI_add])
          clear ev_2; subst hv_2
          refine va_iald hx hb hK hP 2 0 rfl rfl (i := nI (a * 5 + b)) (vp_in_nI (n := a * 5 + b) (by omega) (by decide)) dX1_ofEvent_42 ?_
          refine lv_topi (fun v_3 ev_3 => ?_)
          have hv_3 : v_3 = (E (i.toNatClampNeg * 5 + j.toNatClampNeg)) := ev_3.trans (by rw [ea, eb, nI_clamp (by omega), nI_clamp (by omega), nI_clamp (by omega)])
          clear ev_3; subst hv_3
          exact W.iret (v := (E (i.toNatClampNeg * 5 + j.toNatClampNeg))) hx hb hr (fun t ht hW => ⟨_, rfl, (if_neg (fun h => h.elim c_1 (fun h => h.elim (fun h => Int32.not_lt.mpr h c_17) (fun h => h.elim c_23 (fun h => Int32.not_lt.mpr h c_28))))).symm, ht⟩) (fun _ h => by cases h) dX1_ofEvent_43
        · refine lv_iconst (v := (-1)) hx hb dX1_ofEvent_31 (by decide) ?_
          exact W.iret (v := (-1)) hx hb hr (fun t ht hW => ⟨_, rfl, (if_pos (Or.inr (Or.inr (Or.inr (Int32.not_lt.mp c_28))))).symm, ht⟩) (fun _ h => by cases h) dX1_ofEvent_32
    · refine lv_iconst (v := (-1)) hx hb dX1_ofEvent_20 (by decide) ?_
      exact W.iret (v := (-1)) hx hb hr (fun t ht hW => ⟨_, rfl, (if_pos (Or.inr (Or.inl (Int32.not_lt.mp c_17)))).symm, ht⟩) (fun _ h => by cases h) dX1_ofEvent_21
theorem iX1_init_X1 : ∀ w ∈ wsX10, w ∈ wsX1_init := by decide +kernel
set_option maxHeartbeats 1000000 in
set_option maxRecDepth 100000 in
/-- Report() -/
theorem c_Report_init (l : Launch) (dC : Nat → ClassId) (dI : Nat → Nat → Nat) (cI : ClassId) (sz : Nat) (hR : Nat) : Met l yX1_init wsX1_init ({ frames := 1, cells := 3, slots := 5511, locals := 40 } : Room) (va_Pc [.ref hR] (jb_M dC dI cI sz [(hR, .inr (1, [.null, .null, .null, .int 0]))])) (va_Qv (fun (_ : Nat × Nat × Nat) => True) (jb_B dC dI (va_A [(hR, .inr (1, [.null, .null, .null, .int 0]))] sz) (fun u => [(hR, .inr (1, [.ref u.1, .ref u.2.1, .ref u.2.2, .int 0])), (u.1, .inl (cI, 11, .inl (upd (fun _ => 0) 4 (-1)))), (u.2.1, .inl (cI, 1500, .inl (fun _ => 0))), (u.2.2, .inl (cI, 4000, .inl (fun _ => 0)))])) (va_A [(hR, .inr (1, [.null, .null, .null, .int 0]))] sz)) 3 5511 (va_A [(hR, .inr (1, [.null, .null, .null, .int 0]))] sz) := by
  refine Met.ofW (cc := cX1_init) (maxL := 1) (ret := none) (by decide) rfl ?_
  intro p e s m args below meth c s₁ B hml hv
  obtain ⟨rfl, hsz, hP, hK, hNw, hD0⟩ := hv
  have hx := B.exec
  have hb := B.bytes
  have hr := B.returns
  have hts := atoms_spec (ws := wsX1_init) B.pre
  have hown : s.vm.findClass RX1 = some m.cls := findClass_of_methodNamed B.named
  have hlocks := B.notSynchronized
  have hin : meth.name = "<init>" := (name_of_methodNamed B.named B.method).1
  subst hsz
  have hD := hD0.self (sz := s.heap.size)
  generalize hAe : va_A [(hR, .inr (1, [.null, .null, .null, .int 0]))] s.heap.size = A at hD ⊢
  have hA : ∀ q : Nat, s.heap.size ≤ q → A q := fun q h => by rw [← hAe]; exact Or.inr h
  have hS : va_S A s.heap s.heap [] := va_S.rf
  have hP : va_P (dC, dI) vwCl [(hR, .inr (1, [.null, .null, .null, .int 0]))] s.heap := hP
  have hl := lv_entry ([.ref hR]) (n := 1) (Nat.le_of_ble_eq_true rfl)
  rw [lg_entry_eq]
  generalize (lg_sl ([.ref hR]) ++ List.replicate (1 - (lg_sl ([.ref hR])).length) Slot.unset).toArray = ls at hl ⊢
  have hl : lv_has ls 1 [(0, .ref hR)] := hl
  refine lv_aload_n hx hb dX1_init_0 rfl (lv_at hl 0 rfl) ?_
  refine W.objInit hx hb hown (hts (.methodLink RX1 3 objectInit) (by decide +kernel)) (hts (.instanceMethod objectInit) (by decide +kernel)) (hts (.code objectInit ⟨#[0xb1]⟩ 1 none) (by decide +kernel)) rfl (by rw [hml]; exact hl.1) rfl dX1_init_1 (Nat.le_of_ble_eq_true rfl) (Nat.le_of_ble_eq_true rfl) ?_
  refine W.eq (g2 := F0 m 4 ls []) rfl ?_
  refine lv_aload_n hx hb dX1_init_4 rfl (lv_at hl 0 rfl) ?_
  refine lv_bipush (v := 11) hx hb dX1_init_5 (by decide) ?_
  refine va_newa (atype := .int) hx hb (hts (.arrayClass .int) (by decide +kernel)) (ty := .int) rfl hK hP hD hS hA (N' := 11) (a0 := (11, .inl (fun _ => 0))) (jb_arr0 11) (by decide +kernel) (by decide +kernel) (by decide +kernel) (by decide +kernel) (by decide +kernel) dX1_init_7 (fun q_1 cJ H hK2 hP hD hS => ?_)
  have hcj : cJ = cI := jb_cI hK2 hK
  clear hK2; subst cJ
  have hP : va_P (dC, dI) vwCl [(hR, .inr (1, [.null, .null, .null, .int 0])), (q_1, .inl (cI, 11, .inl (fun _ => 0)))] H := hP
  have hD : va_D A [(hR, .inr (1, [.null, .null, .null, .int 0])), (q_1, .inl (cI, 11, .inl (fun _ => 0)))] := hD
  refine W.widen (k := 1) (n := 11) (by decide +kernel) (by decide +kernel) ?_
  refine va_putF (D := (dC, dI)) (ci := 1) (v := .ref q_1) (ty := (.array .int)) (C := RX1) (T := TX1) (N := 4) hx hb hts iX1_init_X1 tyX1 tyX1_ok nmX1 hown hK hP hD hS 0 rfl rfl 0 (by decide) (hts (.fieldLink RX1 11 "JoinBench$Report" "figures" "[I") (by decide +kernel)) (fun _ h9 => h9) rfl hin rfl (by decide +kernel) rfl rfl (Nat.le_of_ble_eq_true rfl) dX1_init_9 (fun H locs hP hD hS => ?_)
  have hP : va_P (dC, dI) vwCl [(hR, .inr (1, [.ref q_1, .null, .null, .int 0])), (q_1, .inl (cI, 11, .inl (fun _ => 0)))] H := hP
  have hD : va_D A [(hR, .inr (1, [.ref q_1, .null, .null, .int 0])), (q_1, .inl (cI, 11, .inl (fun _ => 0)))] := hD
  refine lv_aload_n hx hb dX1_init_12 rfl (lv_at hl 0 rfl) ?_
  refine va_get (D := (dC, dI)) (ci := 1) (v := .ref q_1) (C := RX1) (T := TX1) (N := 4) hx hb hts iX1_init_X1 hown hK hP 0 rfl rfl 0 (by decide) (hts (.fieldLink RX1 11 "JoinBench$Report" "figures" "[I") (by decide +kernel)) (fun _ h9 => h9) rfl dX1_init_13 ?_
  refine lv_iconst (v := 4) hx hb dX1_init_16 (by decide) ?_
  refine lv_iconst (v := (-1)) hx hb dX1_init_17 (by decide) ?_
  refine va_iast hx hb hK hP hD hS 1 0 rfl rfl (i := 4) (x := (-1)) (by unfold vp_in; decide) dX1_init_18 (fun H locs hP hD hS => ?_)
  rw [show (4 : Int32).toNatClampNeg = 4 from rfl] at hP hD
  have hP : va_P (dC, dI) vwCl [(hR, .inr (1, [.ref q_1, .null, .null, .int 0])), (q_1, .inl (cI, 11, .inl (upd (fun _ => 0) 4 (-1))))] H := hP
  have hD : va_D A [(hR, .inr (1, [.ref q_1, .null, .null, .int 0])), (q_1, .inl (cI, 11, .inl (upd (fun _ => 0) 4 (-1))))] := hD
  refine lv_aload_n hx hb dX1_init_19 rfl (lv_at hl 0 rfl) ?_
  refine lv_sipush (v := 1500) hx hb dX1_init_20 (by decide) ?_
  refine va_newa (atype := .int) hx hb (hts (.arrayClass .int) (by decide +kernel)) (ty := .int) rfl hK hP hD hS hA (N' := 1500) (a0 := (1500, .inl (fun _ => 0))) (jb_arr0 1500) (by decide +kernel) (by decide +kernel) (by decide +kernel) (by decide +kernel) (by decide +kernel) dX1_init_23 (fun q_2 cJ H hK2 hP hD hS => ?_)
  have hcj : cJ = cI := jb_cI hK2 hK
  clear hK2; subst cJ
  have hP : va_P (dC, dI) vwCl [(hR, .inr (1, [.ref q_1, .null, .null, .int 0])), (q_1, .inl (cI, 11, .inl (upd (fun _ => 0) 4 (-1)))), (q_2, .inl (cI, 1500, .inl (fun _ => 0)))] H := hP
  have hD : va_D A [(hR, .inr (1, [.ref q_1, .null, .null, .int 0])), (q_1, .inl (cI, 11, .inl (upd (fun _ => 0) 4 (-1)))), (q_2, .inl (cI, 1500, .inl (fun _ => 0)))] := hD
  refine W.widen (k := 2) (n := 1511) (by decide +kernel) (by decide +kernel) ?_
  refine va_putF (D := (dC, dI)) (ci := 1) (v := .ref q_2) (ty := (.array .int)) (C := RX1) (T := TX1) (N := 4) hx hb hts iX1_init_X1 tyX1 tyX1_ok nmX1 hown hK hP hD hS 0 rfl rfl 1 (by decide) (hts (.fieldLink RX1 15 "JoinBench$Report" "events" "[I") (by decide +kernel)) (fun _ h9 => h9) rfl hin rfl (by decide +kernel) rfl rfl (Nat.le_of_ble_eq_true rfl) dX1_init_25 (fun H locs hP hD hS => ?_)
  have hP : va_P (dC, dI) vwCl [(hR, .inr (1, [.ref q_1, .ref q_2, .null, .int 0])), (q_1, .inl (cI, 11, .inl (upd (fun _ => 0) 4 (-1)))), (q_2, .inl (cI, 1500, .inl (fun _ => 0)))] H := hP
  have hD : va_D A [(hR, .inr (1, [.ref q_1, .ref q_2, .null, .int 0])), (q_1, .inl (cI, 11, .inl (upd (fun _ => 0) 4 (-1)))), (q_2, .inl (cI, 1500, .inl (fun _ => 0)))] := hD
  refine lv_aload_n hx hb dX1_init_28 rfl (lv_at hl 0 rfl) ?_
  refine lv_sipush (v := 4000) hx hb dX1_init_29 (by decide) ?_
  refine va_newa (atype := .int) hx hb (hts (.arrayClass .int) (by decide +kernel)) (ty := .int) rfl hK hP hD hS hA (N' := 4000) (a0 := (4000, .inl (fun _ => 0))) (jb_arr0 4000) (by decide +kernel) (by decide +kernel) (by decide +kernel) (by decide +kernel) (by decide +kernel) dX1_init_32 (fun q_3 cJ H hK2 hP hD hS => ?_)
  have hcj : cJ = cI := jb_cI hK2 hK
  clear hK2; subst cJ
  have hP : va_P (dC, dI) vwCl [(hR, .inr (1, [.ref q_1, .ref q_2, .null, .int 0])), (q_1, .inl (cI, 11, .inl (upd (fun _ => 0) 4 (-1)))), (q_2, .inl (cI, 1500, .inl (fun _ => 0))), (q_3, .inl (cI, 4000, .inl (fun _ => 0)))] H := hP
  have hD : va_D A [(hR, .inr (1, [.ref q_1, .ref q_2, .null, .int 0])), (q_1, .inl (cI, 11, .inl (upd (fun _ => 0) 4 (-1)))), (q_2, .inl (cI, 1500, .inl (fun _ => 0))), (q_3, .inl (cI, 4000, .inl (fun _ => 0)))] := hD
  refine W.widen (k := 3) (n := 5511) (by decide +kernel) (by decide +kernel) ?_
  refine va_putF (D := (dC, dI)) (ci := 1) (v := .ref q_3) (ty := (.array .int)) (C := RX1) (T := TX1) (N := 4) hx hb hts iX1_init_X1 tyX1 tyX1_ok nmX1 hown hK hP hD hS 0 rfl rfl 2 (by decide) (hts (.fieldLink RX1 18 "JoinBench$Report" "pairs" "[I") (by decide +kernel)) (fun _ h9 => h9) rfl hin rfl (by decide +kernel) rfl rfl (Nat.le_of_ble_eq_true rfl) dX1_init_34 (fun H locs hP hD hS => ?_)
  have hP : va_P (dC, dI) vwCl [(hR, .inr (1, [.ref q_1, .ref q_2, .ref q_3, .int 0])), (q_1, .inl (cI, 11, .inl (upd (fun _ => 0) 4 (-1)))), (q_2, .inl (cI, 1500, .inl (fun _ => 0))), (q_3, .inl (cI, 4000, .inl (fun _ => 0)))] H := hP
  have hD : va_D A [(hR, .inr (1, [.ref q_1, .ref q_2, .ref q_3, .int 0])), (q_1, .inl (cI, 11, .inl (upd (fun _ => 0) 4 (-1)))), (q_2, .inl (cI, 1500, .inl (fun _ => 0))), (q_3, .inl (cI, 4000, .inl (fun _ => 0)))] := hD
  refine lv_aload_n hx hb dX1_init_37 rfl (lv_at hl 0 rfl) ?_
  refine lv_iconst (v := 0) hx hb dX1_init_38 (by decide) ?_
  refine va_put (D := (dC, dI)) (ci := 1) (v := .int 0) (ty := .int) (C := RX1) (T := TX1) (N := 4) hx hb hts iX1_init_X1 tyX1 tyX1_ok nmX1 hown hK hP hD hS 0 rfl rfl 3 (by decide) (hts (.fieldLink RX1 21 "JoinBench$Report" "onDisk" "I") (by decide +kernel)) (fun _ h9 => h9) rfl (by decide +kernel) rfl rfl (Nat.le_of_ble_eq_true rfl) dX1_init_39 (fun H locs hP hD hS => ?_)
  have hP : va_P (dC, dI) vwCl [(hR, .inr (1, [.ref q_1, .ref q_2, .ref q_3, .int 0])), (q_1, .inl (cI, 11, .inl (upd (fun _ => 0) 4 (-1)))), (q_2, .inl (cI, 1500, .inl (fun _ => 0))), (q_3, .inl (cI, 4000, .inl (fun _ => 0)))] H := hP
  have hD : va_D A [(hR, .inr (1, [.ref q_1, .ref q_2, .ref q_3, .int 0])), (q_1, .inl (cI, 11, .inl (upd (fun _ => 0) 4 (-1)))), (q_2, .inl (cI, 1500, .inl (fun _ => 0))), (q_3, .inl (cI, 4000, .inl (fun _ => 0)))] := hD
  have hP9 : va_P (dC, dI) vwCl [(hR, .inr (1, [.ref q_1, .ref q_2, .ref q_3, .int 0])), (q_1, .inl (cI, 11, .inl (upd (fun _ => 0) 4 (-1)))), (q_2, .inl (cI, 1500, .inl (fun _ => 0))), (q_3, .inl (cI, 4000, .inl (fun _ => 0)))] H := hP.sub [0, 1, 2, 3] rfl
  have hD9 : va_D A [(hR, .inr (1, [.ref q_1, .ref q_2, .ref q_3, .int 0])), (q_1, .inl (cI, 11, .inl (upd (fun _ => 0) 4 (-1)))), (q_2, .inl (cI, 1500, .inl (fun _ => 0))), (q_3, .inl (cI, 4000, .inl (fun _ => 0)))] := hD.sub [0, 1, 2, 3] (by decide) rfl
  exact W.vret hx hb hr (fun t ht hW => ⟨⟨(q_1, q_2, q_3), rfl, trivial, by rw [ht]; exact hP9, hD9⟩, hS.F ht⟩) hS.2.2 dX1_init_42
theorem iX1_beginAnew_X1 : ∀ w ∈ wsX10, w ∈ wsX1_beginAnew := by decide +kernel
set_option maxHeartbeats 1000000 in
set_option maxRecDepth 100000 in
/-- Report.beginAnew() -/
theorem c_beginAnew (l : Launch) (dC : Nat → ClassId) (dI : Nat → Nat → Nat) (cI : ClassId) (sz : Nat) (hR hF hE hQ : Nat) (F E P : Nat → Int32) (dk : Int32) : Met l yX1_beginAnew wsX1_beginAnew ({ frames := 2, cells := 0, slots := 0, locals := 80 } : Room) (va_Pc [.ref hR] (jb_M dC dI cI sz [(hR, .inr (1, [.ref hF, .ref hE, .ref hQ, .int dk])), (hF, .inl (cI, 11, .inl F)), (hE, .inl (cI, 1500, .inl E)), (hQ, .inl (cI, 4000, .inl P))])) (va_Qv (fun (_ : Unit) => True) (jb_B dC dI (va_A [(hR, .inr (1, [.ref hF, .ref hE, .ref hQ, .int dk])), (hF, .inl (cI, 11, .inl F)), (hE, .inl (cI, 1500, .inl E)), (hQ, .inl (cI, 4000, .inl P))] sz) (fun _ => [(hR, .inr (1, [.ref hF, .ref hE, .ref hQ, .int 0])), (hF, .inl (cI, 11, .inl (jb_fl F 0 11))), (hE, .inl (cI, 1500, .inl E)), (hQ, .inl (cI, 4000, .inl P))])) (va_A [(hR, .inr (1, [.ref hF, .ref hE, .ref hQ, .int dk])), (hF, .inl (cI, 11, .inl F)), (hE, .inl (cI, 1500, .inl E)), (hQ, .inl (cI, 4000, .inl P))] sz)) 0 0 (va_A [(hR, .inr (1, [.ref hF, .ref hE, .ref hQ, .int dk])), (hF, .inl (cI, 11, .inl F)), (hE, .inl (cI, 1500, .inl E)), (hQ, .inl (cI, 4000, .inl P))] sz) := by
  refine Met.ofW (cc := cX1_beginAnew) (maxL := 1) (ret := none) (by decide) rfl ?_
  intro p e s m args below meth c s₁ B hml hv
  obtain ⟨rfl, hsz, hP, hK, hNw, hD0⟩ := hv
  have hx := B.exec
  have hb := B.bytes
  have hr := B.returns
  have hts := atoms_spec (ws := wsX1_beginAnew) B.pre
  have hown : s.vm.findClass RX1 = some m.cls := findClass_of_methodNamed B.named
  have hlocks := B.notSynchronized
  subst hsz
  have hD := hD0.self (sz := s.heap.size)
  generalize hAe : va_A [(hR, .inr (1, [.ref hF, .ref hE, .ref hQ, .int dk])), (hF, .inl (cI, 11, .inl F)), (hE, .inl (cI, 1500, .inl E)), (hQ, .inl (cI, 4000, .inl P))] s.heap.size = A at hD ⊢
  have hA : ∀ q : Nat, s.heap.size ≤ q → A q := fun q h => by rw [← hAe]; exact Or.inr h
  have hS : va_S A s.heap s.heap [] := va_S.rf
  have hP : va_P (dC, dI) vwCl [(hR, .inr (1, [.ref hF, .ref hE, .ref hQ, .int dk])), (hF, .inl (cI, 11, .inl F)), (hE, .inl (cI, 1500, .inl E)), (hQ, .inl (cI, 4000, .inl P))] s.heap := hP
  have hl := lv_entry ([.ref hR]) (n := 1) (Nat.le_of_ble_eq_true rfl)
  rw [lg_entry_eq]
  generalize (lg_sl ([.ref hR]) ++ List.replicate (1 - (lg_sl ([.ref hR])).length) Slot.unset).toArray = ls at hl ⊢
  have hl : lv_has ls 1 [(0, .ref hR)] := hl
  refine lv_aload_n hx hb dX1_beginAnew_0 rfl (lv_at hl 0 rfl) ?_
  refine va_get (D := (dC, dI)) (ci := 1) (v := .ref hF) (C := RX1) (T := TX1) (N := 4) hx hb hts iX1_beginAnew_X1 hown hK hP 0 rfl rfl 0 (by decide) (hts (.fieldLink RX1 11 "JoinBench$Report" "figures" "[I") (by decide +kernel)) (fun _ h9 => h9) rfl dX1_beginAnew_1 ?_
  refine lv_iconst (v := 0) hx hb dX1_beginAnew_4 (by decide) ?_
  refine jb_cv (wc := [(hF, .inl (cI, 11, .inl F))]) (wr := [(hR, .inr (1, [.ref hF, .ref hE, .ref hQ, .int dk])), (hE, .inl (cI, 1500, .inl E)), (hQ, .inl (cI, 4000, .inl P))]) (va_runS (As := [.ref hF, .int 0]) (rest := []) ⟨hx, hb, hml, hown, hts⟩ (c_fill l dC dI cI s.heap.size hF 11 F 0 (by decide)) (va_cwS 2 hts gX1_beginAnew_J7_fill_53178 rfl rfl rfl (by decide +kernel) ⟨(by decide +kernel), (by decide +kernel)⟩)  ⟨jb_M_blind, jb_M_pre (hP.sub (ws' := [(hF, .inl (cI, 11, .inl F))]) [1] rfl) (hD.sub (ws' := [(hF, .inl (cI, 11, .inl F))]) [1] (by decide) rfl) hK hNw⟩ rfl rfl hl.1 rfl (lv_room (Nat.le_of_ble_eq_true rfl)) dX1_beginAnew_5 ⟨by decide +kernel, by decide +kernel⟩) hP hD hS hA [1] [0, 2, 3] rfl rfl (by decide) (by decide) (fun u_1 H locs hu_1 hP hD hS => ?_)
  have hP : va_P (dC, dI) vwCl [(hR, .inr (1, [.ref hF, .ref hE, .ref hQ, .int dk])), (hF, .inl (cI, 11, .inl (jb_fl F 0 11))), (hE, .inl (cI, 1500, .inl E)), (hQ, .inl (cI, 4000, .inl P))] H := hP.sub [0, 3, 1, 2] rfl
  have hD : va_D A [(hR, .inr (1, [.ref hF, .ref hE, .ref hQ, .int dk])), (hF, .inl (cI, 11, .inl (jb_fl F 0 11))), (hE, .inl (cI, 1500, .inl E)), (hQ, .inl (cI, 4000, .inl P))] := hD.sub [0, 3, 1, 2] (by decide) rfl
  refine lv_aload_n hx hb dX1_beginAnew_8 rfl (lv_at hl 0 rfl) ?_
  refine lv_iconst (v := 0) hx hb dX1_beginAnew_9 (by decide) ?_
  refine va_put (D := (dC, dI)) (ci := 1) (v := .int 0) (ty := .int) (C := RX1) (T := TX1) (N := 4) hx hb hts iX1_beginAnew_X1 tyX1 tyX1_ok nmX1 hown hK hP hD hS 0 rfl rfl 3 (by decide) (hts (.fieldLink RX1 21 "JoinBench$Report" "onDisk" "I") (by decide +kernel)) (fun _ h9 => h9) rfl (by decide +kernel) rfl rfl (Nat.le_of_ble_eq_true rfl) dX1_beginAnew_10 (fun H locs hP hD hS => ?_)
  have hP : va_P (dC, dI) vwCl [(hR, .inr (1, [.ref hF, .ref hE, .ref hQ, .int 0])), (hF, .inl (cI, 11, .inl (jb_fl F 0 11))), (hE, .inl (cI, 1500, .inl E)), (hQ, .inl (cI, 4000, .inl P))] H := hP
  have hD : va_D A [(hR, .inr (1, [.ref hF, .ref hE, .ref hQ, .int 0])), (hF, .inl (cI, 11, .inl (jb_fl F 0 11))), (hE, .inl (cI, 1500, .inl E)), (hQ, .inl (cI, 4000, .inl P))] := hD
  have hP9 : va_P (dC, dI) vwCl [(hR, .inr (1, [.ref hF, .ref hE, .ref hQ, .int 0])), (hF, .inl (cI, 11, .inl (jb_fl F 0 11))), (hE, .inl (cI, 1500, .inl E)), (hQ, .inl (cI, 4000, .inl P))] H := hP.sub [0, 1, 2, 3] rfl
  have hD9 : va_D A [(hR, .inr (1, [.ref hF, .ref hE, .ref hQ, .int 0])), (hF, .inl (cI, 11, .inl (jb_fl F 0 11))), (hE, .inl (cI, 1500, .inl E)), (hQ, .inl (cI, 4000, .inl P))] := hD.sub [0, 1, 2, 3] (by decide) rfl
  exact W.vret hx hb hr (fun t ht hW => ⟨⟨(), rfl, trivial, by rw [ht]; exact hP9, hD9⟩, hS.F ht⟩) hS.2.2 dX1_beginAnew_13
