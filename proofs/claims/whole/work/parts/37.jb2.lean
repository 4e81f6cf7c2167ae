/-! JoinBench.size, Sizes.change (static arrays), JoinBench() (over Sizes(), whose clone of AT_FIRST is an open hypothesis) -/
theorem jb_P_cg {D : va_G} {cl : List vw_C} {ws : va_W} {H : Heap} {k a n : Nat} {cA : ClassId} {f g : Nat → Int32} (hP : va_P D cl ws H) (hk : ws[k]? = some (a, .inl (cA, n, .inl f))) (h : ∀ j, j < n → f j = g j) : va_P D cl (ws.set k (a, .inl (cA, n, .inl g))) H := by
  intro i q hq
  have hlt : k < ws.length := (List.getElem?_eq_some_iff.mp hk).1
  by_cases hi : i = k
  · subst hi
    rw [List.getElem?_set_self hlt] at hq
    cases hq
    have h0 := hP i _ hk
    show H[a]? = some (vp_cell cA (n, .inl g))
    rw [vp_cell_i]
    have e : arrV cA n (fun j => .int (f j)) = arrV cA n (fun j => .int (g j)) := by
      unfold arrV
      congr 1
      congr 1
      funext j
      exact congrArg Value.int (h j.val j.isLt)
    rw [← e]
    exact h0
  · rw [List.getElem?_set_ne (fun h => hi h.symm)] at hq
    exact hP i q hq
def jb_least (j : Nat) : Int32 := if j = 0 then 1 else if j = 1 then 3 else 0
def jb_most (j : Nat) : Int32 := if j = 0 then 16 else if j = 1 then 20 else 8
/-- the static arrays LEAST and MOST -/
def jb_SF (A : Nat → Prop) (U : State) (H : Heap) : Prop := ∃ t1 t2 : Nat, (va_Z "JoinBench$Sizes" "LEAST" "[I" (.ref t1) A U H ∧ va_T .int t1 3 (fun j => .int (jb_least j)) A U H) ∧ (va_Z "JoinBench$Sizes" "MOST" "[I" (.ref t2) A U H ∧ va_T .int t2 3 (fun j => .int (jb_most j)) A U H)
theorem jb_SF.moved {A : Nat → Prop} {u U : State} {H : Heap} (hvm : u.vm.Alike U.vm) (h : jb_SF A u H) : jb_SF A U H := by
  obtain ⟨t1, t2, ⟨a, b⟩, c, d⟩ := h
  exact ⟨t1, t2, ⟨a.moved hvm, b.moved hvm⟩, c.moved hvm, d.moved hvm⟩
theorem jb_SF.kept {A : Nat → Prop} {U : State} {H H1 : Heap} (h : jb_SF A U H) (hq : ∀ a : Nat, a < H.size → ¬ A a → H1[a]? = H[a]?) : jb_SF A U H1 := by
  obtain ⟨t1, t2, ⟨a, b⟩, c, d⟩ := h
  exact ⟨t1, t2, ⟨a.kept hq, b.kept hq⟩, c.kept hq, d.kept hq⟩
theorem jb_SF.narrow {A B : Nat → Prop} {U : State} {H : Heap} (h : jb_SF A U H) (hAB : ∀ q, B q → A q) : jb_SF B U H := by
  obtain ⟨t1, t2, ⟨a, b⟩, c, d⟩ := h
  exact ⟨t1, t2, ⟨a.narrow hAB, b.narrow hAB⟩, c.narrow hAB, d.narrow hAB⟩
def jb_MS (dC : Nat → ClassId) (dI : Nat → Nat → Nat) (cI : ClassId) (sz : Nat) (ws : va_W) : State → Prop := fun U => jb_M dC dI cI sz ws U ∧ jb_SF (va_A ws sz) U U.heap
theorem jb_MS_blind {dC : Nat → ClassId} {dI : Nat → Nat → Nat} {cI : ClassId} {sz : Nat} {ws : va_W} {av : List Value} : FrameBlind (va_Pc av (jb_MS dC dI cI sz ws)) := fun a U g mk q => ⟨q.1, (jb_M_blind a U g mk ⟨q.1, q.2.1⟩).2, q.2.2.moved (Vm.Alike.refl U.vm)⟩
theorem jb_MS_pre {dC : Nat → ClassId} {dI : Nat → Nat → Nat} {cI : ClassId} {ws : va_W} {av : List Value} {A : Nat → Prop} {s : State} {H : Heap} {locs : List Loc} (hP : va_P (dC, dI) vwCl ws H) (hD : va_D A ws) (hK : va_K (dC, dI) vwCl [(cI, .int)] s) (hNw : jb_N s) (hSF : jb_SF A s s.heap) (hS : va_S A s.heap H locs) (hF : ∀ q, va_A ws H.size q → A q) : ∀ U : State, U.heap = H → s.WarmedH U.vm → va_Pc av (jb_MS dC dI cI H.size ws) av.toArray U := fun U hU hW => ⟨rfl, (jb_M_pre (av := av) hP hD hK hNw U hU hW).2, by rw [hU]; exact ((hSF.kept hS.2.1).narrow hF).moved hW.alike⟩
abbrev jb_good (w n : Int32) : Prop := (w = 0 ∧ ¬ n < 1 ∧ n ≤ 16) ∨ (w = 1 ∧ ¬ n < 3 ∧ n ≤ 20) ∨ (w = 2 ∧ ¬ n < 0 ∧ n ≤ 8)
def jb_sz (k : Int32) (old : Nat) (w n : Int32) : Nat := if jb_good w n ∧ w = k then n.toNatClampNeg else old
def jb_szR (w n : Int32) (per mem par : Nat) : Int32 := if jb_good w n then (if w = 0 then nI per else if w = 1 then nI mem else nI par) else -1
theorem jb_sz_y {k : Int32} {old : Nat} {w n : Int32} (h : jb_good w n) (hk : w = k) : jb_sz k old w n = n.toNatClampNeg := if_pos ⟨h, hk⟩
theorem jb_sz_n {k : Int32} {old : Nat} {w n : Int32} (h : ¬ (jb_good w n ∧ w = k)) : jb_sz k old w n = old := if_neg h
theorem jb_nneg {n m : Int32} (h : ¬ n < m) (hm : ¬ m < 0) : ¬ n < 0 := fun q => h (Int32.lt_of_lt_of_le q (Int32.not_lt.mp hm))
theorem jb_ofn' {n : Int32} (h : ¬ n < 0) : nI n.toNatClampNeg = n := by
  obtain ⟨j, hj, e⟩ := nI_of h
  rw [e, nI_clamp hj]
theorem jb_now_u (per mem par : Nat) (n : Int32) (h : ¬ n < 0) : (∀ j, j < 3 → upd (jb_now per mem par) 0 n j = jb_now n.toNatClampNeg mem par j) ∧ (∀ j, j < 3 → upd (jb_now per mem par) 1 n j = jb_now per n.toNatClampNeg par j) ∧ (∀ j, j < 3 → upd (jb_now per mem par) 2 n j = jb_now per mem n.toNatClampNeg j) := by
  have e := jb_ofn' h
  refine ⟨?_, ?_, ?_⟩ <;> intro j hj <;> rcases (show j = 0 ∨ j = 1 ∨ j = 2 by omega) with rfl | rfl | rfl <;> simp [upd, jb_now, e]
theorem iX3_change_X3 : ∀ w ∈ wsX30, w ∈ wsX3_change := by decide +kernel
set_option maxHeartbeats 1000000 in
set_option maxRecDepth 100000 in
/-- Sizes.change(what, n) -/
theorem c_change (l : Launch) (dC : Nat → ClassId) (dI : Nat → Nat → Nat) (cI : ClassId) (sz : Nat) (aS aN per mem par : Nat) (w1 n1 : Int32) : Met l yX3_change wsX3_change ({ frames := 1, cells := 0, slots := 0, locals := 40 } : Room) (va_Pc [.ref aS, .int w1, .int n1] (jb_MS dC dI cI sz [(aS, .inr (3, [.ref aN])), (aN, .inl (cI, 3, .inl (jb_now per mem par)))])) (va_Qi (fun r (_ : Unit) => r = jb_szR w1 n1 per mem par) (jb_B dC dI (va_A [(aS, .inr (3, [.ref aN])), (aN, .inl (cI, 3, .inl (jb_now per mem par)))] sz) (fun _ => [(aS, .inr (3, [.ref aN])), (aN, .inl (cI, 3, .inl (jb_now (jb_sz 0 per w1 n1) (jb_sz 1 mem w1 n1) (jb_sz 2 par w1 n1))))])) (va_A [(aS, .inr (3, [.ref aN])), (aN, .inl (cI, 3, .inl (jb_now per mem par)))] sz)) 0 0 (va_A [(aS, .inr (3, [.ref aN])), (aN, .inl (cI, 3, .inl (jb_now per mem par)))] sz) := by
  refine Met.ofW (cc := cX3_change) (maxL := 4) (ret := (some .int)) (by decide) rfl ?_
  intro p e s m args below meth c s₁ B hml hv
  obtain ⟨rfl, ⟨hsz, hP, hK, hNw, hD0⟩, hSF⟩ := hv
  have hx := B.exec
  have hb := B.bytes
  have hr := B.returns
  have hts := atoms_spec (ws := wsX3_change) B.pre
  have hown : s.vm.findClass RX3 = some m.cls := findClass_of_methodNamed B.named
  have hlocks := B.notSynchronized
  subst hsz
  have hD := hD0.self (sz := s.heap.size)
  generalize hAe : va_A [(aS, .inr (3, [.ref aN])), (aN, .inl (cI, 3, .inl (jb_now per mem par)))] s.heap.size = A at hD hSF ⊢
  have hA : ∀ q : Nat, s.heap.size ≤ q → A q := fun q h => by rw [← hAe]; exact Or.inr h
  have hS : va_S A s.heap s.heap [] := va_S.rf
  have hP : va_P (dC, dI) vwCl [(aS, .inr (3, [.ref aN])), (aN, .inl (cI, 3, .inl (jb_now per mem par)))] s.heap := hP
  have hl := lv_entry ([.ref aS, .int w1, .int n1]) (n := 4) (Nat.le_of_ble_eq_true rfl)
  rw [lg_entry_eq]
  generalize (lg_sl ([.ref aS, .int w1, .int n1]) ++ List.replicate (4 - (lg_sl ([.ref aS, .int w1, .int n1])).length) Slot.unset).toArray = ls at hl ⊢
  have hl : lv_has ls 4 [(0, .ref aS), (1, .int w1), (2, .int n1)] := hl
  have hSF0 := hSF
  obtain ⟨u1, u2, ⟨hZ1, hT1⟩, hZ2, hT2⟩ := hSF
  by_cases z0 : w1 = 0
  · subst z0
    refine lv_iload_n hx hb dX3_change_0 rfl (lv_at hl 1 rfl) ?_
    refine lv_if_lt (tgt := 31) hx hb dX3_change_1 (by decide) (fun c_1 => ?_) (fun c_1 => ?_)
    · exact absurd c_1 (by decide)
    · refine lv_iload_n hx hb dX3_change_4 rfl (lv_at hl 1 rfl) ?_
      refine lv_aload_n hx hb dX3_change_5 rfl (lv_at hl 0 rfl) ?_
      refine va_get (D := (dC, dI)) (ci := 3) (v := .ref aN) (C := RX3) (T := TX3) (N := 1) hx hb hts iX3_change_X3 hown hK hP 0 rfl rfl 0 (by decide) (hts (.fieldLink RX3 20 "JoinBench$Sizes" "now" "[I") (by decide +kernel)) (fun _ h9 => h9) rfl dX3_change_6 ?_
      refine va_alen hx hb hK hP 1 0 rfl rfl (v := nI 3) rfl dX3_change_9 ?_
      refine lv_icmp_ge (tgt := 31) hx hb dX3_change_10 (by decide) (fun c_10 => ?_) (fun c_10 => ?_)
      · exact absurd c_10 (by decide)
      · refine lv_iload_n hx hb dX3_change_13 rfl (lv_at hl 2 rfl) ?_
        refine va_gets hx hb (C := "JoinBench$Sizes") hZ1 hS hown (hts (.fieldLink RX3 23 "JoinBench$Sizes" "LEAST" "[I") (by decide +kernel)) (fun _ h9 => h9) dX3_change_14 ?_
        refine lv_iload_n hx hb dX3_change_17 rfl (lv_at hl 1 rfl) ?_
        refine va_ti hx hb hT1 hS (i := 0) (by unfold vp_in; decide) (v := .int 1) rfl dX3_change_18 ?_
        refine lv_icmp_lt (tgt := 31) hx hb dX3_change_19 (by decide) (fun c_19 => ?_) (fun c_19 => ?_)
        · have hb0 : ¬ jb_good 0 n1 := fun h => h.elim (fun h => h.2.1 c_19) (fun h => h.elim (fun h => absurd h.1 (by decide)) (fun h => absurd h.1 (by decide)))
          refine lv_iconst (v := (-1)) hx hb dX3_change_31 (by decide) ?_
          have hP9 : va_P (dC, dI) vwCl [(aS, .inr (3, [.ref aN])), (aN, .inl (cI, 3, .inl (jb_now (jb_sz 0 per 0 n1) (jb_sz 1 mem 0 n1) (jb_sz 2 par 0 n1))))] s.heap := by rw [show (jb_sz 0 per 0 n1) = per from jb_sz_n (fun h => hb0 h.1), show (jb_sz 1 mem 0 n1) = mem from jb_sz_n (fun h => hb0 h.1), show (jb_sz 2 par 0 n1) = par from jb_sz_n (fun h => hb0 h.1)]; exact hP.sub [0, 1] rfl
          have hD9 : va_D A [(aS, .inr (3, [.ref aN])), (aN, .inl (cI, 3, .inl (jb_now (jb_sz 0 per 0 n1) (jb_sz 1 mem 0 n1) (jb_sz 2 par 0 n1))))] := by rw [show (jb_sz 0 per 0 n1) = per from jb_sz_n (fun h => hb0 h.1), show (jb_sz 1 mem 0 n1) = mem from jb_sz_n (fun h => hb0 h.1), show (jb_sz 2 par 0 n1) = par from jb_sz_n (fun h => hb0 h.1)]; exact hD.sub [0, 1] (by decide) rfl
          exact W.iret (v := (-1)) hx hb hr (fun t ht hW => ⟨⟨_, (), rfl, (if_neg hb0).symm, by rw [ht]; exact hP9, hD9⟩, hS.F ht⟩) hS.2.2 dX3_change_32
        · refine lv_iload_n hx hb dX3_change_22 rfl (lv_at hl 2 rfl) ?_
          refine va_gets hx hb (C := "JoinBench$Sizes") hZ2 hS hown (hts (.fieldLink RX3 26 "JoinBench$Sizes" "MOST" "[I") (by decide +kernel)) (fun _ h9 => h9) dX3_change_23 ?_
          refine lv_iload_n hx hb dX3_change_26 rfl (lv_at hl 1 rfl) ?_
          refine va_ti hx hb hT2 hS (i := 0) (by unfold vp_in; decide) (v := .int 16) rfl dX3_change_27 ?_
          refine lv_icmp_le (tgt := 33) hx hb dX3_change_28 (by decide) (fun c_28 => ?_) (fun c_28 => ?_)
          · have hg : jb_good 0 n1 := Or.inl ⟨rfl, c_19, c_28⟩
            have hn0 : ¬ n1 < 0 := jb_nneg c_19 (by decide)
            refine lv_aload_n hx hb dX3_change_33 rfl (lv_at hl 0 rfl) ?_
            refine va_get (D := (dC, dI)) (ci := 3) (v := .ref aN) (C := RX3) (T := TX3) (N := 1) hx hb hts iX3_change_X3 hown hK hP 0 rfl rfl 0 (by decide) (hts (.fieldLink RX3 20 "JoinBench$Sizes" "now" "[I") (by decide +kernel)) (fun _ h9 => h9) rfl dX3_change_34 ?_
            refine lv_iload_n hx hb dX3_change_37 rfl (lv_at hl 1 rfl) ?_
            refine va_iald hx hb hK hP 1 0 rfl rfl (i := 0) (by unfold vp_in; decide) dX3_change_38 ?_
            refine lv_topi (fun v_1 ev_1 => ?_)
            have hv_1 : v_1 = nI per := ev_1.trans (rfl)
            clear ev_1; subst hv_1
            refine lv_istore_n (lv' := [(3, .int (nI per)), (0, .ref aS), (1, .int 0), (2, .int n1)]) hx hb dX3_change_39 rfl hl (by decide) rfl (fun ls hl => ?_)
            refine lv_aload_n hx hb dX3_change_40 rfl (lv_at hl 1 rfl) ?_
            refine va_get (D := (dC, dI)) (ci := 3) (v := .ref aN) (C := RX3) (T := TX3) (N := 1) hx hb hts iX3_change_X3 hown hK hP 0 rfl rfl 0 (by decide) (hts (.fieldLink RX3 20 "JoinBench$Sizes" "now" "[I") (by decide +kernel)) (fun _ h9 => h9) rfl dX3_change_41 ?_
            refine lv_iload_n hx hb dX3_change_44 rfl (lv_at hl 2 rfl) ?_
            refine lv_iload_n hx hb dX3_change_45 rfl (lv_at hl 3 rfl) ?_
            refine va_iast hx hb hK hP hD hS 1 0 rfl rfl (i := 0) (x := n1) (by unfold vp_in; decide) dX3_change_46 (fun H locs hP hD hS => ?_)
            rw [show (0 : Int32).toNatClampNeg = 0 from rfl] at hP hD
            have hP : va_P (dC, dI) vwCl [(aS, .inr (3, [.ref aN])), (aN, .inl (cI, 3, .inl (upd (jb_now per mem par) 0 n1)))] H := hP
            have hD : va_D A [(aS, .inr (3, [.ref aN])), (aN, .inl (cI, 3, .inl (upd (jb_now per mem par) 0 n1)))] := hD
            have hP := jb_P_cg (k := 1) hP rfl (jb_now_u per mem par n1 hn0).1
            have hD := hD.set (p := 1) (e := .inl (cI, 3, .inl (jb_now n1.toNatClampNeg mem par))) rfl
            have hP : va_P (dC, dI) vwCl [(aS, .inr (3, [.ref aN])), (aN, .inl (cI, 3, .inl (jb_now n1.toNatClampNeg mem par)))] H := hP
            have hD : va_D A [(aS, .inr (3, [.ref aN])), (aN, .inl (cI, 3, .inl (jb_now n1.toNatClampNeg mem par)))] := hD
            refine lv_iload_n hx hb dX3_change_47 rfl (lv_at hl 0 rfl) ?_
            have hP9 : va_P (dC, dI) vwCl [(aS, .inr (3, [.ref aN])), (aN, .inl (cI, 3, .inl (jb_now (jb_sz 0 per 0 n1) (jb_sz 1 mem 0 n1) (jb_sz 2 par 0 n1))))] H := by rw [show (jb_sz 0 per 0 n1) = n1.toNatClampNeg from jb_sz_y hg rfl, show (jb_sz 1 mem 0 n1) = mem from jb_sz_n (fun h => absurd h.2 (by decide)), show (jb_sz 2 par 0 n1) = par from jb_sz_n (fun h => absurd h.2 (by decide))]; exact hP.sub [0, 1] rfl
            have hD9 : va_D A [(aS, .inr (3, [.ref aN])), (aN, .inl (cI, 3, .inl (jb_now (jb_sz 0 per 0 n1) (jb_sz 1 mem 0 n1) (jb_sz 2 par 0 n1))))] := by rw [show (jb_sz 0 per 0 n1) = n1.toNatClampNeg from jb_sz_y hg rfl, show (jb_sz 1 mem 0 n1) = mem from jb_sz_n (fun h => absurd h.2 (by decide)), show (jb_sz 2 par 0 n1) = par from jb_sz_n (fun h => absurd h.2 (by decide))]; exact hD.sub [0, 1] (by decide) rfl
            exact W.iret (v := nI per) hx hb hr (fun t ht hW => ⟨⟨_, (), rfl, by unfold jb_szR; rw [if_pos hg]; rfl, by rw [ht]; exact hP9, hD9⟩, hS.F ht⟩) hS.2.2 dX3_change_48
          · have hb0 : ¬ jb_good 0 n1 := fun h => h.elim (fun h => c_28 h.2.2) (fun h => h.elim (fun h => absurd h.1 (by decide)) (fun h => absurd h.1 (by decide)))
            refine lv_iconst (v := (-1)) hx hb dX3_change_31 (by decide) ?_
            have hP9 : va_P (dC, dI) vwCl [(aS, .inr (3, [.ref aN])), (aN, .inl (cI, 3, .inl (jb_now (jb_sz 0 per 0 n1) (jb_sz 1 mem 0 n1) (jb_sz 2 par 0 n1))))] s.heap := by rw [show (jb_sz 0 per 0 n1) = per from jb_sz_n (fun h => hb0 h.1), show (jb_sz 1 mem 0 n1) = mem from jb_sz_n (fun h => hb0 h.1), show (jb_sz 2 par 0 n1) = par from jb_sz_n (fun h => hb0 h.1)]; exact hP.sub [0, 1] rfl
            have hD9 : va_D A [(aS, .inr (3, [.ref aN])), (aN, .inl (cI, 3, .inl (jb_now (jb_sz 0 per 0 n1) (jb_sz 1 mem 0 n1) (jb_sz 2 par 0 n1))))] := by rw [show (jb_sz 0 per 0 n1) = per from jb_sz_n (fun h => hb0 h.1), show (jb_sz 1 mem 0 n1) = mem from jb_sz_n (fun h => hb0 h.1), show (jb_sz 2 par 0 n1) = par from jb_sz_n (fun h => hb0 h.1)]; exact hD.sub [0, 1] (by decide) rfl
            exact W.iret (v := (-1)) hx hb hr (fun t ht hW => ⟨⟨_, (), rfl, (if_neg hb0).symm, by rw [ht]; exact hP9, hD9⟩, hS.F ht⟩) hS.2.2 dX3_change_32
  · by_cases z1 : w1 = 1
    · subst z1
      refine lv_iload_n hx hb dX3_change_0 rfl (lv_at hl 1 rfl) ?_
      refine lv_if_lt (tgt := 31) hx hb dX3_change_1 (by decide) (fun c_1 => ?_) (fun c_1 => ?_)
      · exact absurd c_1 (by decide)
      · refine lv_iload_n hx hb dX3_change_4 rfl (lv_at hl 1 rfl) ?_
        refine lv_aload_n hx hb dX3_change_5 rfl (lv_at hl 0 rfl) ?_
        refine va_get (D := (dC, dI)) (ci := 3) (v := .ref aN) (C := RX3) (T := TX3) (N := 1) hx hb hts iX3_change_X3 hown hK hP 0 rfl rfl 0 (by decide) (hts (.fieldLink RX3 20 "JoinBench$Sizes" "now" "[I") (by decide +kernel)) (fun _ h9 => h9) rfl dX3_change_6 ?_
        refine va_alen hx hb hK hP 1 0 rfl rfl (v := nI 3) rfl dX3_change_9 ?_
        refine lv_icmp_ge (tgt := 31) hx hb dX3_change_10 (by decide) (fun c_10 => ?_) (fun c_10 => ?_)
        · exact absurd c_10 (by decide)
        · refine lv_iload_n hx hb dX3_change_13 rfl (lv_at hl 2 rfl) ?_
          refine va_gets hx hb (C := "JoinBench$Sizes") hZ1 hS hown (hts (.fieldLink RX3 23 "JoinBench$Sizes" "LEAST" "[I") (by decide +kernel)) (fun _ h9 => h9) dX3_change_14 ?_
          refine lv_iload_n hx hb dX3_change_17 rfl (lv_at hl 1 rfl) ?_
          refine va_ti hx hb hT1 hS (i := 1) (by unfold vp_in; decide) (v := .int 3) rfl dX3_change_18 ?_
          refine lv_icmp_lt (tgt := 31) hx hb dX3_change_19 (by decide) (fun c_19 => ?_) (fun c_19 => ?_)
          · have hb0 : ¬ jb_good 1 n1 := fun h => h.elim (fun h => absurd h.1 (by decide)) (fun h => h.elim (fun h => h.2.1 c_19) (fun h => absurd h.1 (by decide)))
            refine lv_iconst (v := (-1)) hx hb dX3_change_31 (by decide) ?_
            have hP9 : va_P (dC, dI) vwCl [(aS, .inr (3, [.ref aN])), (aN, .inl (cI, 3, .inl (jb_now (jb_sz 0 per 1 n1) (jb_sz 1 mem 1 n1) (jb_sz 2 par 1 n1))))] s.heap := by rw [show (jb_sz 0 per 1 n1) = per from jb_sz_n (fun h => hb0 h.1), show (jb_sz 1 mem 1 n1) = mem from jb_sz_n (fun h => hb0 h.1), show (jb_sz 2 par 1 n1) = par from jb_sz_n (fun h => hb0 h.1)]; exact hP.sub [0, 1] rfl
            have hD9 : va_D A [(aS, .inr (3, [.ref aN])), (aN, .inl (cI, 3, .inl (jb_now (jb_sz 0 per 1 n1) (jb_sz 1 mem 1 n1) (jb_sz 2 par 1 n1))))] := by rw [show (jb_sz 0 per 1 n1) = per from jb_sz_n (fun h => hb0 h.1), show (jb_sz 1 mem 1 n1) = mem from jb_sz_n (fun h => hb0 h.1), show (jb_sz 2 par 1 n1) = par from jb_sz_n (fun h => hb0 h.1)]; exact hD.sub [0, 1] (by decide) rfl
            exact W.iret (v := (-1)) hx hb hr (fun t ht hW => ⟨⟨_, (), rfl, (if_neg hb0).symm, by rw [ht]; exact hP9, hD9⟩, hS.F ht⟩) hS.2.2 dX3_change_32
          · refine lv_iload_n hx hb dX3_change_22 rfl (lv_at hl 2 rfl) ?_
            refine va_gets hx hb (C := "JoinBench$Sizes") hZ2 hS hown (hts (.fieldLink RX3 26 "JoinBench$Sizes" "MOST" "[I") (by decide +kernel)) (fun _ h9 => h9) dX3_change_23 ?_
            refine lv_iload_n hx hb dX3_change_26 rfl (lv_at hl 1 rfl) ?_
            refine va_ti hx hb hT2 hS (i := 1) (by unfold vp_in; decide) (v := .int 20) rfl dX3_change_27 ?_
            refine lv_icmp_le (tgt := 33) hx hb dX3_change_28 (by decide) (fun c_28 => ?_) (fun c_28 => ?_)
            · have hg : jb_good 1 n1 := Or.inr (Or.inl ⟨rfl, c_19, c_28⟩)
              have hn0 : ¬ n1 < 0 := jb_nneg c_19 (by decide)
              refine lv_aload_n hx hb dX3_change_33 rfl (lv_at hl 0 rfl) ?_
              refine va_get (D := (dC, dI)) (ci := 3) (v := .ref aN) (C := RX3) (T := TX3) (N := 1) hx hb hts iX3_change_X3 hown hK hP 0 rfl rfl 0 (by decide) (hts (.fieldLink RX3 20 "JoinBench$Sizes" "now" "[I") (by decide +kernel)) (fun _ h9 => h9) rfl dX3_change_34 ?_
              refine lv_iload_n hx hb dX3_change_37 rfl (lv_at hl 1 rfl) ?_
              refine va_iald hx hb hK hP 1 0 rfl rfl (i := 1) (by unfold vp_in; decide) dX3_change_38 ?_
              refine lv_topi (fun v_2 ev_2 => ?_)
              have hv_2 : v_2 = nI mem := ev_2.trans (rfl)
              clear ev_2; subst hv_2
              refine lv_istore_n (lv' := [(3, .int (nI mem)), (0, .ref aS), (1, .int 1), (2, .int n1)]) hx hb dX3_change_39 rfl hl (by decide) rfl (fun ls hl => ?_)
              refine lv_aload_n hx hb dX3_change_40 rfl (lv_at hl 1 rfl) ?_
              refine va_get (D := (dC, dI)) (ci := 3) (v := .ref aN) (C := RX3) (T := TX3) (N := 1) hx hb hts iX3_change_X3 hown hK hP 0 rfl rfl 0 (by decide) (hts (.fieldLink RX3 20 "JoinBench$Sizes" "now" "[I") (by decide +kernel)) (fun _ h9 => h9) rfl dX3_change_41 ?_
              refine lv_iload_n hx hb dX3_change_44 rfl (lv_at hl 2 rfl) ?_
              refine lv_iload_n hx hb dX3_change_45 rfl (lv_at hl 3 rfl) ?_
              refine va_iast hx hb hK hP hD hS 1 0 rfl rfl (i := 1) (x := n1) (by unfold vp_in; decide) dX3_change_46 (fun H locs hP hD hS => ?_)
              rw [show (1 : Int32).toNatClampNeg = 1 from rfl] at hP hD
              have hP : va_P (dC, dI) vwCl [(aS, .inr (3, [.ref aN])), (aN, .inl (cI, 3, .inl (upd (jb_now per mem par) 1 n1)))] H := hP
              have hD : va_D A [(aS, .inr (3, [.ref aN])), (aN, .inl (cI, 3, .inl (upd (jb_now per mem par) 1 n1)))] := hD
              have hP := jb_P_cg (k := 1) hP rfl (jb_now_u per mem par n1 hn0).2.1
              have hD := hD.set (p := 1) (e := .inl (cI, 3, .inl (jb_now per n1.toNatClampNeg par))) rfl
              have hP : va_P (dC, dI) vwCl [(aS, .inr (3, [.ref aN])), (aN, .inl (cI, 3, .inl (jb_now per n1.toNatClampNeg par)))] H := hP
              have hD : va_D A [(aS, .inr (3, [.ref aN])), (aN, .inl (cI, 3, .inl (jb_now per n1.toNatClampNeg par)))] := hD
              refine lv_iload_n hx hb dX3_change_47 rfl (lv_at hl 0 rfl) ?_
              have hP9 : va_P (dC, dI) vwCl [(aS, .inr (3, [.ref aN])), (aN, .inl (cI, 3, .inl (jb_now (jb_sz 0 per 1 n1) (jb_sz 1 mem 1 n1) (jb_sz 2 par 1 n1))))] H := by rw [show (jb_sz 0 per 1 n1) = per from jb_sz_n (fun h => absurd h.2 (by decide)), show (jb_sz 1 mem 1 n1) = n1.toNatClampNeg from jb_sz_y hg rfl, show (jb_sz 2 par 1 n1) = par from jb_sz_n (fun h => absurd h.2 (by decide))]; exact hP.sub [0, 1] rfl
              have hD9 : va_D A [(aS, .inr (3, [.ref aN])), (aN, .inl (cI, 3, .inl (jb_now (jb_sz 0 per 1 n1) (jb_sz 1 mem 1 n1) (jb_sz 2 par 1 n1))))] := by rw [show (jb_sz 0 per 1 n1) = per from jb_sz_n (fun h => absurd h.2 (by decide)), show (jb_sz 1 mem 1 n1) = n1.toNatClampNeg from jb_sz_y hg rfl, show (jb_sz 2 par 1 n1) = par from jb_sz_n (fun h => absurd h.2 (by decide))]; exact hD.sub [0, 1] (by decide) rfl
              exact W.iret (v := nI mem) hx hb hr (fun t ht hW => ⟨⟨_, (), rfl, by unfold jb_szR; rw [if_pos hg]; rfl, by rw [ht]; exact hP9, hD9⟩, hS.F ht⟩) hS.2.2 dX3_change_48
            · have hb0 : ¬ jb_good 1 n1 := fun h => h.elim (fun h => absurd h.1 (by decide)) (fun h => h.elim (fun h => c_28 h.2.2) (fun h => absurd h.1 (by decide)))
              refine lv_iconst (v := (-1)) hx hb dX3_change_31 (by decide) ?_
              have hP9 : va_P (dC, dI) vwCl [(aS, .inr (3, [.ref aN])), (aN, .inl (cI, 3, .inl (jb_now (jb_sz 0 per 1 n1) (jb_sz 1 mem 1 n1) (jb_sz 2 par 1 n1))))] s.heap := by rw [show (jb_sz 0 per 1 n1) = per from jb_sz_n (fun h => hb0 h.1), show (jb_sz 1 mem 1 n1) = mem from jb_sz_n (fun h => hb0 h.1), show (jb_sz 2 par 1 n1) = par from jb_sz_n (fun h => hb0 h.1)]; exact hP.sub [0, 1] rfl
              have hD9 : va_D A [(aS, .inr (3, [.ref aN])), (aN, .inl (cI, 3, .inl (jb_now (jb_sz 0 per 1 n1) (jb_sz 1 mem 1 n1) (jb_sz 2 par 1 n1))))] := by rw [show (jb_sz 0 per 1 n1) = per from jb_sz_n (fun h => hb0 h.1), show (jb_sz 1 mem 1 n1) = mem from jb_sz_n (fun h => hb0 h.1), show (jb_sz 2 par 1 n1) = par from jb_sz_n (fun h => hb0 h.1)]; exact hD.sub [0, 1] (by decide) rfl
              exact W.iret (v := (-1)) hx hb hr (fun t ht hW => ⟨⟨_, (), rfl, (if_neg hb0).symm, by rw [ht]; exact hP9, hD9⟩, hS.F ht⟩) hS.2.2 dX3_change_32
    · by_cases z2 : w1 = 2
      · subst z2
        refine lv_iload_n hx hb dX3_change_0 rfl (lv_at hl 1 rfl) ?_
        refine lv_if_lt (tgt := 31) hx hb dX3_change_1 (by decide) (fun c_1 => ?_) (fun c_1 => ?_)
        · exact absurd c_1 (by decide)
        · refine lv_iload_n hx hb dX3_change_4 rfl (lv_at hl 1 rfl) ?_
          refine lv_aload_n hx hb dX3_change_5 rfl (lv_at hl 0 rfl) ?_
          refine va_get (D := (dC, dI)) (ci := 3) (v := .ref aN) (C := RX3) (T := TX3) (N := 1) hx hb hts iX3_change_X3 hown hK hP 0 rfl rfl 0 (by decide) (hts (.fieldLink RX3 20 "JoinBench$Sizes" "now" "[I") (by decide +kernel)) (fun _ h9 => h9) rfl dX3_change_6 ?_
          refine va_alen hx hb hK hP 1 0 rfl rfl (v := nI 3) rfl dX3_change_9 ?_
          refine lv_icmp_ge (tgt := 31) hx hb dX3_change_10 (by decide) (fun c_10 => ?_) (fun c_10 => ?_)
          · exact absurd c_10 (by decide)
          · refine lv_iload_n hx hb dX3_change_13 rfl (lv_at hl 2 rfl) ?_
            refine va_gets hx hb (C := "JoinBench$Sizes") hZ1 hS hown (hts (.fieldLink RX3 23 "JoinBench$Sizes" "LEAST" "[I") (by decide +kernel)) (fun _ h9 => h9) dX3_change_14 ?_
            refine lv_iload_n hx hb dX3_change_17 rfl (lv_at hl 1 rfl) ?_
            refine va_ti hx hb hT1 hS (i := 2) (by unfold vp_in; decide) (v := .int 0) rfl dX3_change_18 ?_
            refine lv_icmp_lt (tgt := 31) hx hb dX3_change_19 (by decide) (fun c_19 => ?_) (fun c_19 => ?_)
            · have hb0 : ¬ jb_good 2 n1 := fun h => h.elim (fun h => absurd h.1 (by decide)) (fun h => h.elim (fun h => absurd h.1 (by decide)) (fun h => h.2.1 c_19))
              refine lv_iconst (v := (-1)) hx hb dX3_change_31 (by decide) ?_
              have hP9 : va_P (dC, dI) vwCl [(aS, .inr (3, [.ref aN])), (aN, .inl (cI, 3, .inl (jb_now (jb_sz 0 per 2 n1) (jb_sz 1 mem 2 n1) (jb_sz 2 par 2 n1))))] s.heap := by rw [show (jb_sz 0 per 2 n1) = per from jb_sz_n (fun h => hb0 h.1), show (jb_sz 1 mem 2 n1) = mem from jb_sz_n (fun h => hb0 h.1), show (jb_sz 2 par 2 n1) = par from jb_sz_n (fun h => hb0 h.1)]; exact hP.sub [0, 1] rfl
              have hD9 : va_D A [(aS, .inr (3, [.ref aN])), (aN, .inl (cI, 3, .inl (jb_now (jb_sz 0 per 2 n1) (jb_sz 1 mem 2 n1) (jb_sz 2 par 2 n1))))] := by rw [show (jb_sz 0 per 2 n1) = per from jb_sz_n (fun h => hb0 h.1), show (jb_sz 1 mem 2 n1) = mem from jb_sz_n (fun h => hb0 h.1), show (jb_sz 2 par 2 n1) = par from jb_sz_n (fun h => hb0 h.1)]; exact hD.sub [0, 1] (by decide) rfl
              exact W.iret (v := (-1)) hx hb hr (fun t ht hW => ⟨⟨_, (), rfl, (if_neg hb0).symm, by rw [ht]; exact hP9, hD9⟩, hS.F ht⟩) hS.2.2 dX3_change_32
            · refine lv_iload_n hx hb dX3_change_22 rfl (lv_at hl 2 rfl) ?_
              refine va_gets hx hb (C := "JoinBench$Sizes") hZ2 hS hown (hts (.fieldLink RX3 26 "JoinBench$Sizes" "MOST" "[I") (by decide +kernel)) (fun _ h9 => h9) dX3_change_23 ?_
              refine lv_iload_n hx hb dX3_change_26 rfl (lv_at hl 1 rfl) ?_
              refine va_ti hx hb hT2 hS (i := 2) (by unfold vp_in; decide) (v := .int 8) rfl dX3_change_27 ?_
              refine lv_icmp_le (tgt := 33) hx hb dX3_change_28 (by decide) (fun c_28 => ?_) (fun c_28 => ?_)
              · have hg : jb_good 2 n1 := Or.inr (Or.inr ⟨rfl, c_19, c_28⟩)
                have hn0 : ¬ n1 < 0 := jb_nneg c_19 (by decide)
                refine lv_aload_n hx hb dX3_change_33 rfl (lv_at hl 0 rfl) ?_
                refine va_get (D := (dC, dI)) (ci := 3) (v := .ref aN) (C := RX3) (T := TX3) (N := 1) hx hb hts iX3_change_X3 hown hK hP 0 rfl rfl 0 (by decide) (hts (.fieldLink RX3 20 "JoinBench$Sizes" "now" "[I") (by decide +kernel)) (fun _ h9 => h9) rfl dX3_change_34 ?_
                refine lv_iload_n hx hb dX3_change_37 rfl (lv_at hl 1 rfl) ?_
                refine va_iald hx hb hK hP 1 0 rfl rfl (i := 2) (by unfold vp_in; decide) dX3_change_38 ?_
                refine lv_topi (fun v_3 ev_3 => ?_)
                have hv_3 : v_3 = nI par := ev_3.trans (rfl)
                clear ev_3; subst hv_3
                refine lv_istore_n (lv' := [(3, .int (nI par)), (0, .ref aS), (1, .int 2), (2, .int n1)]) hx hb dX3_change_39 rfl hl (by decide) rfl (fun ls hl => ?_)
                refine lv_aload_n hx hb dX3_change_40 rfl (lv_at hl 1 rfl) ?_
                refine va_get (D := (dC, dI)) (ci := 3) (v := .ref aN) (C := RX3) (T := TX3) (N := 1) hx hb hts iX3_change_X3 hown hK hP 0 rfl rfl 0 (by decide) (hts (.fieldLink RX3 20 "JoinBench$Sizes" "now" "[I") (by decide +kernel)) (fun _ h9 => h9) rfl dX3_change_41 ?_
                refine lv_iload_n hx hb dX3_change_44 rfl (lv_at hl 2 rfl) ?_
                refine lv_iload_n hx hb dX3_change_45 rfl (lv_at hl 3 rfl) ?_
                refine va_iast hx hb hK hP hD hS 1 0 rfl rfl (i := 2) (x := n1) (by unfold vp_in; decide) dX3_change_46 (fun H locs hP hD hS => ?_)
                rw [show (2 : Int32).toNatClampNeg = 2 from rfl] at hP hD
                have hP : va_P (dC, dI) vwCl [(aS, .inr (3, [.ref aN])), (aN, .inl (cI, 3, .inl (upd (jb_now per mem par) 2 n1)))] H := hP
                have hD : va_D A [(aS, .inr (3, [.ref aN])), (aN, .inl (cI, 3, .inl (upd (jb_now per mem par) 2 n1)))] := hD
                have hP := jb_P_cg (k := 1) hP rfl (jb_now_u per mem par n1 hn0).2.2
                have hD := hD.set (p := 1) (e := .inl (cI, 3, .inl (jb_now per mem n1.toNatClampNeg))) rfl
                have hP : va_P (dC, dI) vwCl [(aS, .inr (3, [.ref aN])), (aN, .inl (cI, 3, .inl (jb_now per mem n1.toNatClampNeg)))] H := hP
                have hD : va_D A [(aS, .inr (3, [.ref aN])), (aN, .inl (cI, 3, .inl (jb_now per mem n1.toNatClampNeg)))] := hD
                refine lv_iload_n hx hb dX3_change_47 rfl (lv_at hl 0 rfl) ?_
                have hP9 : va_P (dC, dI) vwCl [(aS, .inr (3, [.ref aN])), (aN, .inl (cI, 3, .inl (jb_now (jb_sz 0 per 2 n1) (jb_sz 1 mem 2 n1) (jb_sz 2 par 2 n1))))] H := by rw [show (jb_sz 0 per 2 n1) = per from jb_sz_n (fun h => absurd h.2 (by decide)), show (jb_sz 1 mem 2 n1) = mem from jb_sz_n (fun h => absurd h.2 (by decide)), show (jb_sz 2 par 2 n1) = n1.toNatClampNeg from jb_sz_y hg rfl]; exact hP.sub [0, 1] rfl
                have hD9 : va_D A [(aS, .inr (3, [.ref aN])), (aN, .inl (cI, 3, .inl (jb_now (jb_sz 0 per 2 n1) (jb_sz 1 mem 2 n1) (jb_sz 2 par 2 n1))))] := by rw [show (jb_sz 0 per 2 n1) = per from jb_sz_n (fun h => absurd h.2 (by decide)), show (jb_sz 1 mem 2 n1) = mem from jb_sz_n (fun h => absurd h.2 (by decide)), show (jb_sz 2 par 2 n1) = n1.toNatClampNeg from jb_sz_y hg rfl]; exact hD.sub [0, 1] (by decide) rfl
                exact W.iret (v := nI par) hx hb hr (fun t ht hW => ⟨⟨_, (), rfl, by unfold jb_szR; rw [if_pos hg]; rfl, by rw [ht]; exact hP9, hD9⟩, hS.F ht⟩) hS.2.2 dX3_change_48
              · have hb0 : ¬ jb_good 2 n1 := fun h => h.elim (fun h => absurd h.1 (by decide)) (fun h => h.elim (fun h => absurd h.1 (by decide)) (fun h => c_28 h.2.2))
                refine lv_iconst (v := (-1)) hx hb dX3_change_31 (by decide) ?_
                have hP9 : va_P (dC, dI) vwCl [(aS, .inr (3, [.ref aN])), (aN, .inl (cI, 3, .inl (jb_now (jb_sz 0 per 2 n1) (jb_sz 1 mem 2 n1) (jb_sz 2 par 2 n1))))] s.heap := by rw [show (jb_sz 0 per 2 n1) = per from jb_sz_n (fun h => hb0 h.1), show (jb_sz 1 mem 2 n1) = mem from jb_sz_n (fun h => hb0 h.1), show (jb_sz 2 par 2 n1) = par from jb_sz_n (fun h => hb0 h.1)]; exact hP.sub [0, 1] rfl
                have hD9 : va_D A [(aS, .inr (3, [.ref aN])), (aN, .inl (cI, 3, .inl (jb_now (jb_sz 0 per 2 n1) (jb_sz 1 mem 2 n1) (jb_sz 2 par 2 n1))))] := by rw [show (jb_sz 0 per 2 n1) = per from jb_sz_n (fun h => hb0 h.1), show (jb_sz 1 mem 2 n1) = mem from jb_sz_n (fun h => hb0 h.1), show (jb_sz 2 par 2 n1) = par from jb_sz_n (fun h => hb0 h.1)]; exact hD.sub [0, 1] (by decide) rfl
                exact W.iret (v := (-1)) hx hb hr (fun t ht hW => ⟨⟨_, (), rfl, (if_neg hb0).symm, by rw [ht]; exact hP9, hD9⟩, hS.F ht⟩) hS.2.2 dX3_change_32
      · have hb0 : ¬ jb_good w1 n1 := fun h => h.elim (fun h => z0 h.1) (fun h => h.elim (fun h => z1 h.1) (fun h => z2 h.1))
        refine lv_iload_n hx hb dX3_change_0 rfl (lv_at hl 1 rfl) ?_
        refine lv_if_lt (tgt := 31) hx hb dX3_change_1 (by decide) (fun c_1 => ?_) (fun c_1 => ?_)
        · refine lv_iconst (v := (-1)) hx hb dX3_change_31 (by decide) ?_
          have hP9 : va_P (dC, dI) vwCl [(aS, .inr (3, [.ref aN])), (aN, .inl (cI, 3, .inl (jb_now (jb_sz 0 per w1 n1) (jb_sz 1 mem w1 n1) (jb_sz 2 par w1 n1))))] s.heap := by rw [show (jb_sz 0 per w1 n1) = per from jb_sz_n (fun h => hb0 h.1), show (jb_sz 1 mem w1 n1) = mem from jb_sz_n (fun h => hb0 h.1), show (jb_sz 2 par w1 n1) = par from jb_sz_n (fun h => hb0 h.1)]; exact hP.sub [0, 1] rfl
          have hD9 : va_D A [(aS, .inr (3, [.ref aN])), (aN, .inl (cI, 3, .inl (jb_now (jb_sz 0 per w1 n1) (jb_sz 1 mem w1 n1) (jb_sz 2 par w1 n1))))] := by rw [show (jb_sz 0 per w1 n1) = per from jb_sz_n (fun h => hb0 h.1), show (jb_sz 1 mem w1 n1) = mem from jb_sz_n (fun h => hb0 h.1), show (jb_sz 2 par w1 n1) = par from jb_sz_n (fun h => hb0 h.1)]; exact hD.sub [0, 1] (by decide) rfl
          exact W.iret (v := (-1)) hx hb hr (fun t ht hW => ⟨⟨_, (), rfl, (if_neg hb0).symm, by rw [ht]; exact hP9, hD9⟩, hS.F ht⟩) hS.2.2 dX3_change_32
        · refine lv_iload_n hx hb dX3_change_4 rfl (lv_at hl 1 rfl) ?_
          refine lv_aload_n hx hb dX3_change_5 rfl (lv_at hl 0 rfl) ?_
          refine va_get (D := (dC, dI)) (ci := 3) (v := .ref aN) (C := RX3) (T := TX3) (N := 1) hx hb hts iX3_change_X3 hown hK hP 0 rfl rfl 0 (by decide) (hts (.fieldLink RX3 20 "JoinBench$Sizes" "now" "[I") (by decide +kernel)) (fun _ h9 => h9) rfl dX3_change_6 ?_
          refine va_alen hx hb hK hP 1 0 rfl rfl (v := nI 3) rfl dX3_change_9 ?_
          refine lv_icmp_ge (tgt := 31) hx hb dX3_change_10 (by decide) (fun c_10 => ?_) (fun c_10 => ?_)
          · refine lv_iconst (v := (-1)) hx hb dX3_change_31 (by decide) ?_
            have hP9 : va_P (dC, dI) vwCl [(aS, .inr (3, [.ref aN])), (aN, .inl (cI, 3, .inl (jb_now (jb_sz 0 per w1 n1) (jb_sz 1 mem w1 n1) (jb_sz 2 par w1 n1))))] s.heap := by rw [show (jb_sz 0 per w1 n1) = per from jb_sz_n (fun h => hb0 h.1), show (jb_sz 1 mem w1 n1) = mem from jb_sz_n (fun h => hb0 h.1), show (jb_sz 2 par w1 n1) = par from jb_sz_n (fun h => hb0 h.1)]; exact hP.sub [0, 1] rfl
            have hD9 : va_D A [(aS, .inr (3, [.ref aN])), (aN, .inl (cI, 3, .inl (jb_now (jb_sz 0 per w1 n1) (jb_sz 1 mem w1 n1) (jb_sz 2 par w1 n1))))] := by rw [show (jb_sz 0 per w1 n1) = per from jb_sz_n (fun h => hb0 h.1), show (jb_sz 1 mem w1 n1) = mem from jb_sz_n (fun h => hb0 h.1), show (jb_sz 2 par w1 n1) = par from jb_sz_n (fun h => hb0 h.1)]; exact hD.sub [0, 1] (by decide) rfl
            exact W.iret (v := (-1)) hx hb hr (fun t ht hW => ⟨⟨_, (), rfl, (if_neg hb0).symm, by rw [ht]; exact hP9, hD9⟩, hS.F ht⟩) hS.2.2 dX3_change_32
          · obtain ⟨j, hj, ej⟩ := vp_in_of (jb_in_of (N := 3) (n := 3) rfl c_1 (Int32.not_le.mp c_10)) (by decide)
            rcases (show j = 0 ∨ j = 1 ∨ j = 2 by omega) with rfl | rfl | rfl
            · exact absurd ej z0
            · exact absurd ej z1
            · exact absurd ej z2
theorem iX5_size_X5 : ∀ w ∈ wsX50, w ∈ wsX5_size := by decide +kernel
set_option maxHeartbeats 1000000 in
set_option maxRecDepth 100000 in
/-- JoinBench.size(what, n) -/
theorem c_size (l : Launch) (dC : Nat → ClassId) (dI : Nat → Nat → Nat) (cI : ClassId) (sz : Nat) (hB aS aN tL tR hR hJ per mem par : Nat) (w1 n1 : Int32) : Met l yX5_size wsX5_size ({ frames := 2, cells := 0, slots := 0, locals := 80 } : Room) (va_Pc [.ref hB, .int w1, .int n1] (jb_MS dC dI cI sz [(hB, .inr (5, [.ref aS, .ref tL, .ref tR, .ref hR, .ref hJ])), (aS, .inr (3, [.ref aN])), (aN, .inl (cI, 3, .inl (jb_now per mem par)))])) (va_Qi (fun r (_ : Unit) => r = jb_szR w1 n1 per mem par) (jb_B dC dI (va_A [(hB, .inr (5, [.ref aS, .ref tL, .ref tR, .ref hR, .ref hJ])), (aS, .inr (3, [.ref aN])), (aN, .inl (cI, 3, .inl (jb_now per mem par)))] sz) (fun _ => [(hB, .inr (5, [.ref aS, .ref tL, .ref tR, .ref hR, .ref hJ])), (aS, .inr (3, [.ref aN])), (aN, .inl (cI, 3, .inl (jb_now (jb_sz 0 per w1 n1) (jb_sz 1 mem w1 n1) (jb_sz 2 par w1 n1))))])) (va_A [(hB, .inr (5, [.ref aS, .ref tL, .ref tR, .ref hR, .ref hJ])), (aS, .inr (3, [.ref aN])), (aN, .inl (cI, 3, .inl (jb_now per mem par)))] sz)) 0 0 (va_A [(hB, .inr (5, [.ref aS, .ref tL, .ref tR, .ref hR, .ref hJ])), (aS, .inr (3, [.ref aN])), (aN, .inl (cI, 3, .inl (jb_now per mem par)))] sz) := by
  refine Met.ofW (cc := cX5_size) (maxL := 3) (ret := (some .int)) (by decide) rfl ?_
  intro p e s m args below meth c s₁ B hml hv
  obtain ⟨rfl, ⟨hsz, hP, hK, hNw, hD0⟩, hSF⟩ := hv
  have hx := B.exec
  have hb := B.bytes
  have hr := B.returns
  have hts := atoms_spec (ws := wsX5_size) B.pre
  have hown : s.vm.findClass RX5 = some m.cls := findClass_of_methodNamed B.named
  have hlocks := B.notSynchronized
  subst hsz
  have hD := hD0.self (sz := s.heap.size)
  generalize hAe : va_A [(hB, .inr (5, [.ref aS, .ref tL, .ref tR, .ref hR, .ref hJ])), (aS, .inr (3, [.ref aN])), (aN, .inl (cI, 3, .inl (jb_now per mem par)))] s.heap.size = A at hD hSF ⊢
  have hA : ∀ q : Nat, s.heap.size ≤ q → A q := fun q h => by rw [← hAe]; exact Or.inr h
  have hS : va_S A s.heap s.heap [] := va_S.rf
  have hP : va_P (dC, dI) vwCl [(hB, .inr (5, [.ref aS, .ref tL, .ref tR, .ref hR, .ref hJ])), (aS, .inr (3, [.ref aN])), (aN, .inl (cI, 3, .inl (jb_now per mem par)))] s.heap := hP
  have hl := lv_entry ([.ref hB, .int w1, .int n1]) (n := 3) (Nat.le_of_ble_eq_true rfl)
  rw [lg_entry_eq]
  generalize (lg_sl ([.ref hB, .int w1, .int n1]) ++ List.replicate (3 - (lg_sl ([.ref hB, .int w1, .int n1])).length) Slot.unset).toArray = ls at hl ⊢
  have hl : lv_has ls 3 [(0, .ref hB), (1, .int w1), (2, .int n1)] := hl
  have hSF0 := hSF
  obtain ⟨u1, u2, ⟨hZ1, hT1⟩, hZ2, hT2⟩ := hSF
  refine lv_aload_n hx hb dX5_size_0 rfl (lv_at hl 0 rfl) ?_
  refine va_get (D := (dC, dI)) (ci := 5) (v := .ref aS) (C := RX5) (T := TX5) (N := 5) hx hb hts iX5_size_X5 hown hK hP 0 rfl rfl 0 (by decide) (hts (.fieldLink RX5 12 "JoinBench" "sizes" "LJoinBench$Sizes;") (by decide +kernel)) (fun _ h9 => h9) rfl dX5_size_1 ?_
  refine lv_iload_n hx hb dX5_size_4 rfl (lv_at hl 1 rfl) ?_
  refine lv_iload_n hx hb dX5_size_5 rfl (lv_at hl 2 rfl) ?_
  refine jb_ci (wc := [(aS, .inr (3, [.ref aN])), (aN, .inl (cI, 3, .inl (jb_now per mem par)))]) (wr := [(hB, .inr (5, [.ref aS, .ref tL, .ref tR, .ref hR, .ref hJ]))]) (va_runV (As := [.int w1, .int n1]) (rest := []) ⟨hx, hb, hml, hown, hts⟩ (c_change l dC dI cI s.heap.size aS aN per mem par w1 n1) (cwV 2 hts gX5_size_X3_change rfl rfl rfl (by decide +kernel) ⟨(by decide +kernel), (by decide +kernel)⟩)  ⟨jb_MS_blind, va_recv hK hP (ci := 3) (q0 := 1) rfl rfl, jb_MS_pre (hP.sub (ws' := [(aS, .inr (3, [.ref aN])), (aN, .inl (cI, 3, .inl (jb_now per mem par)))]) [1, 2] rfl) (hD.sub (ws' := [(aS, .inr (3, [.ref aN])), (aN, .inl (cI, 3, .inl (jb_now per mem par)))]) [1, 2] (by decide) rfl) hK hNw hSF0 hS (va_free hD hS hA [1, 2] rfl)⟩ rfl rfl hl.1 rfl (lv_room (Nat.le_of_ble_eq_true rfl)) dX5_size_6 ⟨by decide +kernel, by decide +kernel⟩) hP hD hS hA [1, 2] [0] rfl rfl (by decide) (by decide) (fun r_1 u_1 H locs hu_1 hP hD hS => ?_)
  subst hu_1
  have hP : va_P (dC, dI) vwCl [(hB, .inr (5, [.ref aS, .ref tL, .ref tR, .ref hR, .ref hJ])), (aS, .inr (3, [.ref aN])), (aN, .inl (cI, 3, .inl (jb_now (jb_sz 0 per w1 n1) (jb_sz 1 mem w1 n1) (jb_sz 2 par w1 n1))))] H := hP.sub [0, 1, 2] rfl
  have hD : va_D A [(hB, .inr (5, [.ref aS, .ref tL, .ref tR, .ref hR, .ref hJ])), (aS, .inr (3, [.ref aN])), (aN, .inl (cI, 3, .inl (jb_now (jb_sz 0 per w1 n1) (jb_sz 1 mem w1 n1) (jb_sz 2 par w1 n1))))] := hD.sub [0, 1, 2] (by decide) rfl
  have hP9 : va_P (dC, dI) vwCl [(hB, .inr (5, [.ref aS, .ref tL, .ref tR, .ref hR, .ref hJ])), (aS, .inr (3, [.ref aN])), (aN, .inl (cI, 3, .inl (jb_now (jb_sz 0 per w1 n1) (jb_sz 1 mem w1 n1) (jb_sz 2 par w1 n1))))] H := hP.sub [0, 1, 2] rfl
  have hD9 : va_D A [(hB, .inr (5, [.ref aS, .ref tL, .ref tR, .ref hR, .ref hJ])), (aS, .inr (3, [.ref aN])), (aN, .inl (cI, 3, .inl (jb_now (jb_sz 0 per w1 n1) (jb_sz 1 mem w1 n1) (jb_sz 2 par w1 n1))))] := hD.sub [0, 1, 2] (by decide) rfl
  exact W.iret (v := jb_szR w1 n1 per mem par) hx hb hr (fun t ht hW => ⟨⟨_, (), rfl, rfl, by rw [ht]; exact hP9, hD9⟩, hS.F ht⟩) hS.2.2 dX5_size_9
