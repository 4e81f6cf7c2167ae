/-! a table as it was joined, and its order: the class JoinBench$Side (X2) -/
theorem iX2_keyOf_X2 : ∀ w ∈ wsX20, w ∈ wsX2_keyOf := by decide +kernel
set_option maxHeartbeats 1000000 in
set_option maxRecDepth 100000 in
/-- Side.keyOf, in range -/
theorem c_keyOf (l : Launch) (dC : Nat → ClassId) (dI : Nat → Nat → Nat) (cI : ClassId) (hL aS kA vA oA sA eA : Nat) (b : Int32) (K V : Nat → Int32) (o : Nat → Nat) (Sp Pe : Nat → Int32) (n : Nat) (j : Nat) (hj : j < n) (hn : n ≤ 500) : Met l yX2_keyOf wsX2_keyOf ({ frames := 1, cells := 0, slots := 0, locals := 40 } : Room) (va_Pc [.ref hL, .int (nI j)] (jb_R dC dI cI [(hL, .inr (2, [.ref aS, .int b, .ref kA, .ref vA, .ref oA, .ref sA, .ref eA, .int (nI n)])), (kA, .inl (cI, 500, .inl K)), (vA, .inl (cI, 500, .inl V)), (oA, .inl (cI, 500, .inl (jb_O o))), (sA, .inl (cI, 500, .inl Sp)), (eA, .inl (cI, 152, .inl Pe))])) (vp_Si (fun r => r = K j)) 0 0 (fun _ => False) := by
  refine Met.ofW (cc := cX2_keyOf) (maxL := 2) (ret := (some .int)) (by decide) rfl ?_
  intro p e s m args below meth c s₁ B hml hv
  obtain ⟨rfl, hP, hK, hNw⟩ := hv
  have hx := B.exec
  have hb := B.bytes
  have hr := B.returns
  have hts := atoms_spec (ws := wsX2_keyOf) B.pre
  have hown : s.vm.findClass RX2 = some m.cls := findClass_of_methodNamed B.named
  have hlocks := B.notSynchronized
  have hl := lv_entry ([.ref hL, .int (nI j)]) (n := 2) (Nat.le_of_ble_eq_true rfl)
  rw [lg_entry_eq]
  generalize (lg_sl ([.ref hL, .int (nI j)]) ++ List.replicate (2 - (lg_sl ([.ref hL, .int (nI j)])).length) Slot.unset).toArray = ls at hl ⊢
  have hl : lv_has ls 2 [(0, .ref hL), (1, .int (nI j))] := hl
  refine lv_iload_n hx hb dX2_keyOf_0 rfl (lv_at hl 1 rfl) ?_
  refine lv_if_lt (tgt := 12) hx hb dX2_keyOf_1 (by decide) (fun c_1 => ?_) (fun c_1 => ?_)
  · exact absurd c_1 (nI_pos (by omega))
  · refine lv_iload_n hx hb dX2_keyOf_4 rfl (lv_at hl 1 rfl) ?_
    refine lv_aload_n hx hb dX2_keyOf_5 rfl (lv_at hl 0 rfl) ?_
    refine va_get (D := (dC, dI)) (ci := 2) (v := .int (nI n)) (C := RX2) (T := TX2) (N := 8) hx hb hts iX2_keyOf_X2 hown hK hP 0 rfl rfl 7 (by decide) (hts (.fieldLink RX2 35 "JoinBench$Side" "count" "I") (by decide +kernel)) (fun _ h9 => h9) rfl dX2_keyOf_6 ?_
    refine lv_icmp_lt (tgt := 16) hx hb dX2_keyOf_9 (by decide) (fun c_9 => ?_) (fun c_9 => ?_)
    · refine lv_aload_n hx hb dX2_keyOf_16 rfl (lv_at hl 0 rfl) ?_
      refine va_get (D := (dC, dI)) (ci := 2) (v := .ref kA) (C := RX2) (T := TX2) (N := 8) hx hb hts iX2_keyOf_X2 hown hK hP 0 rfl rfl 2 (by decide) (hts (.fieldLink RX2 19 "JoinBench$Side" "keys" "[I") (by decide +kernel)) (fun _ h9 => h9) rfl dX2_keyOf_17 ?_
      refine lv_iload_n hx hb dX2_keyOf_20 rfl (lv_at hl 1 rfl) ?_
      refine va_iald hx hb hK hP 1 0 rfl rfl (i := nI j) (vp_in_nI (n := j) (by omega) (by decide)) dX2_keyOf_21 ?_
      refine lv_topi (fun v_1 ev_1 => ?_)
      have hv_1 : v_1 = (K j) := ev_1.trans (congrArg _ (nI_clamp (by omega)))
      clear ev_1; subst hv_1
      exact W.iret (v := (K j)) hx hb hr (fun t ht hW => ⟨_, rfl, rfl, ht⟩) (fun _ h => by cases h) dX2_keyOf_22
    · exact absurd (nI_lt hj (by omega)) c_9
theorem iX2_valueOf_X2 : ∀ w ∈ wsX20, w ∈ wsX2_valueOf := by decide +kernel
set_option maxHeartbeats 1000000 in
set_option maxRecDepth 100000 in
/-- Side.valueOf, in range -/
theorem c_valueOf (l : Launch) (dC : Nat → ClassId) (dI : Nat → Nat → Nat) (cI : ClassId) (hL aS kA vA oA sA eA : Nat) (b : Int32) (K V : Nat → Int32) (o : Nat → Nat) (Sp Pe : Nat → Int32) (n : Nat) (j : Nat) (hj : j < n) (hn : n ≤ 500) : Met l yX2_valueOf wsX2_valueOf ({ frames := 1, cells := 0, slots := 0, locals := 40 } : Room) (va_Pc [.ref hL, .int (nI j)] (jb_R dC dI cI [(hL, .inr (2, [.ref aS, .int b, .ref kA, .ref vA, .ref oA, .ref sA, .ref eA, .int (nI n)])), (kA, .inl (cI, 500, .inl K)), (vA, .inl (cI, 500, .inl V)), (oA, .inl (cI, 500, .inl (jb_O o))), (sA, .inl (cI, 500, .inl Sp)), (eA, .inl (cI, 152, .inl Pe))])) (vp_Si (fun r => r = V j)) 0 0 (fun _ => False) := by
  refine Met.ofW (cc := cX2_valueOf) (maxL := 2) (ret := (some .int)) (by decide) rfl ?_
  intro p e s m args below meth c s₁ B hml hv
  obtain ⟨rfl, hP, hK, hNw⟩ := hv
  have hx := B.exec
  have hb := B.bytes
  have hr := B.returns
  have hts := atoms_spec (ws := wsX2_valueOf) B.pre
  have hown : s.vm.findClass RX2 = some m.cls := findClass_of_methodNamed B.named
  have hlocks := B.notSynchronized
  have hl := lv_entry ([.ref hL, .int (nI j)]) (n := 2) (Nat.le_of_ble_eq_true rfl)
  rw [lg_entry_eq]
  generalize (lg_sl ([.ref hL, .int (nI j)]) ++ List.replicate (2 - (lg_sl ([.ref hL, .int (nI j)])).length) Slot.unset).toArray = ls at hl ⊢
  have hl : lv_has ls 2 [(0, .ref hL), (1, .int (nI j))] := hl
  refine lv_iload_n hx hb dX2_valueOf_0 rfl (lv_at hl 1 rfl) ?_
  refine lv_if_lt (tgt := 12) hx hb dX2_valueOf_1 (by decide) (fun c_1 => ?_) (fun c_1 => ?_)
  · exact absurd c_1 (nI_pos (by omega))
  · refine lv_iload_n hx hb dX2_valueOf_4 rfl (lv_at hl 1 rfl) ?_
    refine lv_aload_n hx hb dX2_valueOf_5 rfl (lv_at hl 0 rfl) ?_
    refine va_get (D := (dC, dI)) (ci := 2) (v := .int (nI n)) (C := RX2) (T := TX2) (N := 8) hx hb hts iX2_valueOf_X2 hown hK hP 0 rfl rfl 7 (by decide) (hts (.fieldLink RX2 35 "JoinBench$Side" "count" "I") (by decide +kernel)) (fun _ h9 => h9) rfl dX2_valueOf_6 ?_
    refine lv_icmp_lt (tgt := 16) hx hb dX2_valueOf_9 (by decide) (fun c_9 => ?_) (fun c_9 => ?_)
    · refine lv_aload_n hx hb dX2_valueOf_16 rfl (lv_at hl 0 rfl) ?_
      refine va_get (D := (dC, dI)) (ci := 2) (v := .ref vA) (C := RX2) (T := TX2) (N := 8) hx hb hts iX2_valueOf_X2 hown hK hP 0 rfl rfl 3 (by decide) (hts (.fieldLink RX2 23 "JoinBench$Side" "values" "[I") (by decide +kernel)) (fun _ h9 => h9) rfl dX2_valueOf_17 ?_
      refine lv_iload_n hx hb dX2_valueOf_20 rfl (lv_at hl 1 rfl) ?_
      refine va_iald hx hb hK hP 2 0 rfl rfl (i := nI j) (vp_in_nI (n := j) (by omega) (by decide)) dX2_valueOf_21 ?_
      refine lv_topi (fun v_1 ev_1 => ?_)
      have hv_1 : v_1 = (V j) := ev_1.trans (congrArg _ (nI_clamp (by omega)))
      clear ev_1; subst hv_1
      exact W.iret (v := (V j)) hx hb hr (fun t ht hW => ⟨_, rfl, rfl, ht⟩) (fun _ h => by cases h) dX2_valueOf_22
    · exact absurd (nI_lt hj (by omega)) c_9
theorem iX2_rowAt_X2 : ∀ w ∈ wsX20, w ∈ wsX2_rowAt := by decide +kernel
set_option maxHeartbeats 1000000 in
set_option maxRecDepth 100000 in
/-- Side.rowAt, in range -/
theorem c_rowAt (l : Launch) (dC : Nat → ClassId) (dI : Nat → Nat → Nat) (cI : ClassId) (hL aS kA vA oA sA eA : Nat) (b : Int32) (K V : Nat → Int32) (o : Nat → Nat) (Sp Pe : Nat → Int32) (n : Nat) (j : Nat) (hj : j < n) (hn : n ≤ 500) : Met l yX2_rowAt wsX2_rowAt ({ frames := 1, cells := 0, slots := 0, locals := 40 } : Room) (va_Pc [.ref hL, .int (nI j)] (jb_R dC dI cI [(hL, .inr (2, [.ref aS, .int b, .ref kA, .ref vA, .ref oA, .ref sA, .ref eA, .int (nI n)])), (kA, .inl (cI, 500, .inl K)), (vA, .inl (cI, 500, .inl V)), (oA, .inl (cI, 500, .inl (jb_O o))), (sA, .inl (cI, 500, .inl Sp)), (eA, .inl (cI, 152, .inl Pe))])) (vp_Si (fun r => r = nI (o j))) 0 0 (fun _ => False) := by
  refine Met.ofW (cc := cX2_rowAt) (maxL := 2) (ret := (some .int)) (by decide) rfl ?_
  intro p e s m args below meth c s₁ B hml hv
  obtain ⟨rfl, hP, hK, hNw⟩ := hv
  have hx := B.exec
  have hb := B.bytes
  have hr := B.returns
  have hts := atoms_spec (ws := wsX2_rowAt) B.pre
  have hown : s.vm.findClass RX2 = some m.cls := findClass_of_methodNamed B.named
  have hlocks := B.notSynchronized
  have hl := lv_entry ([.ref hL, .int (nI j)]) (n := 2) (Nat.le_of_ble_eq_true rfl)
  rw [lg_entry_eq]
  generalize (lg_sl ([.ref hL, .int (nI j)]) ++ List.replicate (2 - (lg_sl ([.ref hL, .int (nI j)])).length) Slot.unset).toArray = ls at hl ⊢
  have hl : lv_has ls 2 [(0, .ref hL), (1, .int (nI j))] := hl
  refine lv_iload_n hx hb dX2_rowAt_0 rfl (lv_at hl 1 rfl) ?_
  refine lv_if_lt (tgt := 12) hx hb dX2_rowAt_1 (by decide) (fun c_1 => ?_) (fun c_1 => ?_)
  · exact absurd c_1 (nI_pos (by omega))
  · refine lv_iload_n hx hb dX2_rowAt_4 rfl (lv_at hl 1 rfl) ?_
    refine lv_aload_n hx hb dX2_rowAt_5 rfl (lv_at hl 0 rfl) ?_
    refine va_get (D := (dC, dI)) (ci := 2) (v := .int (nI n)) (C := RX2) (T := TX2) (N := 8) hx hb hts iX2_rowAt_X2 hown hK hP 0 rfl rfl 7 (by decide) (hts (.fieldLink RX2 35 "JoinBench$Side" "count" "I") (by decide +kernel)) (fun _ h9 => h9) rfl dX2_rowAt_6 ?_
    refine lv_icmp_lt (tgt := 16) hx hb dX2_rowAt_9 (by decide) (fun c_9 => ?_) (fun c_9 => ?_)
    · refine lv_aload_n hx hb dX2_rowAt_16 rfl (lv_at hl 0 rfl) ?_
      refine va_get (D := (dC, dI)) (ci := 2) (v := .ref oA) (C := RX2) (T := TX2) (N := 8) hx hb hts iX2_rowAt_X2 hown hK hP 0 rfl rfl 4 (by decide) (hts (.fieldLink RX2 26 "JoinBench$Side" "order" "[I") (by decide +kernel)) (fun _ h9 => h9) rfl dX2_rowAt_17 ?_
      refine lv_iload_n hx hb dX2_rowAt_20 rfl (lv_at hl 1 rfl) ?_
      refine va_iald hx hb hK hP 3 0 rfl rfl (i := nI j) (vp_in_nI (n := j) (by omega) (by decide)) dX2_rowAt_21 ?_
      refine lv_topi (fun v_1 ev_1 => ?_)
      have hv_1 : v_1 = (nI (o j)) := ev_1.trans (congrArg _ (nI_clamp (by omega)))
      clear ev_1; subst hv_1
      exact W.iret (v := (nI (o j))) hx hb hr (fun t ht hW => ⟨_, rfl, rfl, ht⟩) (fun _ h => by cases h) dX2_rowAt_22
    · exact absurd (nI_lt hj (by omega)) c_9
theorem iX2_keyAt_X2 : ∀ w ∈ wsX20, w ∈ wsX2_keyAt := by decide +kernel
set_option maxHeartbeats 1000000 in
set_option maxRecDepth 100000 in
/-- Side.keyAt(place), in range -/
theorem c_keyAt (l : Launch) (dC : Nat → ClassId) (dI : Nat → Nat → Nat) (cI : ClassId) (hL aS kA vA oA sA eA : Nat) (b : Int32) (K V : Nat → Int32) (o : Nat → Nat) (Sp Pe : Nat → Int32) (n : Nat) (j : Nat) (hj : j < n) (hn : n ≤ 500) (ho : o j < 500) : Met l yX2_keyAt wsX2_keyAt ({ frames := 1, cells := 0, slots := 0, locals := 40 } : Room) (va_Pc [.ref hL, .int (nI j)] (jb_R dC dI cI [(hL, .inr (2, [.ref aS, .int b, .ref kA, .ref vA, .ref oA, .ref sA, .ref eA, .int (nI n)])), (kA, .inl (cI, 500, .inl K)), (vA, .inl (cI, 500, .inl V)), (oA, .inl (cI, 500, .inl (jb_O o))), (sA, .inl (cI, 500, .inl Sp)), (eA, .inl (cI, 152, .inl Pe))])) (vp_Si (fun r => r = K (o j))) 0 0 (fun _ => False) := by
  refine Met.ofW (cc := cX2_keyAt) (maxL := 2) (ret := (some .int)) (by decide) rfl ?_
  intro p e s m args below meth c s₁ B hml hv
  obtain ⟨rfl, hP, hK, hNw⟩ := hv
  have hx := B.exec
  have hb := B.bytes
  have hr := B.returns
  have hts := atoms_spec (ws := wsX2_keyAt) B.pre
  have hown : s.vm.findClass RX2 = some m.cls := findClass_of_methodNamed B.named
  have hlocks := B.notSynchronized
  have hl := lv_entry ([.ref hL, .int (nI j)]) (n := 2) (Nat.le_of_ble_eq_true rfl)
  rw [lg_entry_eq]
  generalize (lg_sl ([.ref hL, .int (nI j)]) ++ List.replicate (2 - (lg_sl ([.ref hL, .int (nI j)])).length) Slot.unset).toArray = ls at hl ⊢
  have hl : lv_has ls 2 [(0, .ref hL), (1, .int (nI j))] := hl
  refine lv_iload_n hx hb dX2_keyAt_0 rfl (lv_at hl 1 rfl) ?_
  refine lv_if_lt (tgt := 12) hx hb dX2_keyAt_1 (by decide) (fun c_1 => ?_) (fun c_1 => ?_)
  · exact absurd c_1 (nI_pos (by omega))
  · refine lv_iload_n hx hb dX2_keyAt_4 rfl (lv_at hl 1 rfl) ?_
    refine lv_aload_n hx hb dX2_keyAt_5 rfl (lv_at hl 0 rfl) ?_
    refine va_get (D := (dC, dI)) (ci := 2) (v := .int (nI n)) (C := RX2) (T := TX2) (N := 8) hx hb hts iX2_keyAt_X2 hown hK hP 0 rfl rfl 7 (by decide) (hts (.fieldLink RX2 35 "JoinBench$Side" "count" "I") (by decide +kernel)) (fun _ h9 => h9) rfl dX2_keyAt_6 ?_
    refine lv_icmp_lt (tgt := 16) hx hb dX2_keyAt_9 (by decide) (fun c_9 => ?_) (fun c_9 => ?_)
    · refine lv_aload_n hx hb dX2_keyAt_16 rfl (lv_at hl 0 rfl) ?_
      refine va_get (D := (dC, dI)) (ci := 2) (v := .ref kA) (C := RX2) (T := TX2) (N := 8) hx hb hts iX2_keyAt_X2 hown hK hP 0 rfl rfl 2 (by decide) (hts (.fieldLink RX2 19 "JoinBench$Side" "keys" "[I") (by decide +kernel)) (fun _ h9 => h9) rfl dX2_keyAt_17 ?_
      refine lv_aload_n hx hb dX2_keyAt_20 rfl (lv_at hl 0 rfl) ?_
      refine va_get (D := (dC, dI)) (ci := 2) (v := .ref oA) (C := RX2) (T := TX2) (N := 8) hx hb hts iX2_keyAt_X2 hown hK hP 0 rfl rfl 4 (by decide) (hts (.fieldLink RX2 26 "JoinBench$Side" "order" "[I") (by decide +kernel)) (fun _ h9 => h9) rfl dX2_keyAt_21 ?_
      refine lv_iload_n hx hb dX2_keyAt_24 rfl (lv_at hl 1 rfl) ?_
      refine va_iald hx hb hK hP 3 0 rfl rfl (i := nI j) (vp_in_nI (n := j) (by omega) (by decide)) dX2_keyAt_25 ?_
      refine lv_topi (fun v_1 ev_1 => ?_)
      have hv_1 : v_1 = nI (o j) := ev_1.trans (congrArg (jb_O o) (nI_clamp (by omega)))
      clear ev_1; subst hv_1
      refine va_iald hx hb hK hP 1 0 rfl rfl (i := nI (o j)) (vp_in_nI (n := o j) ho (by decide)) dX2_keyAt_26 ?_
      refine lv_topi (fun v_2 ev_2 => ?_)
      have hv_2 : v_2 = (K (o j)) := ev_2.trans (congrArg _ (nI_clamp (by omega)))
      clear ev_2; subst hv_2
      exact W.iret (v := (K (o j))) hx hb hr (fun t ht hW => ⟨_, rfl, rfl, ht⟩) (fun _ h => by cases h) dX2_keyAt_27
    · exact absurd (nI_lt hj (by omega)) c_9
theorem iX2_partEnd_X2 : ∀ w ∈ wsX20, w ∈ wsX2_partEnd := by decide +kernel
set_option maxHeartbeats 1000000 in
set_option maxRecDepth 100000 in
/-- Side.partEnd(level, p) -/
theorem c_partEnd (l : Launch) (dC : Nat → ClassId) (dI : Nat → Nat → Nat) (cI : ClassId) (hL aS kA vA oA sA eA : Nat) (b : Int32) (K V : Nat → Int32) (o : Nat → Nat) (Sp Pe : Nat → Int32) (n : Nat) (lv q : Nat) (hlv : lv < 8) (hq : q < 19) : Met l yX2_partEnd wsX2_partEnd ({ frames := 1, cells := 0, slots := 0, locals := 40 } : Room) (va_Pc [.ref hL, .int (nI lv), .int (nI q)] (jb_R dC dI cI [(hL, .inr (2, [.ref aS, .int b, .ref kA, .ref vA, .ref oA, .ref sA, .ref eA, .int (nI n)])), (kA, .inl (cI, 500, .inl K)), (vA, .inl (cI, 500, .inl V)), (oA, .inl (cI, 500, .inl (jb_O o))), (sA, .inl (cI, 500, .inl Sp)), (eA, .inl (cI, 152, .inl Pe))])) (vp_Si (fun r => r = Pe (lv * 19 + q))) 0 0 (fun _ => False) := by
  refine Met.ofW (cc := cX2_partEnd) (maxL := 3) (ret := (some .int)) (by decide) rfl ?_
  intro p e s m args below meth c s₁ B hml hv
  obtain ⟨rfl, hP, hK, hNw⟩ := hv
  have hx := B.exec
  have hb := B.bytes
  have hr := B.returns
  have hts := atoms_spec (ws := wsX2_partEnd) B.pre
  have hown : s.vm.findClass RX2 = some m.cls := findClass_of_methodNamed B.named
  have hlocks := B.notSynchronized
  have hl := lv_entry ([.ref hL, .int (nI lv), .int (nI q)]) (n := 3) (Nat.le_of_ble_eq_true rfl)
  rw [lg_entry_eq]
  generalize (lg_sl ([.ref hL, .int (nI lv), .int (nI q)]) ++ List.replicate (3 - (lg_sl ([.ref hL, .int (nI lv), .int (nI q)])).length) Slot.unset).toArray = ls at hl ⊢
  have hl : lv_has ls 3 [(0, .ref hL), (1, .int (nI lv)), (2, .int (nI q))] := hl
  refine lv_iload_n hx hb dX2_partEnd_0 rfl (lv_at hl 1 rfl) ?_
  refine lv_if_lt (tgt := 20) hx hb dX2_partEnd_1 (by decide) (fun c_1 => ?_) (fun c_1 => ?_)
  · exact absurd c_1 (nI_pos (by omega))
  · refine lv_iload_n hx hb dX2_partEnd_4 rfl (lv_at hl 1 rfl) ?_
    refine lv_bipush (v := 8) hx hb dX2_partEnd_5 (by decide) ?_
    refine lv_icmp_ge (tgt := 20) hx hb dX2_partEnd_7 (by decide) (fun c_7 => ?_) (fun c_7 => ?_)
    · exact absurd c_7 (nI_ge (a := lv) (b := 8) hlv (by decide))
    · refine lv_iload_n hx hb dX2_partEnd_10 rfl (lv_at hl 2 rfl) ?_
      refine lv_if_lt (tgt := 20) hx hb dX2_partEnd_11 (by decide) (fun c_11 => ?_) (fun c_11 => ?_)
      · exact absurd c_11 (nI_pos (by omega))
      · refine lv_iload_n hx hb dX2_partEnd_14 rfl (lv_at hl 2 rfl) ?_
        refine lv_bipush (v := 19) hx hb dX2_partEnd_15 (by decide) ?_
        refine lv_icmp_lt (tgt := 22) hx hb dX2_partEnd_17 (by decide) (fun c_17 => ?_) (fun c_17 => ?_)
        · refine lv_aload_n hx hb dX2_partEnd_22 rfl (lv_at hl 0 rfl) ?_
          refine va_get (D := (dC, dI)) (ci := 2) (v := .ref eA) (C := RX2) (T := TX2) (N := 8) hx hb hts iX2_partEnd_X2 hown hK hP 0 rfl rfl 6 (by decide) (hts (.fieldLink RX2 32 "JoinBench$Side" "partEnds" "[I") (by decide +kernel)) (fun _ h9 => h9) rfl dX2_partEnd_23 ?_
          refine lv_iload_n hx hb dX2_partEnd_26 rfl (lv_at hl 1 rfl) ?_
          refine lv_bipush (v := 19) hx hb dX2_partEnd_27 (by decide) ?_
          refine lv_imul hx hb dX2_partEnd_29 ?_
          refine lv_topi (fun v_1 ev_1 => ?_)
          have hv_1 : v_1 = nI (lv * 19) := ev_1.trans (jb_nmul lv 19)
          clear ev_1; subst hv_1
          refine lv_iload_n hx hb dX2_partEnd_30 rfl (lv_at hl 2 rfl) ?_
          refine lv_iadd hx hb dX2_partEnd_31 ?_
          refine lv_topi (fun v_2 ev_2 => ?_)
          have hv_2 : v_2 = nI (lv * 19 + q) := ev_2.trans (nI_add (lv * 19) q)
          clear ev_2; subst hv_2
          refine va_iald hx hb hK hP 5 0 rfl rfl (i := nI (lv * 19 + q)) (vp_in_nI (n := lv * 19 + q) (by omega) (by decide)) dX2_partEnd_32 ?_
          refine lv_topi (fun v_3 ev_3 => ?_)
          have hv_3 : v_3 = (Pe (lv * 19 + q)) := ev_3.trans (congrArg _ (nI_clamp (by omega)))
          clear ev_3; subst hv_3
          exact W.iret (v := (Pe (lv * 19 + q))) hx hb hr (fun t ht hW => ⟨_, rfl, rfl, ht⟩) (fun _ h => by cases h) dX2_partEnd_33
        · exact absurd (nI_lt (a := q) (b := 19) hq (by decide)) c_17
/-- is it the key of all of them? -/
def jb_only (K : Nat → Int32) (key : Int32) (la : List Nat) : Prop := ∀ r ∈ la, K r = key
noncomputable def jb_onlyR (K : Nat → Int32) (key : Int32) (la : List Nat) : Int32 := if la.all (fun r => K r == key) then 1 else 0
theorem jb_only_no {K : Nat → Int32} {key : Int32} {la : List Nat} {i : Nat} (h : i < la.length) (hk : ¬ K (la.getD i 0) = key) : jb_onlyR K key la = 0 := by
  unfold jb_onlyR
  rw [if_neg]
  intro ha
  rw [List.all_eq_true] at ha
  have := ha _ (jb_getD_mem h)
  exact hk (by simpa using this)
theorem jb_only_yes {K : Nat → Int32} {key : Int32} {la : List Nat} (h : ∀ i, i < la.length → K (la.getD i 0) = key) : jb_onlyR K key la = 1 := by
  unfold jb_onlyR
  rw [if_pos]
  rw [List.all_eq_true]
  intro r hr
  obtain ⟨i, hi, rfl⟩ := List.getElem_of_mem hr
  have := h i hi
  simp only [List.getD, List.getElem?_eq_getElem hi, Option.getD_some] at this
  simpa using this
set_option maxHeartbeats 1000000 in
set_option maxRecDepth 100000 in
/-- Side.hasOnlyKey(key, from, to) -/
theorem c_hasOnlyKey (l : Launch) (dC : Nat → ClassId) (dI : Nat → Nat → Nat) (cI : ClassId) (hL aS kA vA oA sA eA : Nat) (b : Int32) (K V : Nat → Int32) (o : Nat → Nat) (Sp Pe : Nat → Int32) (n : Nat) (key : Int32) (fr : Nat) (la : List Nat) (hin : jb_in o fr la) (hb5 : ∀ r ∈ la, r < 500) (hto : fr + la.length ≤ n) (hn : n ≤ 500) : Met l yX2_hasOnlyKey wsX2_hasOnlyKey ({ frames := 2, cells := 0, slots := 0, locals := 80 } : Room) (va_Pc [.ref hL, .int key, .int (nI fr), .int (nI (fr + la.length))] (jb_R dC dI cI [(hL, .inr (2, [.ref aS, .int b, .ref kA, .ref vA, .ref oA, .ref sA, .ref eA, .int (nI n)])), (kA, .inl (cI, 500, .inl K)), (vA, .inl (cI, 500, .inl V)), (oA, .inl (cI, 500, .inl (jb_O o))), (sA, .inl (cI, 500, .inl Sp)), (eA, .inl (cI, 152, .inl Pe))])) (vp_Si (fun r => r = jb_onlyR K key la)) 0 0 (fun _ => False) := by
  refine Met.ofW (cc := cX2_hasOnlyKey) (maxL := 5) (ret := (some .boolean)) (by decide) rfl ?_
  intro p e s m args below meth c s₁ B hml hv
  obtain ⟨rfl, hP, hK, hNw⟩ := hv
  have hx := B.exec
  have hb := B.bytes
  have hr := B.returns
  have hts := atoms_spec (ws := wsX2_hasOnlyKey) B.pre
  have hown : s.vm.findClass RX2 = some m.cls := findClass_of_methodNamed B.named
  have hlocks := B.notSynchronized
  have hl := lv_entry ([.ref hL, .int key, .int (nI fr), .int (nI (fr + la.length))]) (n := 5) (Nat.le_of_ble_eq_true rfl)
  rw [lg_entry_eq]
  generalize (lg_sl ([.ref hL, .int key, .int (nI fr), .int (nI (fr + la.length))]) ++ List.replicate (5 - (lg_sl ([.ref hL, .int key, .int (nI fr), .int (nI (fr + la.length))])).length) Slot.unset).toArray = ls at hl ⊢
  have hl : lv_has ls 5 [(0, .ref hL), (1, .int key), (2, .int (nI fr)), (3, .int (nI (fr + la.length)))] := hl
  refine lv_iload_n hx hb dX2_hasOnlyKey_0 rfl (lv_at hl 2 rfl) ?_
  refine lv_istore (lv' := [(4, .int (nI fr)), (0, .ref hL), (1, .int key), (2, .int (nI fr)), (3, .int (nI (fr + la.length)))]) hx hb dX2_hasOnlyKey_1 hl (by decide) rfl (fun ls hl => ?_)
  have hl_a : ∀ (k_a : Nat) (i : Nat), la.length - i < k_a → (i ≤ la.length) → (∀ j, j < i → K (la.getD j 0) = key) → ∀ ls : Array Slot, lv_has ls 5 [(0, .ref hL), (1, .int key), (3, .int (nI (fr + la.length))), (4, .int (nI (fr + i)))] → W p l e ({ frames := 2, cells := 0, slots := 0, locals := 80 } : Room) s m ([.ref hL, .int key, .int (nI fr), .int (nI (fr + la.length))] : List Value).toArray below meth c s.heap [] 0 0 (MQ below (vp_Si (fun r => r = jb_onlyR K key la)) ([.ref hL, .int key, .int (nI fr), .int (nI (fr + la.length))] : List Value).toArray s 0 0 (fun _ => False)) (F0 m 3 ls []) := by
    intro k_a
    induction k_a with
    | zero => intro i hk; exact absurd hk (Nat.not_lt_zero _)
    | succ k_a ih_a =>
      intro i hk_a hi hall ls hl
      refine lv_iload hx hb dX2_hasOnlyKey_3 (lv_at hl 3 rfl) ?_
      refine lv_iload_n hx hb dX2_hasOnlyKey_5 rfl (lv_at hl 2 rfl) ?_
      refine lv_icmp_ge (tgt := 27) hx hb dX2_hasOnlyKey_6 (by decide) (fun c_6 => ?_) (fun c_6 => ?_)
      · have hge : i = la.length := by have := (nI_leI (a := fr + la.length) (b := fr + i) (by omega) (by omega)).mp c_6; omega
        refine lv_iconst (v := 1) hx hb dX2_hasOnlyKey_27 (by decide) ?_
        exact W.zret (v := 1) hx hb hr (by first | rfl | decide | (split <;> rfl)) (fun t ht hW => ⟨_, rfl, (jb_only_yes (by rw [← hge]; exact hall)).symm, ht⟩) (fun _ h => by cases h) dX2_hasOnlyKey_28
      · have hlt : i < la.length := by have := (jb_nle (a := fr + la.length) (b := fr + i) (by omega) (by omega)).mp c_6; omega
        refine lv_aload_n hx hb dX2_hasOnlyKey_9 rfl (lv_at hl 0 rfl) ?_
        refine lv_iload hx hb dX2_hasOnlyKey_10 (lv_at hl 3 rfl) ?_
        refine vp_callSi (va_runV (As := [.int (nI (fr + i))]) (rest := []) ⟨hx, hb, hml, hown, hts⟩ (c_keyAt l dC dI cI hL aS kA vA oA sA eA b K V o Sp Pe n (fr + i) (by omega) hn (by rw [hin i hlt]; exact hb5 _ (jb_getD_mem hlt))) (cwV 1 hts gX2_hasOnlyKey_X2_keyAt rfl rfl rfl (by decide +kernel) ⟨(by decide +kernel), (by decide +kernel)⟩)  ⟨jb_R_blind, va_recv hK hP (ci := 2) (q0 := 0) rfl rfl, jb_R_pre (hP.sub (ws' := [(hL, .inr (2, [.ref aS, .int b, .ref kA, .ref vA, .ref oA, .ref sA, .ref eA, .int (nI n)])), (kA, .inl (cI, 500, .inl K)), (vA, .inl (cI, 500, .inl V)), (oA, .inl (cI, 500, .inl (jb_O o))), (sA, .inl (cI, 500, .inl Sp)), (eA, .inl (cI, 152, .inl Pe))]) [0, 1, 2, 3, 4, 5] rfl) hK hNw⟩ rfl rfl hl.1 rfl (lv_room (Nat.le_of_ble_eq_true rfl)) dX2_hasOnlyKey_12 ⟨by decide +kernel, by decide +kernel⟩).run (fun r_1 hr_1 => ?_)
        subst hr_1
        refine lv_topi (fun v_2 ev_2 => ?_)
        have hv_2 : v_2 = K (la.getD i 0) := ev_2.trans (congrArg K (hin i hlt))
        clear ev_2; subst hv_2
        refine lv_iload_n hx hb dX2_hasOnlyKey_15 rfl (lv_at hl 1 rfl) ?_
        refine lv_icmp_eq (tgt := 21) hx hb dX2_hasOnlyKey_16 (by decide) (fun c_16 => ?_) (fun c_16 => ?_)
        · refine lv_iinc (v := nI (fr + i + 1)) (lv' := [(4, .int (nI (fr + i + 1))), (0, .ref hL), (1, .int key), (3, .int (nI (fr + la.length)))]) hx hb dX2_hasOnlyKey_21 hl (k := 3) rfl (nI_1 _) (by decide) rfl (fun ls hl => ?_)
          refine lv_goto (tgt := 3) hx hb dX2_hasOnlyKey_24 (by decide) ?_
          exact ih_a (i + 1) (by omega) hlt (lt_s hall c_16) ls (lv_sub hl [1, 2, 3, 0] rfl)
        · refine lv_iconst (v := 0) hx hb dX2_hasOnlyKey_19 (by decide) ?_
          exact W.zret (v := 0) hx hb hr (by first | rfl | decide | (split <;> rfl)) (fun t ht hW => ⟨_, rfl, (jb_only_no hlt c_16).symm, ht⟩) (fun _ h => by cases h) dX2_hasOnlyKey_20
  exact hl_a (la.length - 0 + 1) 0 (by omega) (Nat.zero_le _) (fun j h => absurd h (Nat.not_lt_zero j)) ls (lv_sub hl [1, 2, 4, 0] rfl)
