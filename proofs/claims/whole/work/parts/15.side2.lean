/-! JoinBench$Side: made, copied, laid in parts -/
def jb_idn (o : Nat → Nat) (m : Nat) : Nat → Nat := fun j => if j < m then j else o j
theorem jb_idn_0 (o : Nat → Nat) : jb_idn o 0 = o := by funext j; simp [jb_idn]
theorem jb_idn_s (o : Nat → Nat) (i : Nat) : upd (jb_O (jb_idn o i)) i (nI i) = jb_O (jb_idn o (i + 1)) := by
  rw [jb_O_set]
  congr 1
  funext j
  simp only [va_up, jb_idn]
  by_cases h : j = i
  · subst h; simp
  · rw [if_neg h]
    by_cases h2 : j < i
    · rw [if_pos h2, if_pos (by omega)]
    · rw [if_neg h2, if_neg (by omega)]
def jb_pf (mem : Nat) (K : Nat → Int32) (lv : Nat) : Nat → Nat := fun r => jb_pt mem (K r) (nI lv)
theorem jb_pf_lt {mem lv r : Nat} {K : Nat → Int32} (h : 3 ≤ mem) : jb_pf mem K lv r < mem - 1 := Nat.mod_lt _ (by omega)
theorem jb_fill_s {S g : Nat → Int32} {fr i : Nat} (h : ∀ t, t < i → S (fr + t) = g t) : ∀ t, t < i + 1 → upd S (fr + i) (g i) (fr + t) = g t := by
  intro t ht
  by_cases he : t = i
  · subst he; simp [upd]
  · rw [pk_un (by omega)]; exact h t (by omega)
def jb_lay (per mem : Nat) (K : Nat → Int32) (lv fr : Nat) (la : List Nat) (o : Nat → Nat) (Pe : Nat → Int32) (r : Int32) (o' : Nat → Nat) (Pe' : Nat → Int32) : Prop := r = nI (jb_pgs per (fun t => (jb_fp (jb_pf mem K lv) la t).length) (mem - 1)) ∧ (∀ j, j < fr ∨ fr + la.length ≤ j → o' j = o j) ∧ jb_in o' fr (jb_cat (jb_pf mem K lv) la (mem - 1)) ∧ (∀ t, t < mem - 1 → Pe' (lv * 19 + t) = nI (fr + (jb_cat (jb_pf mem K lv) la (t + 1)).length)) ∧ (∀ j, j < lv * 19 → Pe' j = Pe j)
theorem iX2_init_X2 : ∀ w ∈ wsX20, w ∈ wsX2_init := by decide +kernel
set_option maxHeartbeats 1000000 in
set_option maxRecDepth 100000 in
/-- Side(sizes, isLeft) -/
theorem c_Side_init (l : Launch) (dC : Nat → ClassId) (dI : Nat → Nat → Nat) (cI : ClassId) (sz : Nat) (hL aS : Nat) (b : Int32) (hb1 : narrow .boolean (.int b) = .int b ∧ fits .boolean (.int b) = true) : Met l yX2_init wsX2_init ({ frames := 1, cells := 5, slots := 2152, locals := 40 } : Room) (va_Pc [.ref hL, .ref aS, .int b] (jb_M dC dI cI sz [(hL, .inr (2, [.null, .int 0, .null, .null, .null, .null, .null, .int 0]))])) (va_Qv (fun (_ : Nat × Nat × Nat × Nat × Nat) => True) (jb_B dC dI (va_A [(hL, .inr (2, [.null, .int 0, .null, .null, .null, .null, .null, .int 0]))] sz) (fun u => [(hL, .inr (2, [.ref aS, .int b, .ref u.1, .ref u.2.1, .ref u.2.2.1, .ref u.2.2.2.1, .ref u.2.2.2.2, .int (nI 0)])), (u.1, .inl (cI, 500, .inl (fun _ => 0))), (u.2.1, .inl (cI, 500, .inl (fun _ => 0))), (u.2.2.1, .inl (cI, 500, .inl (jb_O (fun _ => 0)))), (u.2.2.2.1, .inl (cI, 500, .inl (fun _ => 0))), (u.2.2.2.2, .inl (cI, 152, .inl (fun _ => 0)))])) (va_A [(hL, .inr (2, [.null, .int 0, .null, .null, .null, .null, .null, .int 0]))] sz)) 5 2152 (va_A [(hL, .inr (2, [.null, .int 0, .null, .null, .null, .null, .null, .int 0]))] sz) := by
  refine Met.ofW (cc := cX2_init) (maxL := 3) (ret := none) (by decide) rfl ?_
  intro p e s m args below meth c s₁ B hml hv
  obtain ⟨rfl, hsz, hP, hK, hNw, hD0⟩ := hv
  have hx := B.exec
  have hb := B.bytes
  have hr := B.returns
  have hts := atoms_spec (ws := wsX2_init) B.pre
  have hown : s.vm.findClass RX2 = some m.cls := findClass_of_methodNamed B.named
  have hlocks := B.notSynchronized
  have hin : meth.name = "<init>" := (name_of_methodNamed B.named B.method).1
  subst hsz
  have hD := hD0.self (sz := s.heap.size)
  generalize hAe : va_A [(hL, .inr (2, [.null, .int 0, .null, .null, .null, .null, .null, .int 0]))] s.heap.size = A at hD ⊢
  have hA : ∀ q : Nat, s.heap.size ≤ q → A q := fun q h => by rw [← hAe]; exact Or.inr h
  have hS : va_S A s.heap s.heap [] := va_S.rf
  have hP : va_P (dC, dI) vwCl [(hL, .inr (2, [.null, .int 0, .null, .null, .null, .null, .null, .int 0]))] s.heap := hP
  have hl := lv_entry ([.ref hL, .ref aS, .int b]) (n := 3) (Nat.le_of_ble_eq_true rfl)
  rw [lg_entry_eq]
  generalize (lg_sl ([.ref hL, .ref aS, .int b]) ++ List.replicate (3 - (lg_sl ([.ref hL, .ref aS, .int b])).length) Slot.unset).toArray = ls at hl ⊢
  have hl : lv_has ls 3 [(0, .ref hL), (1, .ref aS), (2, .int b)] := hl
  refine lv_aload_n hx hb dX2_init_0 rfl (lv_at hl 0 rfl) ?_
  refine W.objInit hx hb hown (hts (.methodLink RX2 3 objectInit) (by decide +kernel)) (hts (.instanceMethod objectInit) (by decide +kernel)) (hts (.code objectInit ⟨#[0xb1]⟩ 1 none) (by decide +kernel)) rfl (by rw [hml]; exact hl.1) rfl dX2_init_1 (Nat.le_of_ble_eq_true rfl) (Nat.le_of_ble_eq_true rfl) ?_
  refine W.eq (g2 := F0 m 4 ls []) rfl ?_
  refine lv_aload_n hx hb dX2_init_4 rfl (lv_at hl 0 rfl) ?_
  refine lv_aload_n hx hb dX2_init_5 rfl (lv_at hl 1 rfl) ?_
  refine va_putF (D := (dC, dI)) (ci := 2) (v := .ref aS) (ty := (.object "JoinBench$Sizes")) (C := RX2) (T := TX2) (N := 8) hx hb hts iX2_init_X2 tyX2 tyX2_ok nmX2 hown hK hP hD hS 0 rfl rfl 0 (by decide) (hts (.fieldLink RX2 9 "JoinBench$Side" "sizes" "LJoinBench$Sizes;") (by decide +kernel)) (fun _ h9 => h9) rfl hin rfl (by decide +kernel) rfl rfl (Nat.le_of_ble_eq_true rfl) dX2_init_6 (fun H locs hP hD hS => ?_)
  have hP : va_P (dC, dI) vwCl [(hL, .inr (2, [.ref aS, .int 0, .null, .null, .null, .null, .null, .int 0]))] H := hP
  have hD : va_D A [(hL, .inr (2, [.ref aS, .int 0, .null, .null, .null, .null, .null, .int 0]))] := hD
  refine lv_aload_n hx hb dX2_init_9 rfl (lv_at hl 0 rfl) ?_
  refine lv_iload_n hx hb dX2_init_10 rfl (lv_at hl 2 rfl) ?_
  refine va_putF (D := (dC, dI)) (ci := 2) (v := .int b) (ty := .boolean) (C := RX2) (T := TX2) (N := 8) hx hb hts iX2_init_X2 tyX2 tyX2_ok nmX2 hown hK hP hD hS 0 rfl rfl 1 (by decide) (hts (.fieldLink RX2 15 "JoinBench$Side" "isLeft" "Z") (by decide +kernel)) (fun _ h9 => h9) rfl hin rfl (by decide +kernel) hb1.1 hb1.2 (Nat.le_of_ble_eq_true rfl) dX2_init_11 (fun H locs hP hD hS => ?_)
  have hP : va_P (dC, dI) vwCl [(hL, .inr (2, [.ref aS, .int b, .null, .null, .null, .null, .null, .int 0]))] H := hP
  have hD : va_D A [(hL, .inr (2, [.ref aS, .int b, .null, .null, .null, .null, .null, .int 0]))] := hD
  refine lv_aload_n hx hb dX2_init_14 rfl (lv_at hl 0 rfl) ?_
  refine lv_sipush (v := 500) hx hb dX2_init_15 (by decide) ?_
  refine va_newa (atype := .int) hx hb (hts (.arrayClass .int) (by decide +kernel)) (ty := .int) rfl hK hP hD hS hA (N' := 500) (a0 := (500, .inl (fun _ => 0))) (jb_arr0 500) (by decide +kernel) (by decide +kernel) (by decide +kernel) (by decide +kernel) (by decide +kernel) dX2_init_18 (fun q_1 cJ H hK2 hP hD hS => ?_)
  have hcj : cJ = cI := jb_cI hK2 hK
  clear hK2; subst cJ
  have hP : va_P (dC, dI) vwCl [(hL, .inr (2, [.ref aS, .int b, .null, .null, .null, .null, .null, .int 0])), (q_1, .inl (cI, 500, .inl (fun _ => 0)))] H := hP
  have hD : va_D A [(hL, .inr (2, [.ref aS, .int b, .null, .null, .null, .null, .null, .int 0])), (q_1, .inl (cI, 500, .inl (fun _ => 0)))] := hD
  refine W.widen (k := 1) (n := 500) (by decide +kernel) (by decide +kernel) ?_
  refine va_putF (D := (dC, dI)) (ci := 2) (v := .ref q_1) (ty := (.array .int)) (C := RX2) (T := TX2) (N := 8) hx hb hts iX2_init_X2 tyX2 tyX2_ok nmX2 hown hK hP hD hS 0 rfl rfl 2 (by decide) (hts (.fieldLink RX2 19 "JoinBench$Side" "keys" "[I") (by decide +kernel)) (fun _ h9 => h9) rfl hin rfl (by decide +kernel) rfl rfl (Nat.le_of_ble_eq_true rfl) dX2_init_20 (fun H locs hP hD hS => ?_)
  have hP : va_P (dC, dI) vwCl [(hL, .inr (2, [.ref aS, .int b, .ref q_1, .null, .null, .null, .null, .int 0])), (q_1, .inl (cI, 500, .inl (fun _ => 0)))] H := hP
  have hD : va_D A [(hL, .inr (2, [.ref aS, .int b, .ref q_1, .null, .null, .null, .null, .int 0])), (q_1, .inl (cI, 500, .inl (fun _ => 0)))] := hD
  refine lv_aload_n hx hb dX2_init_23 rfl (lv_at hl 0 rfl) ?_
  refine lv_sipush (v := 500) hx hb dX2_init_24 (by decide) ?_
  refine va_newa (atype := .int) hx hb (hts (.arrayClass .int) (by decide +kernel)) (ty := .int) rfl hK hP hD hS hA (N' := 500) (a0 := (500, .inl (fun _ => 0))) (jb_arr0 500) (by decide +kernel) (by decide +kernel) (by decide +kernel) (by decide +kernel) (by decide +kernel) dX2_init_27 (fun q_2 cJ H hK2 hP hD hS => ?_)
  have hcj : cJ = cI := jb_cI hK2 hK
  clear hK2; subst cJ
  have hP : va_P (dC, dI) vwCl [(hL, .inr (2, [.ref aS, .int b, .ref q_1, .null, .null, .null, .null, .int 0])), (q_1, .inl (cI, 500, .inl (fun _ => 0))), (q_2, .inl (cI, 500, .inl (fun _ => 0)))] H := hP
  have hD : va_D A [(hL, .inr (2, [.ref aS, .int b, .ref q_1, .null, .null, .null, .null, .int 0])), (q_1, .inl (cI, 500, .inl (fun _ => 0))), (q_2, .inl (cI, 500, .inl (fun _ => 0)))] := hD
  refine W.widen (k := 2) (n := 1000) (by decide +kernel) (by decide +kernel) ?_
  refine va_putF (D := (dC, dI)) (ci := 2) (v := .ref q_2) (ty := (.array .int)) (C := RX2) (T := TX2) (N := 8) hx hb hts iX2_init_X2 tyX2 tyX2_ok nmX2 hown hK hP hD hS 0 rfl rfl 3 (by decide) (hts (.fieldLink RX2 23 "JoinBench$Side" "values" "[I") (by decide +kernel)) (fun _ h9 => h9) rfl hin rfl (by decide +kernel) rfl rfl (Nat.le_of_ble_eq_true rfl) dX2_init_29 (fun H locs hP hD hS => ?_)
  have hP : va_P (dC, dI) vwCl [(hL, .inr (2, [.ref aS, .int b, .ref q_1, .ref q_2, .null, .null, .null, .int 0])), (q_1, .inl (cI, 500, .inl (fun _ => 0))), (q_2, .inl (cI, 500, .inl (fun _ => 0)))] H := hP
  have hD : va_D A [(hL, .inr (2, [.ref aS, .int b, .ref q_1, .ref q_2, .null, .null, .null, .int 0])), (q_1, .inl (cI, 500, .inl (fun _ => 0))), (q_2, .inl (cI, 500, .inl (fun _ => 0)))] := hD
  refine lv_aload_n hx hb dX2_init_32 rfl (lv_at hl 0 rfl) ?_
  refine lv_sipush (v := 500) hx hb dX2_init_33 (by decide) ?_
  refine va_newa (atype := .int) hx hb (hts (.arrayClass .int) (by decide +kernel)) (ty := .int) rfl hK hP hD hS hA (N' := 500) (a0 := (500, .inl (fun _ => 0))) (jb_arr0 500) (by decide +kernel) (by decide +kernel) (by decide +kernel) (by decide +kernel) (by decide +kernel) dX2_init_36 (fun q_3 cJ H hK2 hP hD hS => ?_)
  have hcj : cJ = cI := jb_cI hK2 hK
  clear hK2; subst cJ
  have hP : va_P (dC, dI) vwCl [(hL, .inr (2, [.ref aS, .int b, .ref q_1, .ref q_2, .null, .null, .null, .int 0])), (q_1, .inl (cI, 500, .inl (fun _ => 0))), (q_2, .inl (cI, 500, .inl (fun _ => 0))), (q_3, .inl (cI, 500, .inl (fun _ => 0)))] H := hP
  have hD : va_D A [(hL, .inr (2, [.ref aS, .int b, .ref q_1, .ref q_2, .null, .null, .null, .int 0])), (q_1, .inl (cI, 500, .inl (fun _ => 0))), (q_2, .inl (cI, 500, .inl (fun _ => 0))), (q_3, .inl (cI, 500, .inl (fun _ => 0)))] := hD
  refine W.widen (k := 3) (n := 1500) (by decide +kernel) (by decide +kernel) ?_
  refine va_putF (D := (dC, dI)) (ci := 2) (v := .ref q_3) (ty := (.array .int)) (C := RX2) (T := TX2) (N := 8) hx hb hts iX2_init_X2 tyX2 tyX2_ok nmX2 hown hK hP hD hS 0 rfl rfl 4 (by decide) (hts (.fieldLink RX2 26 "JoinBench$Side" "order" "[I") (by decide +kernel)) (fun _ h9 => h9) rfl hin rfl (by decide +kernel) rfl rfl (Nat.le_of_ble_eq_true rfl) dX2_init_38 (fun H locs hP hD hS => ?_)
  have hP : va_P (dC, dI) vwCl [(hL, .inr (2, [.ref aS, .int b, .ref q_1, .ref q_2, .ref q_3, .null, .null, .int 0])), (q_1, .inl (cI, 500, .inl (fun _ => 0))), (q_2, .inl (cI, 500, .inl (fun _ => 0))), (q_3, .inl (cI, 500, .inl (fun _ => 0)))] H := hP
  have hD : va_D A [(hL, .inr (2, [.ref aS, .int b, .ref q_1, .ref q_2, .ref q_3, .null, .null, .int 0])), (q_1, .inl (cI, 500, .inl (fun _ => 0))), (q_2, .inl (cI, 500, .inl (fun _ => 0))), (q_3, .inl (cI, 500, .inl (fun _ => 0)))] := hD
  refine lv_aload_n hx hb dX2_init_41 rfl (lv_at hl 0 rfl) ?_
  refine lv_sipush (v := 500) hx hb dX2_init_42 (by decide) ?_
  refine va_newa (atype := .int) hx hb (hts (.arrayClass .int) (by decide +kernel)) (ty := .int) rfl hK hP hD hS hA (N' := 500) (a0 := (500, .inl (fun _ => 0))) (jb_arr0 500) (by decide +kernel) (by decide +kernel) (by decide +kernel) (by decide +kernel) (by decide +kernel) dX2_init_45 (fun q_4 cJ H hK2 hP hD hS => ?_)
  have hcj : cJ = cI := jb_cI hK2 hK
  clear hK2; subst cJ
  have hP : va_P (dC, dI) vwCl [(hL, .inr (2, [.ref aS, .int b, .ref q_1, .ref q_2, .ref q_3, .null, .null, .int 0])), (q_1, .inl (cI, 500, .inl (fun _ => 0))), (q_2, .inl (cI, 500, .inl (fun _ => 0))), (q_3, .inl (cI, 500, .inl (fun _ => 0))), (q_4, .inl (cI, 500, .inl (fun _ => 0)))] H := hP
  have hD : va_D A [(hL, .inr (2, [.ref aS, .int b, .ref q_1, .ref q_2, .ref q_3, .null, .null, .int 0])), (q_1, .inl (cI, 500, .inl (fun _ => 0))), (q_2, .inl (cI, 500, .inl (fun _ => 0))), (q_3, .inl (cI, 500, .inl (fun _ => 0))), (q_4, .inl (cI, 500, .inl (fun _ => 0)))] := hD
  refine W.widen (k := 4) (n := 2000) (by decide +kernel) (by decide +kernel) ?_
  refine va_putF (D := (dC, dI)) (ci := 2) (v := .ref q_4) (ty := (.array .int)) (C := RX2) (T := TX2) (N := 8) hx hb hts iX2_init_X2 tyX2 tyX2_ok nmX2 hown hK hP hD hS 0 rfl rfl 5 (by decide) (hts (.fieldLink RX2 29 "JoinBench$Side" "spare" "[I") (by decide +kernel)) (fun _ h9 => h9) rfl hin rfl (by decide +kernel) rfl rfl (Nat.le_of_ble_eq_true rfl) dX2_init_47 (fun H locs hP hD hS => ?_)
  have hP : va_P (dC, dI) vwCl [(hL, .inr (2, [.ref aS, .int b, .ref q_1, .ref q_2, .ref q_3, .ref q_4, .null, .int 0])), (q_1, .inl (cI, 500, .inl (fun _ => 0))), (q_2, .inl (cI, 500, .inl (fun _ => 0))), (q_3, .inl (cI, 500, .inl (fun _ => 0))), (q_4, .inl (cI, 500, .inl (fun _ => 0)))] H := hP
  have hD : va_D A [(hL, .inr (2, [.ref aS, .int b, .ref q_1, .ref q_2, .ref q_3, .ref q_4, .null, .int 0])), (q_1, .inl (cI, 500, .inl (fun _ => 0))), (q_2, .inl (cI, 500, .inl (fun _ => 0))), (q_3, .inl (cI, 500, .inl (fun _ => 0))), (q_4, .inl (cI, 500, .inl (fun _ => 0)))] := hD
  refine lv_aload_n hx hb dX2_init_50 rfl (lv_at hl 0 rfl) ?_
  refine lv_sipush (v := 152) hx hb dX2_init_51 (by decide) ?_
  refine va_newa (atype := .int) hx hb (hts (.arrayClass .int) (by decide +kernel)) (ty := .int) rfl hK hP hD hS hA (N' := 152) (a0 := (152, .inl (fun _ => 0))) (jb_arr0 152) (by decide +kernel) (by decide +kernel) (by decide +kernel) (by decide +kernel) (by decide +kernel) dX2_init_54 (fun q_5 cJ H hK2 hP hD hS => ?_)
  have hcj : cJ = cI := jb_cI hK2 hK
  clear hK2; subst cJ
  have hP : va_P (dC, dI) vwCl [(hL, .inr (2, [.ref aS, .int b, .ref q_1, .ref q_2, .ref q_3, .ref q_4, .null, .int 0])), (q_1, .inl (cI, 500, .inl (fun _ => 0))), (q_2, .inl (cI, 500, .inl (fun _ => 0))), (q_3, .inl (cI, 500, .inl (fun _ => 0))), (q_4, .inl (cI, 500, .inl (fun _ => 0))), (q_5, .inl (cI, 152, .inl (fun _ => 0)))] H := hP
  have hD : va_D A [(hL, .inr (2, [.ref aS, .int b, .ref q_1, .ref q_2, .ref q_3, .ref q_4, .null, .int 0])), (q_1, .inl (cI, 500, .inl (fun _ => 0))), (q_2, .inl (cI, 500, .inl (fun _ => 0))), (q_3, .inl (cI, 500, .inl (fun _ => 0))), (q_4, .inl (cI, 500, .inl (fun _ => 0))), (q_5, .inl (cI, 152, .inl (fun _ => 0)))] := hD
  refine W.widen (k := 5) (n := 2152) (by decide +kernel) (by decide +kernel) ?_
  refine va_putF (D := (dC, dI)) (ci := 2) (v := .ref q_5) (ty := (.array .int)) (C := RX2) (T := TX2) (N := 8) hx hb hts iX2_init_X2 tyX2 tyX2_ok nmX2 hown hK hP hD hS 0 rfl rfl 6 (by decide) (hts (.fieldLink RX2 32 "JoinBench$Side" "partEnds" "[I") (by decide +kernel)) (fun _ h9 => h9) rfl hin rfl (by decide +kernel) rfl rfl (Nat.le_of_ble_eq_true rfl) dX2_init_56 (fun H locs hP hD hS => ?_)
  have hP : va_P (dC, dI) vwCl [(hL, .inr (2, [.ref aS, .int b, .ref q_1, .ref q_2, .ref q_3, .ref q_4, .ref q_5, .int 0])), (q_1, .inl (cI, 500, .inl (fun _ => 0))), (q_2, .inl (cI, 500, .inl (fun _ => 0))), (q_3, .inl (cI, 500, .inl (fun _ => 0))), (q_4, .inl (cI, 500, .inl (fun _ => 0))), (q_5, .inl (cI, 152, .inl (fun _ => 0)))] H := hP
  have hD : va_D A [(hL, .inr (2, [.ref aS, .int b, .ref q_1, .ref q_2, .ref q_3, .ref q_4, .ref q_5, .int 0])), (q_1, .inl (cI, 500, .inl (fun _ => 0))), (q_2, .inl (cI, 500, .inl (fun _ => 0))), (q_3, .inl (cI, 500, .inl (fun _ => 0))), (q_4, .inl (cI, 500, .inl (fun _ => 0))), (q_5, .inl (cI, 152, .inl (fun _ => 0)))] := hD
  refine lv_aload_n hx hb dX2_init_59 rfl (lv_at hl 0 rfl) ?_
  refine lv_iconst (v := 0) hx hb dX2_init_60 (by decide) ?_
  refine va_put (D := (dC, dI)) (ci := 2) (v := .int 0) (ty := .int) (C := RX2) (T := TX2) (N := 8) hx hb hts iX2_init_X2 tyX2 tyX2_ok nmX2 hown hK hP hD hS 0 rfl rfl 7 (by decide) (hts (.fieldLink RX2 35 "JoinBench$Side" "count" "I") (by decide +kernel)) (fun _ h9 => h9) rfl (by decide +kernel) rfl rfl (Nat.le_of_ble_eq_true rfl) dX2_init_61 (fun H locs hP hD hS => ?_)
  have hP : va_P (dC, dI) vwCl [(hL, .inr (2, [.ref aS, .int b, .ref q_1, .ref q_2, .ref q_3, .ref q_4, .ref q_5, .int 0])), (q_1, .inl (cI, 500, .inl (fun _ => 0))), (q_2, .inl (cI, 500, .inl (fun _ => 0))), (q_3, .inl (cI, 500, .inl (fun _ => 0))), (q_4, .inl (cI, 500, .inl (fun _ => 0))), (q_5, .inl (cI, 152, .inl (fun _ => 0)))] H := hP
  have hD : va_D A [(hL, .inr (2, [.ref aS, .int b, .ref q_1, .ref q_2, .ref q_3, .ref q_4, .ref q_5, .int 0])), (q_1, .inl (cI, 500, .inl (fun _ => 0))), (q_2, .inl (cI, 500, .inl (fun _ => 0))), (q_3, .inl (cI, 500, .inl (fun _ => 0))), (q_4, .inl (cI, 500, .inl (fun _ => 0))), (q_5, .inl (cI, 152, .inl (fun _ => 0)))] := hD
  have hP9 : va_P (dC, dI) vwCl [(hL, .inr (2, [.ref aS, .int b, .ref q_1, .ref q_2, .ref q_3, .ref q_4, .ref q_5, .int (nI 0)])), (q_1, .inl (cI, 500, .inl (fun _ => 0))), (q_2, .inl (cI, 500, .inl (fun _ => 0))), (q_3, .inl (cI, 500, .inl (jb_O (fun _ => 0)))), (q_4, .inl (cI, 500, .inl (fun _ => 0))), (q_5, .inl (cI, 152, .inl (fun _ => 0)))] H := hP.sub [0, 1, 2, 3, 4, 5] rfl
  have hD9 : va_D A [(hL, .inr (2, [.ref aS, .int b, .ref q_1, .ref q_2, .ref q_3, .ref q_4, .ref q_5, .int (nI 0)])), (q_1, .inl (cI, 500, .inl (fun _ => 0))), (q_2, .inl (cI, 500, .inl (fun _ => 0))), (q_3, .inl (cI, 500, .inl (jb_O (fun _ => 0)))), (q_4, .inl (cI, 500, .inl (fun _ => 0))), (q_5, .inl (cI, 152, .inl (fun _ => 0)))] := hD.sub [0, 1, 2, 3, 4, 5] (by decide) rfl
  exact W.vret hx hb hr (fun t ht hW => ⟨⟨(q_1, q_2, q_3, q_4, q_5), rfl, trivial, by rw [ht]; exact hP9, hD9⟩, hS.F ht⟩) hS.2.2 dX2_init_64
theorem iX2_copyOf_X2 : ∀ w ∈ wsX20, w ∈ wsX2_copyOf := by decide +kernel
theorem iX2_copyOf_X4 : ∀ w ∈ wsX40, w ∈ wsX2_copyOf := by decide +kernel
set_option maxHeartbeats 1000000 in
set_option maxRecDepth 100000 in
/-- Side.copyOf(table) -/
theorem c_copyOf (l : Launch) (dC : Nat → ClassId) (dI : Nat → Nat → Nat) (cI : ClassId) (sz : Nat) (hL aS kA vA oA sA eA hT hK1 hV1 : Nat) (b : Int32) (K V : Nat → Int32) (o : Nat → Nat) (Sp Pe : Nat → Int32) (n : Nat) (K1 V1 : Nat → Int32) (m0 : Nat) (hm0 : m0 ≤ 500) : Met l yX2_copyOf wsX2_copyOf ({ frames := 2, cells := 0, slots := 0, locals := 80 } : Room) (va_Pc [.ref hL, .ref hT] (jb_M dC dI cI sz [(hL, .inr (2, [.ref aS, .int b, .ref kA, .ref vA, .ref oA, .ref sA, .ref eA, .int (nI n)])), (kA, .inl (cI, 500, .inl K)), (vA, .inl (cI, 500, .inl V)), (oA, .inl (cI, 500, .inl (jb_O o))), (sA, .inl (cI, 500, .inl Sp)), (eA, .inl (cI, 152, .inl Pe)), (hT, .inr (4, [.ref hK1, .ref hV1, .int (nI m0)])), (hK1, .inl (cI, 500, .inl K1)), (hV1, .inl (cI, 500, .inl V1))])) (va_Qv (fun (_ : Unit) => True) (jb_B dC dI (va_A [(hL, .inr (2, [.ref aS, .int b, .ref kA, .ref vA, .ref oA, .ref sA, .ref eA, .int (nI n)])), (kA, .inl (cI, 500, .inl K)), (vA, .inl (cI, 500, .inl V)), (oA, .inl (cI, 500, .inl (jb_O o))), (sA, .inl (cI, 500, .inl Sp)), (eA, .inl (cI, 152, .inl Pe)), (hT, .inr (4, [.ref hK1, .ref hV1, .int (nI m0)])), (hK1, .inl (cI, 500, .inl K1)), (hV1, .inl (cI, 500, .inl V1))] sz) (fun _ => [(hL, .inr (2, [.ref aS, .int b, .ref kA, .ref vA, .ref oA, .ref sA, .ref eA, .int (nI m0)])), (kA, .inl (cI, 500, .inl (va_cpy K1 K 0 0 m0))), (vA, .inl (cI, 500, .inl (va_cpy V1 V 0 0 m0))), (oA, .inl (cI, 500, .inl (jb_O (jb_idn o m0)))), (sA, .inl (cI, 500, .inl Sp)), (eA, .inl (cI, 152, .inl Pe)), (hT, .inr (4, [.ref hK1, .ref hV1, .int (nI m0)])), (hK1, .inl (cI, 500, .inl K1)), (hV1, .inl (cI, 500, .inl V1))])) (va_A [(hL, .inr (2, [.ref aS, .int b, .ref kA, .ref vA, .ref oA, .ref sA, .ref eA, .int (nI n)])), (kA, .inl (cI, 500, .inl K)), (vA, .inl (cI, 500, .inl V)), (oA, .inl (cI, 500, .inl (jb_O o))), (sA, .inl (cI, 500, .inl Sp)), (eA, .inl (cI, 152, .inl Pe)), (hT, .inr (4, [.ref hK1, .ref hV1, .int (nI m0)])), (hK1, .inl (cI, 500, .inl K1)), (hV1, .inl (cI, 500, .inl V1))] sz)) 0 0 (va_A [(hL, .inr (2, [.ref aS, .int b, .ref kA, .ref vA, .ref oA, .ref sA, .ref eA, .int (nI n)])), (kA, .inl (cI, 500, .inl K)), (vA, .inl (cI, 500, .inl V)), (oA, .inl (cI, 500, .inl (jb_O o))), (sA, .inl (cI, 500, .inl Sp)), (eA, .inl (cI, 152, .inl Pe)), (hT, .inr (4, [.ref hK1, .ref hV1, .int (nI m0)])), (hK1, .inl (cI, 500, .inl K1)), (hV1, .inl (cI, 500, .inl V1))] sz) := by
  refine Met.ofW (cc := cX2_copyOf) (maxL := 3) (ret := none) (by decide) rfl ?_
  intro p e s m args below meth c s₁ B hml hv
  obtain ⟨rfl, hsz, hP, hK, hNw, hD0⟩ := hv
  have hx := B.exec
  have hb := B.bytes
  have hr := B.returns
  have hts := atoms_spec (ws := wsX2_copyOf) B.pre
  have hown : s.vm.findClass RX2 = some m.cls := findClass_of_methodNamed B.named
  have hlocks := B.notSynchronized
  subst hsz
  have hD := hD0.self (sz := s.heap.size)
  generalize hAe : va_A [(hL, .inr (2, [.ref aS, .int b, .ref kA, .ref vA, .ref oA, .ref sA, .ref eA, .int (nI n)])), (kA, .inl (cI, 500, .inl K)), (vA, .inl (cI, 500, .inl V)), (oA, .inl (cI, 500, .inl (jb_O o))), (sA, .inl (cI, 500, .inl Sp)), (eA, .inl (cI, 152, .inl Pe)), (hT, .inr (4, [.ref hK1, .ref hV1, .int (nI m0)])), (hK1, .inl (cI, 500, .inl K1)), (hV1, .inl (cI, 500, .inl V1))] s.heap.size = A at hD ⊢
  have hA : ∀ q : Nat, s.heap.size ≤ q → A q := fun q h => by rw [← hAe]; exact Or.inr h
  have hS : va_S A s.heap s.heap [] := va_S.rf
  have hP : va_P (dC, dI) vwCl [(hL, .inr (2, [.ref aS, .int b, .ref kA, .ref vA, .ref oA, .ref sA, .ref eA, .int (nI n)])), (kA, .inl (cI, 500, .inl K)), (vA, .inl (cI, 500, .inl V)), (oA, .inl (cI, 500, .inl (jb_O o))), (sA, .inl (cI, 500, .inl Sp)), (eA, .inl (cI, 152, .inl Pe)), (hT, .inr (4, [.ref hK1, .ref hV1, .int (nI m0)])), (hK1, .inl (cI, 500, .inl K1)), (hV1, .inl (cI, 500, .inl V1))] s.heap := hP
  have hl := lv_entry ([.ref hL, .ref hT]) (n := 3) (Nat.le_of_ble_eq_true rfl)
  rw [lg_entry_eq]
  generalize (lg_sl ([.ref hL, .ref hT]) ++ List.replicate (3 - (lg_sl ([.ref hL, .ref hT])).length) Slot.unset).toArray = ls at hl ⊢
  have hl : lv_has ls 3 [(0, .ref hL), (1, .ref hT)] := hl
  refine lv_aload_n hx hb dX2_copyOf_0 rfl (lv_at hl 0 rfl) ?_
  refine lv_aload_n hx hb dX2_copyOf_1 rfl (lv_at hl 1 rfl) ?_
  refine va_getN (D := (dC, dI)) (ci := 4) (v := .int (nI m0)) (C := RX4) (T := TX4) (N := 3) hx hb hts iX2_copyOf_X4 hown hK hP 6 rfl rfl 2 (by decide) (hNw.use (q := (RX2, 39, "JoinBench$Table", "count", "I")) (by decide +kernel)) (fun _ h9 => h9) rfl dX2_copyOf_2 ?_
  refine va_put (D := (dC, dI)) (ci := 2) (v := .int (nI m0)) (ty := .int) (C := RX2) (T := TX2) (N := 8) hx hb hts iX2_copyOf_X2 tyX2 tyX2_ok nmX2 hown hK hP hD hS 0 rfl rfl 7 (by decide) (hts (.fieldLink RX2 35 "JoinBench$Side" "count" "I") (by decide +kernel)) (fun _ h9 => h9) rfl (by decide +kernel) rfl rfl (Nat.le_of_ble_eq_true rfl) dX2_copyOf_5 (fun H locs hP hD hS => ?_)
  have hP : va_P (dC, dI) vwCl [(hL, .inr (2, [.ref aS, .int b, .ref kA, .ref vA, .ref oA, .ref sA, .ref eA, .int (nI m0)])), (kA, .inl (cI, 500, .inl K)), (vA, .inl (cI, 500, .inl V)), (oA, .inl (cI, 500, .inl (jb_O o))), (sA, .inl (cI, 500, .inl Sp)), (eA, .inl (cI, 152, .inl Pe)), (hT, .inr (4, [.ref hK1, .ref hV1, .int (nI m0)])), (hK1, .inl (cI, 500, .inl K1)), (hV1, .inl (cI, 500, .inl V1))] H := hP
  have hD : va_D A [(hL, .inr (2, [.ref aS, .int b, .ref kA, .ref vA, .ref oA, .ref sA, .ref eA, .int (nI m0)])), (kA, .inl (cI, 500, .inl K)), (vA, .inl (cI, 500, .inl V)), (oA, .inl (cI, 500, .inl (jb_O o))), (sA, .inl (cI, 500, .inl Sp)), (eA, .inl (cI, 152, .inl Pe)), (hT, .inr (4, [.ref hK1, .ref hV1, .int (nI m0)])), (hK1, .inl (cI, 500, .inl K1)), (hV1, .inl (cI, 500, .inl V1))] := hD
  refine lv_aload_n hx hb dX2_copyOf_8 rfl (lv_at hl 1 rfl) ?_
  refine va_getN (D := (dC, dI)) (ci := 4) (v := .ref hK1) (C := RX4) (T := TX4) (N := 3) hx hb hts iX2_copyOf_X4 hown hK hP 6 rfl rfl 0 (by decide) (hNw.use (q := (RX2, 42, "JoinBench$Table", "keys", "[I")) (by decide +kernel)) (fun _ h9 => h9) rfl dX2_copyOf_9 ?_
  refine lv_iconst (v := 0) hx hb dX2_copyOf_12 (by decide) ?_
  refine lv_aload_n hx hb dX2_copyOf_13 rfl (lv_at hl 0 rfl) ?_
  refine va_get (D := (dC, dI)) (ci := 2) (v := .ref kA) (C := RX2) (T := TX2) (N := 8) hx hb hts iX2_copyOf_X2 hown hK hP 0 rfl rfl 2 (by decide) (hts (.fieldLink RX2 19 "JoinBench$Side" "keys" "[I") (by decide +kernel)) (fun _ h9 => h9) rfl dX2_copyOf_14 ?_
  refine lv_iconst (v := 0) hx hb dX2_copyOf_17 (by decide) ?_
  refine lv_aload_n hx hb dX2_copyOf_18 rfl (lv_at hl 0 rfl) ?_
  refine va_get (D := (dC, dI)) (ci := 2) (v := .int (nI m0)) (C := RX2) (T := TX2) (N := 8) hx hb hts iX2_copyOf_X2 hown hK hP 0 rfl rfl 7 (by decide) (hts (.fieldLink RX2 35 "JoinBench$Side" "count" "I") (by decide +kernel)) (fun _ h9 => h9) rfl dX2_copyOf_19 ?_
  refine va_copyi hx hb (by rw [hml]; exact hl.1.symm) hown (hts (.methodLink RX2 43 arraycopyName) (by decide +kernel)) (hts (.native arraycopyName) (by decide +kernel)) (hts (.static arraycopyName) (by decide +kernel)) (hts (.initialized "java/lang/System") (by decide +kernel)) hK hP hD hS 7 1 0 0 rfl rfl rfl rfl rfl (sp := 0) (dp := 0) (n := nI m0) (by decide) (by decide) (nI_pos (by omega)) (by rw [nI_clamp (by omega)]; show 0 + m0 ≤ 500; omega) (by rw [nI_clamp (by omega)]; show 0 + m0 ≤ 500; omega) (fun i _ => rfl) (by decide +kernel) (Nat.le_of_ble_eq_true rfl) dX2_copyOf_22 (fun H locs hP hD hS => ?_)
  rw [show (nI m0).toNatClampNeg = m0 from nI_clamp (by omega)] at hP hD
  have hP : va_P (dC, dI) vwCl [(hL, .inr (2, [.ref aS, .int b, .ref kA, .ref vA, .ref oA, .ref sA, .ref eA, .int (nI m0)])), (kA, .inl (cI, 500, .inl (va_cpy K1 K 0 0 m0))), (vA, .inl (cI, 500, .inl V)), (oA, .inl (cI, 500, .inl (jb_O o))), (sA, .inl (cI, 500, .inl Sp)), (eA, .inl (cI, 152, .inl Pe)), (hT, .inr (4, [.ref hK1, .ref hV1, .int (nI m0)])), (hK1, .inl (cI, 500, .inl K1)), (hV1, .inl (cI, 500, .inl V1))] H := hP
  have hD : va_D A [(hL, .inr (2, [.ref aS, .int b, .ref kA, .ref vA, .ref oA, .ref sA, .ref eA, .int (nI m0)])), (kA, .inl (cI, 500, .inl (va_cpy K1 K 0 0 m0))), (vA, .inl (cI, 500, .inl V)), (oA, .inl (cI, 500, .inl (jb_O o))), (sA, .inl (cI, 500, .inl Sp)), (eA, .inl (cI, 152, .inl Pe)), (hT, .inr (4, [.ref hK1, .ref hV1, .int (nI m0)])), (hK1, .inl (cI, 500, .inl K1)), (hV1, .inl (cI, 500, .inl V1))] := hD
  refine lv_aload_n hx hb dX2_copyOf_25 rfl (lv_at hl 1 rfl) ?_
  refine va_getN (D := (dC, dI)) (ci := 4) (v := .ref hV1) (C := RX4) (T := TX4) (N := 3) hx hb hts iX2_copyOf_X4 hown hK hP 6 rfl rfl 1 (by decide) (hNw.use (q := (RX2, 49, "JoinBench$Table", "values", "[I")) (by decide +kernel)) (fun _ h9 => h9) rfl dX2_copyOf_26 ?_
  refine lv_iconst (v := 0) hx hb dX2_copyOf_29 (by decide) ?_
  refine lv_aload_n hx hb dX2_copyOf_30 rfl (lv_at hl 0 rfl) ?_
  refine va_get (D := (dC, dI)) (ci := 2) (v := .ref vA) (C := RX2) (T := TX2) (N := 8) hx hb hts iX2_copyOf_X2 hown hK hP 0 rfl rfl 3 (by decide) (hts (.fieldLink RX2 23 "JoinBench$Side" "values" "[I") (by decide +kernel)) (fun _ h9 => h9) rfl dX2_copyOf_31 ?_
  refine lv_iconst (v := 0) hx hb dX2_copyOf_34 (by decide) ?_
  refine lv_aload_n hx hb dX2_copyOf_35 rfl (lv_at hl 0 rfl) ?_
  refine va_get (D := (dC, dI)) (ci := 2) (v := .int (nI m0)) (C := RX2) (T := TX2) (N := 8) hx hb hts iX2_copyOf_X2 hown hK hP 0 rfl rfl 7 (by decide) (hts (.fieldLink RX2 35 "JoinBench$Side" "count" "I") (by decide +kernel)) (fun _ h9 => h9) rfl dX2_copyOf_36 ?_
  refine va_copyi hx hb (by rw [hml]; exact hl.1.symm) hown (hts (.methodLink RX2 43 arraycopyName) (by decide +kernel)) (hts (.native arraycopyName) (by decide +kernel)) (hts (.static arraycopyName) (by decide +kernel)) (hts (.initialized "java/lang/System") (by decide +kernel)) hK hP hD hS 8 2 0 0 rfl rfl rfl rfl rfl (sp := 0) (dp := 0) (n := nI m0) (by decide) (by decide) (nI_pos (by omega)) (by rw [nI_clamp (by omega)]; show 0 + m0 ≤ 500; omega) (by rw [nI_clamp (by omega)]; show 0 + m0 ≤ 500; omega) (fun i _ => rfl) (by decide +kernel) (Nat.le_of_ble_eq_true rfl) dX2_copyOf_39 (fun H locs hP hD hS => ?_)
  rw [show (nI m0).toNatClampNeg = m0 from nI_clamp (by omega)] at hP hD
  have hP : va_P (dC, dI) vwCl [(hL, .inr (2, [.ref aS, .int b, .ref kA, .ref vA, .ref oA, .ref sA, .ref eA, .int (nI m0)])), (kA, .inl (cI, 500, .inl (va_cpy K1 K 0 0 m0))), (vA, .inl (cI, 500, .inl (va_cpy V1 V 0 0 m0))), (oA, .inl (cI, 500, .inl (jb_O o))), (sA, .inl (cI, 500, .inl Sp)), (eA, .inl (cI, 152, .inl Pe)), (hT, .inr (4, [.ref hK1, .ref hV1, .int (nI m0)])), (hK1, .inl (cI, 500, .inl K1)), (hV1, .inl (cI, 500, .inl V1))] H := hP
  have hD : va_D A [(hL, .inr (2, [.ref aS, .int b, .ref kA, .ref vA, .ref oA, .ref sA, .ref eA, .int (nI m0)])), (kA, .inl (cI, 500, .inl (va_cpy K1 K 0 0 m0))), (vA, .inl (cI, 500, .inl (va_cpy V1 V 0 0 m0))), (oA, .inl (cI, 500, .inl (jb_O o))), (sA, .inl (cI, 500, .inl Sp)), (eA, .inl (cI, 152, .inl Pe)), (hT, .inr (4, [.ref hK1, .ref hV1, .int (nI m0)])), (hK1, .inl (cI, 500, .inl K1)), (hV1, .inl (cI, 500, .inl V1))] := hD
  refine lv_iconst (v := 0) hx hb dX2_copyOf_42 (by decide) ?_
  refine lv_istore_n (lv' := [(2, .int 0), (0, .ref hL), (1, .ref hT)]) hx hb dX2_copyOf_43 rfl hl (by decide) rfl (fun ls hl => ?_)
  rw [← jb_idn_0 o] at hP hD
  have hl_a : ∀ (k_a : Nat) (i : Nat), m0 - i < k_a → (i ≤ m0) → ∀ (H : Heap) (locs : List Loc), va_P (dC, dI) vwCl [(hL, .inr (2, [.ref aS, .int b, .ref kA, .ref vA, .ref oA, .ref sA, .ref eA, .int (nI m0)])), (kA, .inl (cI, 500, .inl (va_cpy K1 K 0 0 m0))), (vA, .inl (cI, 500, .inl (va_cpy V1 V 0 0 m0))), (oA, .inl (cI, 500, .inl (jb_O (jb_idn o i)))), (sA, .inl (cI, 500, .inl Sp)), (eA, .inl (cI, 152, .inl Pe)), (hT, .inr (4, [.ref hK1, .ref hV1, .int (nI m0)])), (hK1, .inl (cI, 500, .inl K1)), (hV1, .inl (cI, 500, .inl V1))] H → va_D A [(hL, .inr (2, [.ref aS, .int b, .ref kA, .ref vA, .ref oA, .ref sA, .ref eA, .int (nI m0)])), (kA, .inl (cI, 500, .inl (va_cpy K1 K 0 0 m0))), (vA, .inl (cI, 500, .inl (va_cpy V1 V 0 0 m0))), (oA, .inl (cI, 500, .inl (jb_O (jb_idn o i)))), (sA, .inl (cI, 500, .inl Sp)), (eA, .inl (cI, 152, .inl Pe)), (hT, .inr (4, [.ref hK1, .ref hV1, .int (nI m0)])), (hK1, .inl (cI, 500, .inl K1)), (hV1, .inl (cI, 500, .inl V1))] → va_S A s.heap H locs → ∀ ls : Array Slot, lv_has ls 3 [(0, .ref hL), (1, .ref hT), (2, .int (nI i))] → W p l e ({ frames := 2, cells := 0, slots := 0, locals := 80 } : Room) s m ([.ref hL, .ref hT] : List Value).toArray below meth c H locs 0 0 (MQ below (va_Qv (fun (_ : Unit) => True) (jb_B dC dI A (fun _ => [(hL, .inr (2, [.ref aS, .int b, .ref kA, .ref vA, .ref oA, .ref sA, .ref eA, .int (nI m0)])), (kA, .inl (cI, 500, .inl (va_cpy K1 K 0 0 m0))), (vA, .inl (cI, 500, .inl (va_cpy V1 V 0 0 m0))), (oA, .inl (cI, 500, .inl (jb_O (jb_idn o m0)))), (sA, .inl (cI, 500, .inl Sp)), (eA, .inl (cI, 152, .inl Pe)), (hT, .inr (4, [.ref hK1, .ref hV1, .int (nI m0)])), (hK1, .inl (cI, 500, .inl K1)), (hV1, .inl (cI, 500, .inl V1))])) A) ([.ref hL, .ref hT] : List Value).toArray s 0 0 (A)) (F0 m 44 ls []) := by
    intro k_a
    induction k_a with
    | zero => intro i hk; exact absurd hk (Nat.not_lt_zero _)
    | succ k_a ih_a =>
      intro i hk_a hi H locs hP hD hS ls hl
      refine lv_iload_n hx hb dX2_copyOf_44 rfl (lv_at hl 2 rfl) ?_
      refine lv_aload_n hx hb dX2_copyOf_45 rfl (lv_at hl 0 rfl) ?_
      refine va_get (D := (dC, dI)) (ci := 2) (v := .int (nI m0)) (C := RX2) (T := TX2) (N := 8) hx hb hts iX2_copyOf_X2 hown hK hP 0 rfl rfl 7 (by decide) (hts (.fieldLink RX2 35 "JoinBench$Side" "count" "I") (by decide +kernel)) (fun _ h9 => h9) rfl dX2_copyOf_46 ?_
      refine lv_icmp_ge (tgt := 65) hx hb dX2_copyOf_49 (by decide) (fun c_49 => ?_) (fun c_49 => ?_)
      · have hge : i = m0 := by have := (nI_leI (a := m0) (b := i) (by omega) (by omega)).mp c_49; omega
        rw [hge] at hP hD
        have hP9 : va_P (dC, dI) vwCl [(hL, .inr (2, [.ref aS, .int b, .ref kA, .ref vA, .ref oA, .ref sA, .ref eA, .int (nI m0)])), (kA, .inl (cI, 500, .inl (va_cpy K1 K 0 0 m0))), (vA, .inl (cI, 500, .inl (va_cpy V1 V 0 0 m0))), (oA, .inl (cI, 500, .inl (jb_O (jb_idn o m0)))), (sA, .inl (cI, 500, .inl Sp)), (eA, .inl (cI, 152, .inl Pe)), (hT, .inr (4, [.ref hK1, .ref hV1, .int (nI m0)])), (hK1, .inl (cI, 500, .inl K1)), (hV1, .inl (cI, 500, .inl V1))] H := hP.sub [0, 1, 2, 3, 4, 5, 6, 7, 8] rfl
        have hD9 : va_D A [(hL, .inr (2, [.ref aS, .int b, .ref kA, .ref vA, .ref oA, .ref sA, .ref eA, .int (nI m0)])), (kA, .inl (cI, 500, .inl (va_cpy K1 K 0 0 m0))), (vA, .inl (cI, 500, .inl (va_cpy V1 V 0 0 m0))), (oA, .inl (cI, 500, .inl (jb_O (jb_idn o m0)))), (sA, .inl (cI, 500, .inl Sp)), (eA, .inl (cI, 152, .inl Pe)), (hT, .inr (4, [.ref hK1, .ref hV1, .int (nI m0)])), (hK1, .inl (cI, 500, .inl K1)), (hV1, .inl (cI, 500, .inl V1))] := hD.sub [0, 1, 2, 3, 4, 5, 6, 7, 8] (by decide) rfl
        exact W.vret hx hb hr (fun t ht hW => ⟨⟨(), rfl, trivial, by rw [ht]; exact hP9, hD9⟩, hS.F ht⟩) hS.2.2 dX2_copyOf_65
      · have hlt : i < m0 := (jb_nle (a := m0) (b := i) (by omega) (by omega)).mp c_49
        refine lv_aload_n hx hb dX2_copyOf_52 rfl (lv_at hl 0 rfl) ?_
        refine va_get (D := (dC, dI)) (ci := 2) (v := .ref oA) (C := RX2) (T := TX2) (N := 8) hx hb hts iX2_copyOf_X2 hown hK hP 0 rfl rfl 4 (by decide) (hts (.fieldLink RX2 26 "JoinBench$Side" "order" "[I") (by decide +kernel)) (fun _ h9 => h9) rfl dX2_copyOf_53 ?_
        refine lv_iload_n hx hb dX2_copyOf_56 rfl (lv_at hl 2 rfl) ?_
        refine lv_iload_n hx hb dX2_copyOf_57 rfl (lv_at hl 2 rfl) ?_
        refine va_iast hx hb hK hP hD hS 3 0 rfl rfl (i := nI i) (x := nI i) (vp_in_nI (n := i) (by omega) (by decide)) dX2_copyOf_58 (fun H locs hP hD hS => ?_)
        rw [show (nI i : Int32).toNatClampNeg = i from nI_clamp (by omega)] at hP hD
        have hP : va_P (dC, dI) vwCl [(hL, .inr (2, [.ref aS, .int b, .ref kA, .ref vA, .ref oA, .ref sA, .ref eA, .int (nI m0)])), (kA, .inl (cI, 500, .inl (va_cpy K1 K 0 0 m0))), (vA, .inl (cI, 500, .inl (va_cpy V1 V 0 0 m0))), (oA, .inl (cI, 500, .inl (upd (jb_O (jb_idn o i)) i (nI i)))), (sA, .inl (cI, 500, .inl Sp)), (eA, .inl (cI, 152, .inl Pe)), (hT, .inr (4, [.ref hK1, .ref hV1, .int (nI m0)])), (hK1, .inl (cI, 500, .inl K1)), (hV1, .inl (cI, 500, .inl V1))] H := hP
        have hD : va_D A [(hL, .inr (2, [.ref aS, .int b, .ref kA, .ref vA, .ref oA, .ref sA, .ref eA, .int (nI m0)])), (kA, .inl (cI, 500, .inl (va_cpy K1 K 0 0 m0))), (vA, .inl (cI, 500, .inl (va_cpy V1 V 0 0 m0))), (oA, .inl (cI, 500, .inl (upd (jb_O (jb_idn o i)) i (nI i)))), (sA, .inl (cI, 500, .inl Sp)), (eA, .inl (cI, 152, .inl Pe)), (hT, .inr (4, [.ref hK1, .ref hV1, .int (nI m0)])), (hK1, .inl (cI, 500, .inl K1)), (hV1, .inl (cI, 500, .inl V1))] := hD
        rw [jb_idn_s] at hP hD
        refine lv_iinc (v := nI (i + 1)) (lv' := [(2, .int (nI (i + 1))), (0, .ref hL), (1, .ref hT)]) hx hb dX2_copyOf_59 hl (k := 2) rfl (nI_1 i) (by decide) rfl (fun ls hl => ?_)
        refine lv_goto (tgt := 44) hx hb dX2_copyOf_62 (by decide) ?_
        exact ih_a (i + 1) (by omega) hlt H locs hP hD hS ls (lv_sub hl [1, 2, 0] rfl)
  exact hl_a (m0 - 0 + 1) 0 (by omega) (Nat.zero_le _) H locs hP hD hS ls (lv_sub hl [1, 2, 0] rfl)
theorem iX2_layInParts_X2 : ∀ w ∈ wsX20, w ∈ wsX2_layInParts := by decide +kernel
set_option maxHeartbeats 1000000 in
set_option maxRecDepth 100000 in
/-- Side.layInParts(from, to, level) -/
theorem c_layInParts (l : Launch) (dC : Nat → ClassId) (dI : Nat → Nat → Nat) (cI : ClassId) (sz : Nat) (hL aS aN kA vA oA sA eA per mem par : Nat) (b : Int32) (K V : Nat → Int32) (o : Nat → Nat) (Sp Pe : Nat → Int32) (n fr lv : Nat) (la : List Nat) (hin : jb_in o fr la) (hb5 : ∀ r ∈ la, r < 500) (hto : fr + la.length ≤ n) (hn : n ≤ 500) (hlv : lv < 8) (h1 : 1 ≤ per) (hp : per ≤ 16) (hm : 3 ≤ mem) (hm2 : mem ≤ 20) : Met l yX2_layInParts wsX2_layInParts ({ frames := 5, cells := 0, slots := 0, locals := 200 } : Room) (va_Pc [.ref hL, .int (nI fr), .int (nI (fr + la.length)), .int (nI lv)] (jb_M dC dI cI sz [(aS, .inr (3, [.ref aN])), (aN, .inl (cI, 3, .inl (jb_now per mem par))), (hL, .inr (2, [.ref aS, .int b, .ref kA, .ref vA, .ref oA, .ref sA, .ref eA, .int (nI n)])), (kA, .inl (cI, 500, .inl K)), (vA, .inl (cI, 500, .inl V)), (oA, .inl (cI, 500, .inl (jb_O o))), (sA, .inl (cI, 500, .inl Sp)), (eA, .inl (cI, 152, .inl Pe))])) (va_Qi (fun r (u : (Nat → Nat) × (Nat → Int32) × (Nat → Int32)) => jb_lay per mem K lv fr la o Pe r u.1 u.2.2) (jb_B dC dI (va_A [(aS, .inr (3, [.ref aN])), (aN, .inl (cI, 3, .inl (jb_now per mem par))), (hL, .inr (2, [.ref aS, .int b, .ref kA, .ref vA, .ref oA, .ref sA, .ref eA, .int (nI n)])), (kA, .inl (cI, 500, .inl K)), (vA, .inl (cI, 500, .inl V)), (oA, .inl (cI, 500, .inl (jb_O o))), (sA, .inl (cI, 500, .inl Sp)), (eA, .inl (cI, 152, .inl Pe))] sz) (fun u => [(aS, .inr (3, [.ref aN])), (aN, .inl (cI, 3, .inl (jb_now per mem par))), (hL, .inr (2, [.ref aS, .int b, .ref kA, .ref vA, .ref oA, .ref sA, .ref eA, .int (nI n)])), (kA, .inl (cI, 500, .inl K)), (vA, .inl (cI, 500, .inl V)), (oA, .inl (cI, 500, .inl (jb_O u.1))), (sA, .inl (cI, 500, .inl u.2.1)), (eA, .inl (cI, 152, .inl u.2.2))])) (va_A [(aS, .inr (3, [.ref aN])), (aN, .inl (cI, 3, .inl (jb_now per mem par))), (hL, .inr (2, [.ref aS, .int b, .ref kA, .ref vA, .ref oA, .ref sA, .ref eA, .int (nI n)])), (kA, .inl (cI, 500, .inl K)), (vA, .inl (cI, 500, .inl V)), (oA, .inl (cI, 500, .inl (jb_O o))), (sA, .inl (cI, 500, .inl Sp)), (eA, .inl (cI, 152, .inl Pe))] sz)) 0 0 (va_A [(aS, .inr (3, [.ref aN])), (aN, .inl (cI, 3, .inl (jb_now per mem par))), (hL, .inr (2, [.ref aS, .int b, .ref kA, .ref vA, .ref oA, .ref sA, .ref eA, .int (nI n)])), (kA, .inl (cI, 500, .inl K)), (vA, .inl (cI, 500, .inl V)), (oA, .inl (cI, 500, .inl (jb_O o))), (sA, .inl (cI, 500, .inl Sp)), (eA, .inl (cI, 152, .inl Pe))] sz) := by
  refine Met.ofW (cc := cX2_layInParts) (maxL := 9) (ret := (some .int)) (by decide) rfl ?_
  intro p e s m args below meth c s₁ B hml hv
  obtain ⟨rfl, hsz, hP, hK, hNw, hD0⟩ := hv
  have hx := B.exec
  have hb := B.bytes
  have hr := B.returns
  have hts := atoms_spec (ws := wsX2_layInParts) B.pre
  have hown : s.vm.findClass RX2 = some m.cls := findClass_of_methodNamed B.named
  have hlocks := B.notSynchronized
  subst hsz
  have hD := hD0.self (sz := s.heap.size)
  generalize hAe : va_A [(aS, .inr (3, [.ref aN])), (aN, .inl (cI, 3, .inl (jb_now per mem par))), (hL, .inr (2, [.ref aS, .int b, .ref kA, .ref vA, .ref oA, .ref sA, .ref eA, .int (nI n)])), (kA, .inl (cI, 500, .inl K)), (vA, .inl (cI, 500, .inl V)), (oA, .inl (cI, 500, .inl (jb_O o))), (sA, .inl (cI, 500, .inl Sp)), (eA, .inl (cI, 152, .inl Pe))] s.heap.size = A at hD ⊢
  have hA : ∀ q : Nat, s.heap.size ≤ q → A q := fun q h => by rw [← hAe]; exact Or.inr h
  have hS : va_S A s.heap s.heap [] := va_S.rf
  have hP : va_P (dC, dI) vwCl [(aS, .inr (3, [.ref aN])), (aN, .inl (cI, 3, .inl (jb_now per mem par))), (hL, .inr (2, [.ref aS, .int b, .ref kA, .ref vA, .ref oA, .ref sA, .ref eA, .int (nI n)])), (kA, .inl (cI, 500, .inl K)), (vA, .inl (cI, 500, .inl V)), (oA, .inl (cI, 500, .inl (jb_O o))), (sA, .inl (cI, 500, .inl Sp)), (eA, .inl (cI, 152, .inl Pe))] s.heap := hP
  have hl := lv_entry ([.ref hL, .int (nI fr), .int (nI (fr + la.length)), .int (nI lv)]) (n := 9) (Nat.le_of_ble_eq_true rfl)
  rw [lg_entry_eq]
  generalize (lg_sl ([.ref hL, .int (nI fr), .int (nI (fr + la.length)), .int (nI lv)]) ++ List.replicate (9 - (lg_sl ([.ref hL, .int (nI fr), .int (nI (fr + la.length)), .int (nI lv)])).length) Slot.unset).toArray = ls at hl ⊢
  have hl : lv_has ls 9 [(0, .ref hL), (1, .int (nI fr)), (2, .int (nI (fr + la.length))), (3, .int (nI lv))] := hl
  refine lv_iload_n hx hb dX2_layInParts_0 rfl (lv_at hl 1 rfl) ?_
  refine lv_if_lt (tgt := 22) hx hb dX2_layInParts_1 (by decide) (fun c_1 => ?_) (fun c_1 => ?_)
  · exact absurd c_1 (nI_pos (by omega))
  · refine lv_iload_n hx hb dX2_layInParts_4 rfl (lv_at hl 2 rfl) ?_
    refine lv_aload_n hx hb dX2_layInParts_5 rfl (lv_at hl 0 rfl) ?_
    refine va_get (D := (dC, dI)) (ci := 2) (v := .int (nI n)) (C := RX2) (T := TX2) (N := 8) hx hb hts iX2_layInParts_X2 hown hK hP 2 rfl rfl 7 (by decide) (hts (.fieldLink RX2 35 "JoinBench$Side" "count" "I") (by decide +kernel)) (fun _ h9 => h9) rfl dX2_layInParts_6 ?_
    refine lv_icmp_gt (tgt := 22) hx hb dX2_layInParts_9 (by decide) (fun c_9 => ?_) (fun c_9 => ?_)
    · exact absurd c_9 (nI_nlt (a := n) (b := fr + la.length) hto (by omega))
    · refine lv_iload_n hx hb dX2_layInParts_12 rfl (lv_at hl 3 rfl) ?_
      refine lv_if_lt (tgt := 22) hx hb dX2_layInParts_13 (by decide) (fun c_13 => ?_) (fun c_13 => ?_)
      · exact absurd c_13 (nI_pos (by omega))
      · refine lv_iload_n hx hb dX2_layInParts_16 rfl (lv_at hl 3 rfl) ?_
        refine lv_bipush (v := 8) hx hb dX2_layInParts_17 (by decide) ?_
        refine lv_icmp_lt (tgt := 24) hx hb dX2_layInParts_19 (by decide) (fun c_19 => ?_) (fun c_19 => ?_)
        · refine lv_iload_n hx hb dX2_layInParts_24 rfl (lv_at hl 1 rfl) ?_
          refine lv_istore (lv' := [(4, .int (nI fr)), (0, .ref hL), (1, .int (nI fr)), (2, .int (nI (fr + la.length))), (3, .int (nI lv))]) hx hb dX2_layInParts_25 hl (by decide) rfl (fun ls hl => ?_)
          have hl_a : ∀ (k_a : Nat) (i : Nat) (Sp1 : Nat → Int32), la.length - i < k_a → (i ≤ la.length) → (∀ t, t < i → Sp1 (fr + t) = nI (jb_pf mem K lv (la.getD t 0) * 512 + la.getD t 0)) → ∀ (H : Heap) (locs : List Loc), va_P (dC, dI) vwCl [(aS, .inr (3, [.ref aN])), (aN, .inl (cI, 3, .inl (jb_now per mem par))), (hL, .inr (2, [.ref aS, .int b, .ref kA, .ref vA, .ref oA, .ref sA, .ref eA, .int (nI n)])), (kA, .inl (cI, 500, .inl K)), (vA, .inl (cI, 500, .inl V)), (oA, .inl (cI, 500, .inl (jb_O o))), (sA, .inl (cI, 500, .inl Sp1)), (eA, .inl (cI, 152, .inl Pe))] H → va_D A [(aS, .inr (3, [.ref aN])), (aN, .inl (cI, 3, .inl (jb_now per mem par))), (hL, .inr (2, [.ref aS, .int b, .ref kA, .ref vA, .ref oA, .ref sA, .ref eA, .int (nI n)])), (kA, .inl (cI, 500, .inl K)), (vA, .inl (cI, 500, .inl V)), (oA, .inl (cI, 500, .inl (jb_O o))), (sA, .inl (cI, 500, .inl Sp1)), (eA, .inl (cI, 152, .inl Pe))] → va_S A s.heap H locs → ∀ ls : Array Slot, lv_has ls 9 [(0, .ref hL), (1, .int (nI fr)), (2, .int (nI (fr + la.length))), (3, .int (nI lv)), (4, .int (nI (fr + i)))] → W p l e ({ frames := 5, cells := 0, slots := 0, locals := 200 } : Room) s m ([.ref hL, .int (nI fr), .int (nI (fr + la.length)), .int (nI lv)] : List Value).toArray below meth c H locs 0 0 (MQ below (va_Qi (fun r (u : (Nat → Nat) × (Nat → Int32) × (Nat → Int32)) => jb_lay per mem K lv fr la o Pe r u.1 u.2.2) (jb_B dC dI A (fun u => [(aS, .inr (3, [.ref aN])), (aN, .inl (cI, 3, .inl (jb_now per mem par))), (hL, .inr (2, [.ref aS, .int b, .ref kA, .ref vA, .ref oA, .ref sA, .ref eA, .int (nI n)])), (kA, .inl (cI, 500, .inl K)), (vA, .inl (cI, 500, .inl V)), (oA, .inl (cI, 500, .inl (jb_O u.1))), (sA, .inl (cI, 500, .inl u.2.1)), (eA, .inl (cI, 152, .inl u.2.2))])) A) ([.ref hL, .int (nI fr), .int (nI (fr + la.length)), .int (nI lv)] : List Value).toArray s 0 0 (A)) (F0 m 27 ls []) := by
            intro k_a
            induction k_a with
            | zero => intro i Sp1 hk; exact absurd hk (Nat.not_lt_zero _)
            | succ k_a ih_a =>
              intro i Sp1 hk_a hi hSp H locs hP hD hS ls hl
              refine lv_iload hx hb dX2_layInParts_27 (lv_at hl 4 rfl) ?_
              refine lv_iload_n hx hb dX2_layInParts_29 rfl (lv_at hl 2 rfl) ?_
              refine lv_icmp_ge (tgt := 71) hx hb dX2_layInParts_30 (by decide) (fun c_30 => ?_) (fun c_30 => ?_)
              · have hge : i = la.length := by have := (nI_leI (a := fr + la.length) (b := fr + i) (by omega) (by omega)).mp c_30; omega
                have hSp : ∀ t, t < la.length → Sp1 (fr + t) = nI (jb_pf mem K lv (la.getD t 0) * 512 + la.getD t 0) := by rw [← hge]; exact hSp
                refine lv_iconst (v := 0) hx hb dX2_layInParts_71 (by decide) ?_
                refine lv_istore (lv' := [(4, .int 0), (0, .ref hL), (1, .int (nI fr)), (2, .int (nI (fr + la.length))), (3, .int (nI lv))]) hx hb dX2_layInParts_72 hl (by decide) rfl (fun ls hl => ?_)
                refine lv_iload_n hx hb dX2_layInParts_74 rfl (lv_at hl 2 rfl) ?_
                refine lv_istore (lv' := [(5, .int (nI fr)), (4, .int 0), (0, .ref hL), (1, .int (nI fr)), (2, .int (nI (fr + la.length))), (3, .int (nI lv))]) hx hb dX2_layInParts_75 hl (by decide) rfl (fun ls hl => ?_)
                refine lv_iconst (v := 0) hx hb dX2_layInParts_77 (by decide) ?_
                refine lv_istore (lv' := [(6, .int 0), (5, .int (nI fr)), (4, .int 0), (0, .ref hL), (1, .int (nI fr)), (2, .int (nI (fr + la.length))), (3, .int (nI lv))]) hx hb dX2_layInParts_78 hl (by decide) rfl (fun ls hl => ?_)
                have hl_b : ∀ (k_b : Nat) (q : Nat) (o1 : Nat → Nat) (Pe1 : Nat → Int32), mem - 1 - q < k_b → (q ≤ mem - 1) → (∀ j, j < fr ∨ fr + la.length ≤ j → o1 j = o j) → (jb_in o1 fr (jb_cat (jb_pf mem K lv) la q)) → (∀ t, t < q → Pe1 (lv * 19 + t) = nI (fr + (jb_cat (jb_pf mem K lv) la (t + 1)).length)) → (∀ j, j < lv * 19 → Pe1 j = Pe j) → ∀ (H : Heap) (locs : List Loc), va_P (dC, dI) vwCl [(aS, .inr (3, [.ref aN])), (aN, .inl (cI, 3, .inl (jb_now per mem par))), (hL, .inr (2, [.ref aS, .int b, .ref kA, .ref vA, .ref oA, .ref sA, .ref eA, .int (nI n)])), (kA, .inl (cI, 500, .inl K)), (vA, .inl (cI, 500, .inl V)), (oA, .inl (cI, 500, .inl (jb_O o1))), (sA, .inl (cI, 500, .inl Sp1)), (eA, .inl (cI, 152, .inl Pe1))] H → va_D A [(aS, .inr (3, [.ref aN])), (aN, .inl (cI, 3, .inl (jb_now per mem par))), (hL, .inr (2, [.ref aS, .int b, .ref kA, .ref vA, .ref oA, .ref sA, .ref eA, .int (nI n)])), (kA, .inl (cI, 500, .inl K)), (vA, .inl (cI, 500, .inl V)), (oA, .inl (cI, 500, .inl (jb_O o1))), (sA, .inl (cI, 500, .inl Sp1)), (eA, .inl (cI, 152, .inl Pe1))] → va_S A s.heap H locs → ∀ ls : Array Slot, lv_has ls 9 [(0, .ref hL), (1, .int (nI fr)), (2, .int (nI (fr + la.length))), (3, .int (nI lv)), (4, .int (nI (jb_pgs per (fun t => (jb_fp (jb_pf mem K lv) la t).length) q))), (5, .int (nI (fr + (jb_cat (jb_pf mem K lv) la q).length))), (6, .int (nI q))] → W p l e ({ frames := 5, cells := 0, slots := 0, locals := 200 } : Room) s m ([.ref hL, .int (nI fr), .int (nI (fr + la.length)), .int (nI lv)] : List Value).toArray below meth c H locs 0 0 (MQ below (va_Qi (fun r (u : (Nat → Nat) × (Nat → Int32) × (Nat → Int32)) => jb_lay per mem K lv fr la o Pe r u.1 u.2.2) (jb_B dC dI A (fun u => [(aS, .inr (3, [.ref aN])), (aN, .inl (cI, 3, .inl (jb_now per mem par))), (hL, .inr (2, [.ref aS, .int b, .ref kA, .ref vA, .ref oA, .ref sA, .ref eA, .int (nI n)])), (kA, .inl (cI, 500, .inl K)), (vA, .inl (cI, 500, .inl V)), (oA, .inl (cI, 500, .inl (jb_O u.1))), (sA, .inl (cI, 500, .inl u.2.1)), (eA, .inl (cI, 152, .inl u.2.2))])) A) ([.ref hL, .int (nI fr), .int (nI (fr + la.length)), .int (nI lv)] : List Value).toArray s 0 0 (A)) (F0 m 80 ls []) := by
                  intro k_b
                  induction k_b with
                  | zero => intro q o1 Pe1 hk; exact absurd hk (Nat.not_lt_zero _)
                  | succ k_b ih_b =>
                    intro q o1 Pe1 hk_b hq hout hcat hPe hPl H locs hP hD hS ls hl
                    refine lv_iload hx hb dX2_layInParts_80 (lv_at hl 6 rfl) ?_
                    refine lv_aload_n hx hb dX2_layInParts_82 rfl (lv_at hl 0 rfl) ?_
                    refine va_get (D := (dC, dI)) (ci := 2) (v := .ref aS) (C := RX2) (T := TX2) (N := 8) hx hb hts iX2_layInParts_X2 hown hK hP 2 rfl rfl 0 (by decide) (hts (.fieldLink RX2 9 "JoinBench$Side" "sizes" "LJoinBench$Sizes;") (by decide +kernel)) (fun _ h9 => h9) rfl dX2_layInParts_83 ?_
                    refine vp_callSi (va_runV (As := []) (rest := [.int (nI q)]) ⟨hx, hb, hml, hown, hts⟩ (c_parts l dC dI cI aS aN per mem par hm) (cwV 0 hts gX2_layInParts_X3_parts rfl rfl rfl (by decide +kernel) ⟨(by decide +kernel), (by decide +kernel)⟩)  ⟨jb_R_blind, va_recv hK hP (ci := 3) (q0 := 0) rfl rfl, jb_R_pre (hP.sub (ws' := [(aS, .inr (3, [.ref aN])), (aN, .inl (cI, 3, .inl (jb_now per mem par)))]) [0, 1] rfl) hK hNw⟩ rfl rfl hl.1 rfl (lv_room (Nat.le_of_ble_eq_true rfl)) dX2_layInParts_86 ⟨by decide +kernel, by decide +kernel⟩).run (fun r_1 hr_1 => ?_)
                    subst hr_1
                    refine lv_icmp_ge (tgt := 190) hx hb dX2_layInParts_89 (by decide) (fun c_89 => ?_) (fun c_89 => ?_)
                    · have hqe : q = mem - 1 := by have := (nI_leI (a := mem - 1) (b := q) (by omega) (by omega)).mp c_89; omega
                      rw [hqe] at hl hcat hPe
                      refine lv_iload hx hb dX2_layInParts_190 (lv_at hl 4 rfl) ?_
                      have hP9 : va_P (dC, dI) vwCl [(aS, .inr (3, [.ref aN])), (aN, .inl (cI, 3, .inl (jb_now per mem par))), (hL, .inr (2, [.ref aS, .int b, .ref kA, .ref vA, .ref oA, .ref sA, .ref eA, .int (nI n)])), (kA, .inl (cI, 500, .inl K)), (vA, .inl (cI, 500, .inl V)), (oA, .inl (cI, 500, .inl (jb_O o1))), (sA, .inl (cI, 500, .inl Sp1)), (eA, .inl (cI, 152, .inl Pe1))] H := hP.sub [0, 1, 2, 3, 4, 5, 6, 7] rfl
                      have hD9 : va_D A [(aS, .inr (3, [.ref aN])), (aN, .inl (cI, 3, .inl (jb_now per mem par))), (hL, .inr (2, [.ref aS, .int b, .ref kA, .ref vA, .ref oA, .ref sA, .ref eA, .int (nI n)])), (kA, .inl (cI, 500, .inl K)), (vA, .inl (cI, 500, .inl V)), (oA, .inl (cI, 500, .inl (jb_O o1))), (sA, .inl (cI, 500, .inl Sp1)), (eA, .inl (cI, 152, .inl Pe1))] := hD.sub [0, 1, 2, 3, 4, 5, 6, 7] (by decide) rfl
                      exact W.iret (v := nI (jb_pgs per (fun t => (jb_fp (jb_pf mem K lv) la t).length) (mem - 1))) hx hb hr (fun t ht hW => ⟨⟨_, (o1, Sp1, Pe1), rfl, ⟨rfl, hout, hcat, hPe, hPl⟩, by rw [ht]; exact hP9, hD9⟩, hS.F ht⟩) hS.2.2 dX2_layInParts_192
                    · have hqlt : q < mem - 1 := (jb_nle (a := mem - 1) (b := q) (by omega) (by omega)).mp c_89
                      refine lv_iload hx hb dX2_layInParts_92 (lv_at hl 5 rfl) ?_
                      refine lv_istore (lv' := [(7, .int (nI (fr + (jb_cat (jb_pf mem K lv) la q).length))), (0, .ref hL), (1, .int (nI fr)), (2, .int (nI (fr + la.length))), (3, .int (nI lv)), (4, .int (nI (jb_pgs per (fun t => (jb_fp (jb_pf mem K lv) la t).length) q))), (5, .int (nI (fr + (jb_cat (jb_pf mem K lv) la q).length))), (6, .int (nI q))]) hx hb dX2_layInParts_94 hl (by decide) rfl (fun ls hl => ?_)
                      refine lv_iload_n hx hb dX2_layInParts_96 rfl (lv_at hl 2 rfl) ?_
                      refine lv_istore (lv' := [(8, .int (nI fr)), (7, .int (nI (fr + (jb_cat (jb_pf mem K lv) la q).length))), (0, .ref hL), (1, .int (nI fr)), (2, .int (nI (fr + la.length))), (3, .int (nI lv)), (4, .int (nI (jb_pgs per (fun t => (jb_fp (jb_pf mem K lv) la t).length) q))), (5, .int (nI (fr + (jb_cat (jb_pf mem K lv) la q).length))), (6, .int (nI q))]) hx hb dX2_layInParts_97 hl (by decide) rfl (fun ls hl => ?_)
                      have e0 : (jb_cat (jb_pf mem K lv) la q ++ jb_fp (jb_pf mem K lv) (la.take 0) q) = jb_cat (jb_pf mem K lv) la q := by rw [jb_fp_take_0, List.append_nil]
                      have hl : lv_has ls 9 [(8, .int (nI fr)), (7, .int (nI (fr + (jb_cat (jb_pf mem K lv) la q).length))), (0, .ref hL), (1, .int (nI fr)), (2, .int (nI (fr + la.length))), (3, .int (nI lv)), (4, .int (nI (jb_pgs per (fun t => (jb_fp (jb_pf mem K lv) la t).length) q))), (5, .int (nI (fr + (jb_cat (jb_pf mem K lv) la q ++ jb_fp (jb_pf mem K lv) (la.take 0) q).length))), (6, .int (nI q))] := by rw [e0]; exact hl
                      have hl_c : ∀ (k_c : Nat) (i : Nat) (o2 : Nat → Nat), la.length - i < k_c → (i ≤ la.length) → (∀ j, j < fr ∨ fr + la.length ≤ j → o2 j = o j) → (jb_in o2 fr (jb_cat (jb_pf mem K lv) la q ++ jb_fp (jb_pf mem K lv) (la.take i) q)) → ∀ (H : Heap) (locs : List Loc), va_P (dC, dI) vwCl [(aS, .inr (3, [.ref aN])), (aN, .inl (cI, 3, .inl (jb_now per mem par))), (hL, .inr (2, [.ref aS, .int b, .ref kA, .ref vA, .ref oA, .ref sA, .ref eA, .int (nI n)])), (kA, .inl (cI, 500, .inl K)), (vA, .inl (cI, 500, .inl V)), (oA, .inl (cI, 500, .inl (jb_O o2))), (sA, .inl (cI, 500, .inl Sp1)), (eA, .inl (cI, 152, .inl Pe1))] H → va_D A [(aS, .inr (3, [.ref aN])), (aN, .inl (cI, 3, .inl (jb_now per mem par))), (hL, .inr (2, [.ref aS, .int b, .ref kA, .ref vA, .ref oA, .ref sA, .ref eA, .int (nI n)])), (kA, .inl (cI, 500, .inl K)), (vA, .inl (cI, 500, .inl V)), (oA, .inl (cI, 500, .inl (jb_O o2))), (sA, .inl (cI, 500, .inl Sp1)), (eA, .inl (cI, 152, .inl Pe1))] → va_S A s.heap H locs → ∀ ls : Array Slot, lv_has ls 9 [(0, .ref hL), (1, .int (nI fr)), (2, .int (nI (fr + la.length))), (3, .int (nI lv)), (4, .int (nI (jb_pgs per (fun t => (jb_fp (jb_pf mem K lv) la t).length) q))), (5, .int (nI (fr + (jb_cat (jb_pf mem K lv) la q ++ jb_fp (jb_pf mem K lv) (la.take i) q).length))), (6, .int (nI q)), (7, .int (nI (fr + (jb_cat (jb_pf mem K lv) la q).length))), (8, .int (nI (fr + i)))] → W p l e ({ frames := 5, cells := 0, slots := 0, locals := 200 } : Room) s m ([.ref hL, .int (nI fr), .int (nI (fr + la.length)), .int (nI lv)] : List Value).toArray below meth c H locs 0 0 (MQ below (va_Qi (fun r (u : (Nat → Nat) × (Nat → Int32) × (Nat → Int32)) => jb_lay per mem K lv fr la o Pe r u.1 u.2.2) (jb_B dC dI A (fun u => [(aS, .inr (3, [.ref aN])), (aN, .inl (cI, 3, .inl (jb_now per mem par))), (hL, .inr (2, [.ref aS, .int b, .ref kA, .ref vA, .ref oA, .ref sA, .ref eA, .int (nI n)])), (kA, .inl (cI, 500, .inl K)), (vA, .inl (cI, 500, .inl V)), (oA, .inl (cI, 500, .inl (jb_O u.1))), (sA, .inl (cI, 500, .inl u.2.1)), (eA, .inl (cI, 152, .inl u.2.2))])) A) ([.ref hL, .int (nI fr), .int (nI (fr + la.length)), .int (nI lv)] : List Value).toArray s 0 0 (A)) (F0 m 99 ls []) := by
                        intro k_c
                        induction k_c with
                        | zero => intro i o2 hk; exact absurd hk (Nat.not_lt_zero _)
                        | succ k_c ih_c =>
                          intro i o2 hk_c hi hout2 hcur H locs hP hD hS ls hl
                          refine lv_iload hx hb dX2_layInParts_99 (lv_at hl 8 rfl) ?_
                          refine lv_iload_n hx hb dX2_layInParts_101 rfl (lv_at hl 2 rfl) ?_
                          refine lv_icmp_ge (tgt := 153) hx hb dX2_layInParts_102 (by decide) (fun c_102 => ?_) (fun c_102 => ?_)
                          · have hge : i = la.length := by have := (nI_leI (a := fr + la.length) (b := fr + i) (by omega) (by omega)).mp c_102; omega
                            have ec : (jb_cat (jb_pf mem K lv) la q ++ jb_fp (jb_pf mem K lv) (la.take i) q) = jb_cat (jb_pf mem K lv) la (q + 1) := by rw [hge, jb_fp_take_all]; rfl
                            rw [ec] at hl hcur
                            refine lv_aload_n hx hb dX2_layInParts_153 rfl (lv_at hl 0 rfl) ?_
                            refine va_get (D := (dC, dI)) (ci := 2) (v := .ref eA) (C := RX2) (T := TX2) (N := 8) hx hb hts iX2_layInParts_X2 hown hK hP 2 rfl rfl 6 (by decide) (hts (.fieldLink RX2 32 "JoinBench$Side" "partEnds" "[I") (by decide +kernel)) (fun _ h9 => h9) rfl dX2_layInParts_154 ?_
                            refine lv_iload_n hx hb dX2_layInParts_157 rfl (lv_at hl 3 rfl) ?_
                            refine lv_bipush (v := 19) hx hb dX2_layInParts_158 (by decide) ?_
                            refine lv_imul hx hb dX2_layInParts_160 ?_
                            refine lv_topi (fun v_2 ev_2 => ?_)
                            have hv_2 : v_2 = nI (lv * 19) := ev_2.trans (jb_nmul lv 19)
                            clear ev_2; subst hv_2
                            refine lv_iload hx hb dX2_layInParts_161 (lv_at hl 6 rfl) ?_
                            refine lv_iadd hx hb dX2_layInParts_163 ?_
                            refine lv_topi (fun v_3 ev_3 => ?_)
                            have hv_3 : v_3 = nI (lv * 19 + q) := ev_3.trans (nI_add (lv * 19) q)
                            clear ev_3; subst hv_3
                            refine lv_iload hx hb dX2_layInParts_164 (lv_at hl 5 rfl) ?_
                            refine va_iast hx hb hK hP hD hS 7 0 rfl rfl (i := nI (lv * 19 + q)) (x := nI (fr + (jb_cat (jb_pf mem K lv) la (q + 1)).length)) (vp_in_nI (n := lv * 19 + q) (by omega) (by decide)) dX2_layInParts_166 (fun H locs hP hD hS => ?_)
                            rw [show (nI (lv * 19 + q) : Int32).toNatClampNeg = (lv * 19 + q) from nI_clamp (by omega)] at hP hD
                            have hP : va_P (dC, dI) vwCl [(aS, .inr (3, [.ref aN])), (aN, .inl (cI, 3, .inl (jb_now per mem par))), (hL, .inr (2, [.ref aS, .int b, .ref kA, .ref vA, .ref oA, .ref sA, .ref eA, .int (nI n)])), (kA, .inl (cI, 500, .inl K)), (vA, .inl (cI, 500, .inl V)), (oA, .inl (cI, 500, .inl (jb_O o2))), (sA, .inl (cI, 500, .inl Sp1)), (eA, .inl (cI, 152, .inl (upd Pe1 (lv * 19 + q) (nI (fr + (jb_cat (jb_pf mem K lv) la (q + 1)).length)))))] H := hP
                            have hD : va_D A [(aS, .inr (3, [.ref aN])), (aN, .inl (cI, 3, .inl (jb_now per mem par))), (hL, .inr (2, [.ref aS, .int b, .ref kA, .ref vA, .ref oA, .ref sA, .ref eA, .int (nI n)])), (kA, .inl (cI, 500, .inl K)), (vA, .inl (cI, 500, .inl V)), (oA, .inl (cI, 500, .inl (jb_O o2))), (sA, .inl (cI, 500, .inl Sp1)), (eA, .inl (cI, 152, .inl (upd Pe1 (lv * 19 + q) (nI (fr + (jb_cat (jb_pf mem K lv) la (q + 1)).length)))))] := hD
                            refine lv_iload hx hb dX2_layInParts_167 (lv_at hl 4 rfl) ?_
                            refine lv_aload_n hx hb dX2_layInParts_169 rfl (lv_at hl 0 rfl) ?_
                            refine va_get (D := (dC, dI)) (ci := 2) (v := .ref aS) (C := RX2) (T := TX2) (N := 8) hx hb hts iX2_layInParts_X2 hown hK hP 2 rfl rfl 0 (by decide) (hts (.fieldLink RX2 9 "JoinBench$Side" "sizes" "LJoinBench$Sizes;") (by decide +kernel)) (fun _ h9 => h9) rfl dX2_layInParts_170 ?_
                            refine lv_iload hx hb dX2_layInParts_173 (lv_at hl 5 rfl) ?_
                            refine lv_iload hx hb dX2_layInParts_175 (lv_at hl 7 rfl) ?_
                            refine lv_isub hx hb dX2_layInParts_177 ?_
                            refine lv_topi (fun v_4 ev_4 => ?_)
                            have hv_4 : v_4 = nI (jb_fp (jb_pf mem K lv) la q).length := ev_4.trans ((pk_sub (by rw [jb_cat, List.length_append]; omega)).trans (congrArg nI (by rw [jb_cat, List.length_append]; omega)))
                            clear ev_4; subst hv_4
                            refine vp_callSi (va_runV (As := [.int (nI (jb_fp (jb_pf mem K lv) la q).length)]) (rest := [.int (nI (jb_pgs per (fun t => (jb_fp (jb_pf mem K lv) la t).length) q))]) ⟨hx, hb, hml, hown, hts⟩ (c_pagesFor l dC dI cI aS aN per mem par (jb_fp (jb_pf mem K lv) la q).length h1 (by have := jb_cat_le (jb_pf mem K lv) la (q + 1); rw [jb_cat, List.length_append] at this; omega) hp) (cwV 1 hts gX2_layInParts_X3_pagesFor rfl rfl rfl (by decide +kernel) ⟨(by decide +kernel), (by decide +kernel)⟩)  ⟨jb_R_blind, va_recv hK hP (ci := 3) (q0 := 0) rfl rfl, jb_R_pre (hP.sub (ws' := [(aS, .inr (3, [.ref aN])), (aN, .inl (cI, 3, .inl (jb_now per mem par)))]) [0, 1] rfl) hK hNw⟩ rfl rfl hl.1 rfl (lv_room (Nat.le_of_ble_eq_true rfl)) dX2_layInParts_178 ⟨by decide +kernel, by decide +kernel⟩).run (fun r_5 hr_5 => ?_)
                            subst hr_5
                            refine lv_iadd hx hb dX2_layInParts_181 ?_
                            refine lv_topi (fun v_6 ev_6 => ?_)
                            have hv_6 : v_6 = nI (jb_pgs per (fun t => (jb_fp (jb_pf mem K lv) la t).length) (q + 1)) := ev_6.trans (nI_add _ _)
                            clear ev_6; subst hv_6
                            refine lv_istore (lv' := [(4, .int (nI (jb_pgs per (fun t => (jb_fp (jb_pf mem K lv) la t).length) (q + 1)))), (0, .ref hL), (1, .int (nI fr)), (2, .int (nI (fr + la.length))), (3, .int (nI lv)), (5, .int (nI (fr + (jb_cat (jb_pf mem K lv) la (q + 1)).length))), (6, .int (nI q)), (7, .int (nI (fr + (jb_cat (jb_pf mem K lv) la q).length))), (8, .int (nI (fr + i)))]) hx hb dX2_layInParts_182 hl (by decide) rfl (fun ls hl => ?_)
                            refine lv_iinc (v := nI (q + 1)) (lv' := [(6, .int (nI (q + 1))), (4, .int (nI (jb_pgs per (fun t => (jb_fp (jb_pf mem K lv) la t).length) (q + 1)))), (0, .ref hL), (1, .int (nI fr)), (2, .int (nI (fr + la.length))), (3, .int (nI lv)), (5, .int (nI (fr + (jb_cat (jb_pf mem K lv) la (q + 1)).length))), (7, .int (nI (fr + (jb_cat (jb_pf mem K lv) la q).length))), (8, .int (nI (fr + i)))]) hx hb dX2_layInParts_184 hl (k := 6) rfl (nI_1 q) (by decide) rfl (fun ls hl => ?_)
                            refine lv_goto (tgt := 80) hx hb dX2_layInParts_187 (by decide) ?_
                            exact ih_b (q + 1) o2 (upd Pe1 (lv * 19 + q) (nI (fr + (jb_cat (jb_pf mem K lv) la (q + 1)).length))) (by omega) (by omega) hout2 hcur (jb_fill_s (g := fun t => nI (fr + (jb_cat (jb_pf mem K lv) la (t + 1)).length)) hPe) (fun j hj => (pk_un (by omega)).trans (hPl j hj)) H locs hP hD hS ls (lv_sub hl [2, 3, 4, 5, 1, 6, 0] rfl)
                          · have hlt : i < la.length := by have := (jb_nle (a := fr + la.length) (b := fr + i) (by omega) (by omega)).mp c_102; omega
                            have hr5 := hb5 _ (jb_getD_mem hlt)
                            have hpf : jb_pf mem K lv (la.getD i 0) < mem - 1 := jb_pf_lt hm
                            refine lv_aload_n hx hb dX2_layInParts_105 rfl (lv_at hl 0 rfl) ?_
                            refine va_get (D := (dC, dI)) (ci := 2) (v := .ref sA) (C := RX2) (T := TX2) (N := 8) hx hb hts iX2_layInParts_X2 hown hK hP 2 rfl rfl 5 (by decide) (hts (.fieldLink RX2 29 "JoinBench$Side" "spare" "[I") (by decide +kernel)) (fun _ h9 => h9) rfl dX2_layInParts_106 ?_
                            refine lv_iload hx hb dX2_layInParts_109 (lv_at hl 8 rfl) ?_
                            refine va_iald hx hb hK hP 6 0 rfl rfl (i := nI (fr + i)) (vp_in_nI (n := fr + i) (by omega) (by decide)) dX2_layInParts_111 ?_
                            refine lv_topi (fun v_7 ev_7 => ?_)
                            have hv_7 : v_7 = nI (jb_pf mem K lv (la.getD i 0) * 512 + la.getD i 0) := ev_7.trans ((congrArg Sp1 (nI_clamp (by omega))).trans (hSp i hlt))
                            clear ev_7; subst hv_7
                            refine lv_bipush (v := 9) hx hb dX2_layInParts_112 (by decide) ?_
                            refine lv_ishr hx hb dX2_layInParts_114 ?_
                            refine lv_topi (fun v_8 ev_8 => ?_)
                            have hv_8 : v_8 = nI (jb_pf mem K lv (la.getD i 0)) := ev_8.trans (jb_unp1 (by omega) (by omega))
                            clear ev_8; subst hv_8
                            refine lv_iload hx hb dX2_layInParts_115 (lv_at hl 6 rfl) ?_
                            refine lv_icmp_ne (tgt := 147) hx hb dX2_layInParts_117 (by decide) (fun c_117 => ?_) (fun c_117 => ?_)
                            · have hne : ¬ jb_pf mem K lv (la.getD i 0) = q := fun h => c_117 (by rw [h])
                              rw [← jb_fp_take_ne hlt hne] at hl hcur
                              refine lv_iinc (v := nI (fr + i + 1)) (lv' := [(8, .int (nI (fr + i + 1))), (0, .ref hL), (1, .int (nI fr)), (2, .int (nI (fr + la.length))), (3, .int (nI lv)), (4, .int (nI (jb_pgs per (fun t => (jb_fp (jb_pf mem K lv) la t).length) q))), (5, .int (nI (fr + (jb_cat (jb_pf mem K lv) la q ++ jb_fp (jb_pf mem K lv) (la.take (i + 1)) q).length))), (6, .int (nI q)), (7, .int (nI (fr + (jb_cat (jb_pf mem K lv) la q).length)))]) hx hb dX2_layInParts_147 hl (k := 8) rfl (nI_1 _) (by decide) rfl (fun ls hl => ?_)
                              refine lv_goto (tgt := 99) hx hb dX2_layInParts_150 (by decide) ?_
                              exact ih_c (i + 1) o2 (by omega) hlt hout2 hcur H locs hP hD hS ls (lv_sub hl [1, 2, 3, 4, 5, 6, 7, 8, 0] rfl)
                            · have heq : jb_pf mem K lv (la.getD i 0) = q := (nI_eq (by omega) (by omega)).mp c_117
                              have hrm := jb_room (f := jb_pf mem K lv) hlt heq
                              refine lv_iload hx hb dX2_layInParts_120 (lv_at hl 5 rfl) ?_
                              refine lv_iload_n hx hb dX2_layInParts_122 rfl (lv_at hl 2 rfl) ?_
                              refine lv_icmp_ge (tgt := 147) hx hb dX2_layInParts_123 (by decide) (fun c_123 => ?_) (fun c_123 => ?_)
                              · exact absurd c_123 (nI_ge (a := fr + (jb_cat (jb_pf mem K lv) la q ++ jb_fp (jb_pf mem K lv) (la.take i) q).length) (b := fr + la.length) (by omega) (by omega))
                              · refine lv_aload_n hx hb dX2_layInParts_126 rfl (lv_at hl 0 rfl) ?_
                                refine va_get (D := (dC, dI)) (ci := 2) (v := .ref oA) (C := RX2) (T := TX2) (N := 8) hx hb hts iX2_layInParts_X2 hown hK hP 2 rfl rfl 4 (by decide) (hts (.fieldLink RX2 26 "JoinBench$Side" "order" "[I") (by decide +kernel)) (fun _ h9 => h9) rfl dX2_layInParts_127 ?_
                                refine lv_iload hx hb dX2_layInParts_130 (lv_at hl 5 rfl) ?_
                                refine lv_aload_n hx hb dX2_layInParts_132 rfl (lv_at hl 0 rfl) ?_
                                refine va_get (D := (dC, dI)) (ci := 2) (v := .ref sA) (C := RX2) (T := TX2) (N := 8) hx hb hts iX2_layInParts_X2 hown hK hP 2 rfl rfl 5 (by decide) (hts (.fieldLink RX2 29 "JoinBench$Side" "spare" "[I") (by decide +kernel)) (fun _ h9 => h9) rfl dX2_layInParts_133 ?_
                                refine lv_iload hx hb dX2_layInParts_136 (lv_at hl 8 rfl) ?_
                                refine va_iald hx hb hK hP 6 0 rfl rfl (i := nI (fr + i)) (vp_in_nI (n := fr + i) (by omega) (by decide)) dX2_layInParts_138 ?_
                                refine lv_topi (fun v_9 ev_9 => ?_)
                                have hv_9 : v_9 = nI (jb_pf mem K lv (la.getD i 0) * 512 + la.getD i 0) := ev_9.trans ((congrArg Sp1 (nI_clamp (by omega))).trans (hSp i hlt))
                                clear ev_9; subst hv_9
                                refine lv_sipush (v := 511) hx hb dX2_layInParts_139 (by decide) ?_
                                refine lv_iand hx hb dX2_layInParts_142 ?_
                                refine lv_topi (fun v_10 ev_10 => ?_)
                                have hv_10 : v_10 = nI (la.getD i 0) := ev_10.trans (jb_unp2 (by omega) (by omega))
                                clear ev_10; subst hv_10
                                refine va_iast hx hb hK hP hD hS 5 0 rfl rfl (i := nI (fr + (jb_cat (jb_pf mem K lv) la q ++ jb_fp (jb_pf mem K lv) (la.take i) q).length)) (x := nI (la.getD i 0)) (vp_in_nI (n := fr + (jb_cat (jb_pf mem K lv) la q ++ jb_fp (jb_pf mem K lv) (la.take i) q).length) (by omega) (by decide)) dX2_layInParts_143 (fun H locs hP hD hS => ?_)
                                rw [show (nI (fr + (jb_cat (jb_pf mem K lv) la q ++ jb_fp (jb_pf mem K lv) (la.take i) q).length) : Int32).toNatClampNeg = (fr + (jb_cat (jb_pf mem K lv) la q ++ jb_fp (jb_pf mem K lv) (la.take i) q).length) from nI_clamp (by omega)] at hP hD
                                have hP : va_P (dC, dI) vwCl [(aS, .inr (3, [.ref aN])), (aN, .inl (cI, 3, .inl (jb_now per mem par))), (hL, .inr (2, [.ref aS, .int b, .ref kA, .ref vA, .ref oA, .ref sA, .ref eA, .int (nI n)])), (kA, .inl (cI, 500, .inl K)), (vA, .inl (cI, 500, .inl V)), (oA, .inl (cI, 500, .inl (upd (jb_O o2) (fr + (jb_cat (jb_pf mem K lv) la q ++ jb_fp (jb_pf mem K lv) (la.take i) q).length) (nI (la.getD i 0))))), (sA, .inl (cI, 500, .inl Sp1)), (eA, .inl (cI, 152, .inl Pe1))] H := hP
                                have hD : va_D A [(aS, .inr (3, [.ref aN])), (aN, .inl (cI, 3, .inl (jb_now per mem par))), (hL, .inr (2, [.ref aS, .int b, .ref kA, .ref vA, .ref oA, .ref sA, .ref eA, .int (nI n)])), (kA, .inl (cI, 500, .inl K)), (vA, .inl (cI, 500, .inl V)), (oA, .inl (cI, 500, .inl (upd (jb_O o2) (fr + (jb_cat (jb_pf mem K lv) la q ++ jb_fp (jb_pf mem K lv) (la.take i) q).length) (nI (la.getD i 0))))), (sA, .inl (cI, 500, .inl Sp1)), (eA, .inl (cI, 152, .inl Pe1))] := hD
                                rw [jb_O_set] at hP hD
                                refine lv_iinc (v := nI (fr + (jb_cat (jb_pf mem K lv) la q ++ jb_fp (jb_pf mem K lv) (la.take (i + 1)) q).length)) (lv' := [(5, .int (nI (fr + (jb_cat (jb_pf mem K lv) la q ++ jb_fp (jb_pf mem K lv) (la.take (i + 1)) q).length))), (0, .ref hL), (1, .int (nI fr)), (2, .int (nI (fr + la.length))), (3, .int (nI lv)), (4, .int (nI (jb_pgs per (fun t => (jb_fp (jb_pf mem K lv) la t).length) q))), (6, .int (nI q)), (7, .int (nI (fr + (jb_cat (jb_pf mem K lv) la q).length))), (8, .int (nI (fr + i)))]) hx hb dX2_layInParts_144 hl (k := 5) rfl ((nI_1 _).trans (congrArg nI (by rw [jb_fp_take_eq hlt heq, ← List.append_assoc, List.length_append (as := (jb_cat (jb_pf mem K lv) la q ++ jb_fp (jb_pf mem K lv) (la.take i) q)), List.length_singleton, Nat.add_assoc]))) (by decide) rfl (fun ls hl => ?_)
                                refine lv_iinc (v := nI (fr + i + 1)) (lv' := [(8, .int (nI (fr + i + 1))), (5, .int (nI (fr + (jb_cat (jb_pf mem K lv) la q ++ jb_fp (jb_pf mem K lv) (la.take (i + 1)) q).length))), (0, .ref hL), (1, .int (nI fr)), (2, .int (nI (fr + la.length))), (3, .int (nI lv)), (4, .int (nI (jb_pgs per (fun t => (jb_fp (jb_pf mem K lv) la t).length) q))), (6, .int (nI q)), (7, .int (nI (fr + (jb_cat (jb_pf mem K lv) la q).length)))]) hx hb dX2_layInParts_147 hl (k := 8) rfl (nI_1 _) (by decide) rfl (fun ls hl => ?_)
                                refine lv_goto (tgt := 99) hx hb dX2_layInParts_150 (by decide) ?_
                                exact ih_c (i + 1) (va_up o2 (fr + (jb_cat (jb_pf mem K lv) la q ++ jb_fp (jb_pf mem K lv) (la.take i) q).length) (la.getD i 0)) (by omega) hlt (fun j hj => (va_up_ne _ _ (by omega)).trans (hout2 j hj)) (by rw [jb_fp_take_eq hlt heq, ← List.append_assoc]; exact jb_in_push hcur) H locs hP hD hS ls (lv_sub hl [2, 3, 4, 5, 6, 1, 7, 8, 0] rfl)
                      exact hl_c (la.length - 0 + 1) 0 o1 (by omega) (Nat.zero_le _) hout (by rw [jb_fp_take_0, List.append_nil]; exact hcat) H locs hP hD hS ls (lv_sub hl [2, 3, 4, 5, 6, 7, 8, 1, 0] rfl)
                exact hl_b (mem - 1 - 0 + 1) 0 o Pe (by omega) (Nat.zero_le _) (fun _ _ => rfl) (jb_in_nil o fr) (fun t h => absurd h (Nat.not_lt_zero t)) (fun _ _ => rfl) H locs hP hD hS ls (lv_sub hl [3, 4, 5, 6, 2, 1, 0] rfl)
              · have hlt : i < la.length := by have := (jb_nle (a := fr + la.length) (b := fr + i) (by omega) (by omega)).mp c_30; omega
                have hr5 := hb5 _ (jb_getD_mem hlt)
                have hpf : jb_pf mem K lv (la.getD i 0) < mem - 1 := jb_pf_lt hm
                refine lv_aload_n hx hb dX2_layInParts_33 rfl (lv_at hl 0 rfl) ?_
                refine va_get (D := (dC, dI)) (ci := 2) (v := .ref sA) (C := RX2) (T := TX2) (N := 8) hx hb hts iX2_layInParts_X2 hown hK hP 2 rfl rfl 5 (by decide) (hts (.fieldLink RX2 29 "JoinBench$Side" "spare" "[I") (by decide +kernel)) (fun _ h9 => h9) rfl dX2_layInParts_34 ?_
                refine lv_iload hx hb dX2_layInParts_37 (lv_at hl 4 rfl) ?_
                refine lv_aload_n hx hb dX2_layInParts_39 rfl (lv_at hl 0 rfl) ?_
                refine va_get (D := (dC, dI)) (ci := 2) (v := .ref aS) (C := RX2) (T := TX2) (N := 8) hx hb hts iX2_layInParts_X2 hown hK hP 2 rfl rfl 0 (by decide) (hts (.fieldLink RX2 9 "JoinBench$Side" "sizes" "LJoinBench$Sizes;") (by decide +kernel)) (fun _ h9 => h9) rfl dX2_layInParts_40 ?_
                refine lv_aload_n hx hb dX2_layInParts_43 rfl (lv_at hl 0 rfl) ?_
                refine lv_iload hx hb dX2_layInParts_44 (lv_at hl 4 rfl) ?_
                refine vp_callSi (va_runV (As := [.int (nI (fr + i))]) (rest := [.ref aS, .int (nI (fr + i)), .ref sA]) ⟨hx, hb, hml, hown, hts⟩ (c_keyAt l dC dI cI hL aS kA vA oA sA eA b K V o Sp1 Pe n (fr + i) (by omega) hn (by rw [hin i hlt]; exact hr5)) (cwV 1 hts gX2_layInParts_X2_keyAt rfl rfl rfl (by decide +kernel) ⟨(by decide +kernel), (by decide +kernel)⟩)  ⟨jb_R_blind, va_recv hK hP (ci := 2) (q0 := 2) rfl rfl, jb_R_pre (hP.sub (ws' := [(hL, .inr (2, [.ref aS, .int b, .ref kA, .ref vA, .ref oA, .ref sA, .ref eA, .int (nI n)])), (kA, .inl (cI, 500, .inl K)), (vA, .inl (cI, 500, .inl V)), (oA, .inl (cI, 500, .inl (jb_O o))), (sA, .inl (cI, 500, .inl Sp1)), (eA, .inl (cI, 152, .inl Pe))]) [2, 3, 4, 5, 6, 7] rfl) hK hNw⟩ rfl rfl hl.1 rfl (lv_room (Nat.le_of_ble_eq_true rfl)) dX2_layInParts_46 ⟨by decide +kernel, by decide +kernel⟩).run (fun r_11 hr_11 => ?_)
                subst hr_11
                refine lv_topi (fun v_12 ev_12 => ?_)
                have hv_12 : v_12 = K (la.getD i 0) := ev_12.trans (congrArg K (hin i hlt))
                clear ev_12; subst hv_12
                refine lv_iload_n hx hb dX2_layInParts_49 rfl (lv_at hl 3 rfl) ?_
                refine vp_callSi (va_runV (As := [.int (K (la.getD i 0)), .int (nI lv)]) (rest := [.int (nI (fr + i)), .ref sA]) ⟨hx, hb, hml, hown, hts⟩ (c_partOf l dC dI cI aS aN per mem par (K (la.getD i 0)) (nI lv) hm hm2) (cwV 2 hts gX2_layInParts_X3_partOf rfl rfl rfl (by decide +kernel) ⟨(by decide +kernel), (by decide +kernel)⟩)  ⟨jb_R_blind, va_recv hK hP (ci := 3) (q0 := 0) rfl rfl, jb_R_pre (hP.sub (ws' := [(aS, .inr (3, [.ref aN])), (aN, .inl (cI, 3, .inl (jb_now per mem par)))]) [0, 1] rfl) hK hNw⟩ rfl rfl hl.1 rfl (lv_room (Nat.le_of_ble_eq_true rfl)) dX2_layInParts_50 ⟨by decide +kernel, by decide +kernel⟩).run (fun r_13 hr_13 => ?_)
                subst hr_13
                refine lv_topi (fun v_14 ev_14 => ?_)
                have hv_14 : v_14 = nI (jb_pf mem K lv (la.getD i 0)) := ev_14.trans (rfl)
                clear ev_14; subst hv_14
                refine lv_bipush (v := 9) hx hb dX2_layInParts_53 (by decide) ?_
                refine lv_ishl hx hb dX2_layInParts_55 ?_
                refine lv_aload_n hx hb dX2_layInParts_56 rfl (lv_at hl 0 rfl) ?_
                refine va_get (D := (dC, dI)) (ci := 2) (v := .ref oA) (C := RX2) (T := TX2) (N := 8) hx hb hts iX2_layInParts_X2 hown hK hP 2 rfl rfl 4 (by decide) (hts (.fieldLink RX2 26 "JoinBench$Side" "order" "[I") (by decide +kernel)) (fun _ h9 => h9) rfl dX2_layInParts_57 ?_
                refine lv_iload hx hb dX2_layInParts_60 (lv_at hl 4 rfl) ?_
                refine va_iald hx hb hK hP 5 0 rfl rfl (i := nI (fr + i)) (vp_in_nI (n := fr + i) (by omega) (by decide)) dX2_layInParts_62 ?_
                refine lv_topi (fun v_15 ev_15 => ?_)
                have hv_15 : v_15 = nI (la.getD i 0) := ev_15.trans ((congrArg (jb_O o) (nI_clamp (by omega))).trans (congrArg nI (hin i hlt)))
                clear ev_15; subst hv_15
                refine lv_ior hx hb dX2_layInParts_63 ?_
                refine lv_topi (fun v_16 ev_16 => ?_)
                have hv_16 : v_16 = nI (jb_pf mem K lv (la.getD i 0) * 512 + la.getD i 0) := ev_16.trans (jb_pack (by omega) (by omega))
                clear ev_16; subst hv_16
                refine va_iast hx hb hK hP hD hS 6 0 rfl rfl (i := nI (fr + i)) (x := nI (jb_pf mem K lv (la.getD i 0) * 512 + la.getD i 0)) (vp_in_nI (n := fr + i) (by omega) (by decide)) dX2_layInParts_64 (fun H locs hP hD hS => ?_)
                rw [show (nI (fr + i) : Int32).toNatClampNeg = (fr + i) from nI_clamp (by omega)] at hP hD
                have hP : va_P (dC, dI) vwCl [(aS, .inr (3, [.ref aN])), (aN, .inl (cI, 3, .inl (jb_now per mem par))), (hL, .inr (2, [.ref aS, .int b, .ref kA, .ref vA, .ref oA, .ref sA, .ref eA, .int (nI n)])), (kA, .inl (cI, 500, .inl K)), (vA, .inl (cI, 500, .inl V)), (oA, .inl (cI, 500, .inl (jb_O o))), (sA, .inl (cI, 500, .inl (upd Sp1 (fr + i) (nI (jb_pf mem K lv (la.getD i 0) * 512 + la.getD i 0))))), (eA, .inl (cI, 152, .inl Pe))] H := hP
                have hD : va_D A [(aS, .inr (3, [.ref aN])), (aN, .inl (cI, 3, .inl (jb_now per mem par))), (hL, .inr (2, [.ref aS, .int b, .ref kA, .ref vA, .ref oA, .ref sA, .ref eA, .int (nI n)])), (kA, .inl (cI, 500, .inl K)), (vA, .inl (cI, 500, .inl V)), (oA, .inl (cI, 500, .inl (jb_O o))), (sA, .inl (cI, 500, .inl (upd Sp1 (fr + i) (nI (jb_pf mem K lv (la.getD i 0) * 512 + la.getD i 0))))), (eA, .inl (cI, 152, .inl Pe))] := hD
                refine lv_iinc (v := nI (fr + i + 1)) (lv' := [(4, .int (nI (fr + i + 1))), (0, .ref hL), (1, .int (nI fr)), (2, .int (nI (fr + la.length))), (3, .int (nI lv))]) hx hb dX2_layInParts_65 hl (k := 4) rfl (nI_1 _) (by decide) rfl (fun ls hl => ?_)
                refine lv_goto (tgt := 27) hx hb dX2_layInParts_68 (by decide) ?_
                exact ih_a (i + 1) (upd Sp1 (fr + i) (nI (jb_pf mem K lv (la.getD i 0) * 512 + la.getD i 0))) (by omega) hlt (jb_fill_s (g := fun t => nI (jb_pf mem K lv (la.getD t 0) * 512 + la.getD t 0)) hSp) H locs hP hD hS ls (lv_sub hl [1, 2, 3, 4, 0] rfl)
          exact hl_a (la.length - 0 + 1) 0 Sp (by omega) (Nat.zero_le _) (fun t h => absurd h (Nat.not_lt_zero t)) s.heap [] hP hD hS ls (lv_sub hl [1, 2, 3, 4, 0] rfl)
        · exact absurd (nI_lt (a := lv) (b := 8) hlv (by decide)) c_19
