/-! THE RELATION of the class's report and the reference's, kept by the join -/
theorem jb_succ_le (c : Int32) : (c + 1).toNatClampNeg ≤ c.toNatClampNeg + 1 := by
  show (c + 1).toInt.toNat ≤ c.toInt.toNat + 1
  have h := Int32.toInt_add c 1
  have e1 : (1 : Int32).toInt = 1 := rfl
  rw [e1] at h
  have h1 := Int32.toInt_lt c
  have h2 := Int32.le_toInt c
  by_cases hm : c.toInt + 1 < 2 ^ 31
  · rw [Int.bmod_eq_of_le (by omega) (by omega)] at h
    omega
  · have he : c.toInt = 2 ^ 31 - 1 := by omega
    rw [he] at h
    have : (c + 1).toInt = -2 ^ 31 := by rw [h]; decide
    omega
/-- pairs that both tell -/
def jr_P (n nn : Nat) (K V VV : Nat → Int32) (x : jbR) (y : jmR) : Prop := ∀ i, i < (x.1 10).toNatClampNeg → i < 4000 → ∃ a b, a < n ∧ b < nn ∧ x.2.2.1 i = nI (a * 512 + b) ∧ y.1 i = nI a ∧ y.2.1 i = nI b ∧ y.2.2.1 i = K a ∧ y.2.2.2.1 i = V a ∧ y.2.2.2.2.1 i = VV b
/-- figures that both tell, but for the level -/
def jr_F (x : jbR) (y : jmR) : Prop := x.1 0 = y.2.2.2.2.2.2.2.2.1 ∧ x.1 1 = y.2.2.2.2.2.2.2.2.2.1 ∧ x.1 2 = y.2.2.2.2.2.2.2.2.2.2.1 ∧ x.1 3 = y.2.2.2.2.2.2.2.2.2.2.2.2.1 ∧ x.1 5 = y.2.2.2.2.2.2.2.2.2.2.2.2.2.2 ∧ x.1 10 = y.2.2.2.2.2.2.2.1 ∧ (∀ k, k < 4 → x.1 (6 + k) = y.2.2.2.2.2.1 k) ∧ x.2.1 = y.2.2.2.2.2.2.1 ∧ ¬ y.2.2.2.2.2.2.2.2.2.2.1 < 0
def jr_L (x : jbR) (y : jmR) : Prop := x.1 4 = y.2.2.2.2.2.2.2.2.2.2.2.2.2.1 ∨ (x.1 4 = 0 ∧ y.2.2.2.2.2.2.2.2.2.2.2.2.2.1 = -1)
def jr_R (n nn : Nat) (K V VV : Nat → Int32) (x : jbR) (y : jmR) : Prop := jr_P n nn K V VV x y ∧ jr_F x y ∧ jr_L x y ∧ x.2.2.2 = y.2.2.2.2.2.2.2.2.2.2.2.1
theorem jm_mx_eq (a b : Int32) : jm_mx a b = if b < a then a else b := by
  unfold jm_mx
  by_cases h : a ≤ b
  · rw [if_pos h, if_neg (Int32.not_lt.mpr h)]
  · rw [if_neg h, if_pos (Int32.not_le.mp h)]
theorem jm_mx_nn {a b : Int32} (h : ¬ b < 0) : ¬ jm_mx a b < 0 := by
  unfold jm_mx
  split
  · exact h
  · rename_i h2
    exact fun q => h (Int32.lt_trans (Int32.not_le.mp h2) q)
/-- an event, on both -/
theorem jr_ev {n nn : Nat} {K V VV : Nat → Int32} {x : jbR} {y : jmR} {kd lv nl nr rd tk : Nat} (hk : kd < 4) (hlv : lv < 1000) (h : jr_R n nn K V VV x y) : jr_P n nn K V VV (jc_ev kd lv nl nr rd x) (jm_note kd lv nl nr rd tk y) := by
  have e10 : (jc_ev kd lv nl nr rd x).1 10 = x.1 10 := jc_ev_n x hk
  intro i h1 h2
  rw [e10] at h1
  exact h.1 i h1 h2
theorem jr_evL {x : jbR} {y : jmR} {kd lv nl nr rd tk : Nat} (hk : kd < 4) (hlv : lv < 1000) (h : jr_L x y) : (jc_ev kd lv nl nr rd x).1 4 = (jm_note kd lv nl nr rd tk y).2.2.2.2.2.2.2.2.2.2.2.2.2.1 := by
  have e4 : (jc_ev kd lv nl nr rd x).1 4 = if x.1 4 < nI lv then nI lv else x.1 4 := by
    show jb_evF x.1 kd (nI lv) (nI rd) 4 = _
    simp only [jb_evF]
    rw [pk_us, pk_un (by decide), pk_un (by omega), pk_un (by decide)]
  rw [e4]
  show _ = jm_mx (nI lv) (y.2.2.2.2.2.2.2.2.2.2.2.2.2.1)
  rw [jm_mx_eq]
  rcases h with h | ⟨h, h2⟩
  · rw [h]
  · rw [h, h2]
    have h3 : (-1 : Int32) < nI lv := Int32.lt_of_lt_of_le (by decide) (nI_pos' (by omega))
    rw [if_pos h3]
    by_cases h4 : (0 : Int32) < nI lv
    · rw [if_pos h4]
    · rw [if_neg h4]
      have := (jb_nlt (a := 0) (b := lv) (by omega) (by omega)).mp h4
      have : lv = 0 := by omega
      rw [this]; rfl
/-- figures behind an event; m: what the class's figure 2 comes to be, before or behind -/
theorem jr_evF {x x' : jbR} {y : jmR} {kd lv nl nr rd tk : Nat} (hk : kd < 4) (h : jr_F x y) (h0 : x'.1 0 = x.1 0) (h1 : x'.1 1 = x.1 1) (h2 : x'.1 2 = jm_mx (nI tk) (x.1 2)) (h3 : x'.1 3 = x.1 3) (h5 : x'.1 5 = x.1 5) (h6 : ∀ k, k < 4 → x'.1 (6 + k) = x.1 (6 + k)) (hE : x'.2.1 = x.2.1) : (jc_ev kd lv nl nr rd x').1 0 = (jm_note kd lv nl nr rd tk y).2.2.2.2.2.2.2.2.1 ∧ (jc_ev kd lv nl nr rd x').1 1 = (jm_note kd lv nl nr rd tk y).2.2.2.2.2.2.2.2.2.1 ∧ (jc_ev kd lv nl nr rd x').1 2 = (jm_note kd lv nl nr rd tk y).2.2.2.2.2.2.2.2.2.2.1 ∧ (jc_ev kd lv nl nr rd x').1 3 = (jm_note kd lv nl nr rd tk y).2.2.2.2.2.2.2.2.2.2.2.2.1 ∧ (jc_ev kd lv nl nr rd x').1 5 = (jm_note kd lv nl nr rd tk y).2.2.2.2.2.2.2.2.2.2.2.2.2.2 ∧ (∀ k, k < 4 → (jc_ev kd lv nl nr rd x').1 (6 + k) = (jm_note kd lv nl nr rd tk y).2.2.2.2.2.1 k) ∧ (jc_ev kd lv nl nr rd x').2.1 = (jm_note kd lv nl nr rd tk y).2.2.2.2.2.2.1 ∧ ¬ (jm_note kd lv nl nr rd tk y).2.2.2.2.2.2.2.2.2.2.1 < 0 := by
  obtain ⟨a0, a1, a2, a3, a5, a10, a6, aE, am⟩ := h
  have g : ∀ j, (jc_ev kd lv nl nr rd x').1 j = jb_evF x'.1 kd (nI lv) (nI rd) j := fun _ => rfl
  refine ⟨?_, ?_, ?_, ?_, ?_, ?_, ?_, jm_mx_nn am⟩
  · rw [g]; simp only [jb_evF]
    rw [pk_un (by decide), pk_us, pk_un (by omega), pk_un (by decide), h0, a0]
    rfl
  · rw [g]; simp only [jb_evF]
    rw [pk_un (by decide), pk_un (by decide), pk_un (by omega), pk_un (by decide), h1]; exact a1
  · rw [g]; simp only [jb_evF]
    rw [pk_un (by decide), pk_un (by decide), pk_un (by omega), pk_un (by decide), h2, a2]
    rfl
  · rw [g]; simp only [jb_evF]
    rw [pk_un (by decide), pk_un (by decide), pk_un (by omega), pk_un (by decide), h3]; exact a3
  · rw [g]; simp only [jb_evF]
    rw [pk_un (by decide), pk_un (by decide), pk_un (by omega), pk_us, h5, a5]
    rfl
  · intro k hk4
    rw [g]; simp only [jb_evF]
    rw [pk_un (by omega), pk_un (by omega)]
    by_cases he : k = kd
    · subst he
      rw [pk_us, pk_un (by omega), h6 k hk4, a6 k hk4]
      exact (pk_us).symm
    · rw [pk_un (by omega), pk_un (by omega), h6 k hk4, a6 k hk4]
      exact (pk_un he).symm
  · show jb_evE x'.2.1 (x'.1 5).toNatClampNeg _ _ _ _ _ = jb_evE _ _ _ _ _ _ _
    rw [hE, h5, aE, a5]
theorem jb_evF_c {F : Nat → Int32} {kd : Nat} {lv rd : Int32} (hk : kd < 4) (j : Nat) : jb_evF F kd lv rd j = if j = 4 then (if F 4 < lv then lv else F 4) else if j = 0 then F 0 + rd else if j = 6 + kd then F (6 + kd) + 1 else if j = 5 then F 5 + 1 else F j := by
  simp only [jb_evF]
  by_cases h4 : j = 4
  · rw [if_pos h4, h4, pk_us, pk_un (by decide), pk_un (by omega), pk_un (by decide)]
  · rw [if_neg h4, pk_un h4]
    by_cases h0 : j = 0
    · rw [if_pos h0, h0, pk_us, pk_un (by omega), pk_un (by decide)]
    · rw [if_neg h0, pk_un h0]
      by_cases h6 : j = 6 + kd
      · rw [if_pos h6, h6, pk_us, pk_un (by omega)]
      · rw [if_neg h6, pk_un h6]
        by_cases h5 : j = 5
        · rw [if_pos h5, h5, pk_us]
        · rw [if_neg h5, pk_un h5]
theorem jb_evF_o {F : Nat → Int32} {kd k : Nat} {lv rd : Int32} (hk : kd < 4) (h4 : k ≠ 4) (h0 : k ≠ 0) (h6 : k ≠ 6 + kd) (h5 : k ≠ 5) : jb_evF F kd lv rd k = F k := by
  rw [jb_evF_c hk, if_neg h4, if_neg h0, if_neg h6, if_neg h5]
theorem jb_evF_upd {F : Nat → Int32} {kd k : Nat} {lv rd v : Int32} (hk : kd < 4) (h4 : k ≠ 4) (h0 : k ≠ 0) (h6 : k ≠ 6 + kd) (h5 : k ≠ 5) : jb_evF (upd F k v) kd lv rd = upd (jb_evF F kd lv rd) k v := by
  funext j
  by_cases hj : j = k
  · subst hj
    rw [jb_evF_o hk h4 h0 h6 h5, pk_us, pk_us]
  · have g : ∀ i, i ≠ k → upd F k v i = F i := fun i h => pk_un h
    rw [pk_un (f := jb_evF F kd lv rd) hj, jb_evF_c hk, jb_evF_c hk, g 4 (fun h => h4 h.symm), g 0 (fun h => h0 h.symm), g (6 + kd) (fun h => h6 h.symm), g 5 (fun h => h5 h.symm), g j hj]
theorem jc_ev_pair {kd lv nl nr rd : Nat} {x : jbR} {q : Nat × Nat} (hk : kd < 4) : jc_ev kd lv nl nr rd (jc_pair x q) = jc_pair (jc_ev kd lv nl nr rd x) q := by
  have e10 : jb_evF x.1 kd (nI lv) (nI rd) 10 = x.1 10 := jb_evF_o hk (by decide) (by decide) (by omega) (by decide)
  have e5 : upd x.1 10 (x.1 10 + 1) 5 = x.1 5 := pk_un (by decide)
  show (jb_evF (upd x.1 10 (x.1 10 + 1)) kd (nI lv) (nI rd), jb_evE x.2.1 (upd x.1 10 (x.1 10 + 1) 5).toNatClampNeg (nI kd) (nI lv) (nI nl) (nI nr) (nI rd), jb_adP x.2.2.1 (x.1 10).toNatClampNeg (nI q.1) (nI q.2), x.2.2.2) = (upd (jb_evF x.1 kd (nI lv) (nI rd)) 10 (jb_evF x.1 kd (nI lv) (nI rd) 10 + 1), jb_evE x.2.1 (x.1 5).toNatClampNeg (nI kd) (nI lv) (nI nl) (nI nr) (nI rd), jb_adP x.2.2.1 (jb_evF x.1 kd (nI lv) (nI rd) 10).toNatClampNeg (nI q.1) (nI q.2), x.2.2.2)
  rw [jb_evF_upd hk (by decide) (by decide) (by omega) (by decide), e10, e5]
theorem jc_ev_pairs {kd lv nl nr rd : Nat} (hk : kd < 4) : ∀ (ps : List (Nat × Nat)) (x : jbR), jc_ev kd lv nl nr rd (jc_pairs ps x) = jc_pairs ps (jc_ev kd lv nl nr rd x) := by
  intro ps
  induction ps with
  | nil => intro x; rfl
  | cons q l ih =>
    intro x
    show jc_ev kd lv nl nr rd (jc_pairs l (jc_pair x q)) = jc_pairs l (jc_pair (jc_ev kd lv nl nr rd x) q)
    rw [ih, jc_ev_pair hk]
theorem jc_ev_mem {kd lv nl nr rd tk : Nat} {x : jbR} (hk : kd < 4) : jc_mem tk (jc_ev kd lv nl nr rd x) = jc_ev kd lv nl nr rd (jc_mem tk x) := by
  have e2 : jb_evF x.1 kd (nI lv) (nI rd) 2 = x.1 2 := jb_evF_o hk (by decide) (by decide) (by omega) (by decide)
  have e5 : upd x.1 2 (if x.1 2 < nI tk then nI tk else x.1 2) 5 = x.1 5 := pk_un (by decide)
  show (upd (jb_evF x.1 kd (nI lv) (nI rd)) 2 (if jb_evF x.1 kd (nI lv) (nI rd) 2 < nI tk then nI tk else jb_evF x.1 kd (nI lv) (nI rd) 2), jb_evE x.2.1 (x.1 5).toNatClampNeg (nI kd) (nI lv) (nI nl) (nI nr) (nI rd), x.2.2.1, x.2.2.2) = (jb_evF (upd x.1 2 (if x.1 2 < nI tk then nI tk else x.1 2)) kd (nI lv) (nI rd), jb_evE x.2.1 (upd x.1 2 (if x.1 2 < nI tk then nI tk else x.1 2) 5).toNatClampNeg (nI kd) (nI lv) (nI nl) (nI nr) (nI rd), x.2.2.1, x.2.2.2)
  rw [jb_evF_upd hk (by decide) (by decide) (by omega) (by decide), e2, e5]
theorem jc_mem_0 {x : jbR} (h : ¬ x.1 2 < 0) : jc_mem 0 x = x := by
  have e : upd x.1 2 (if x.1 2 < nI 0 then nI 0 else x.1 2) = x.1 := by
    funext j
    by_cases hj : j = 2
    · rw [hj, pk_us, if_neg (show ¬ x.1 2 < nI 0 from h)]
    · rw [pk_un hj]
  show (upd x.1 2 (if x.1 2 < nI 0 then nI 0 else x.1 2), x.2.1, x.2.2.1, x.2.2.2) = x
  rw [e]
/-- an event and its memory, on both -/
theorem jr_note {n nn : Nat} {K V VV : Nat → Int32} {x : jbR} {y : jmR} {kd lv nl nr rd tk : Nat} (hk : kd < 4) (hlv : lv < 1000) (h : jr_R n nn K V VV x y) : jr_R n nn K V VV (jc_ev kd lv nl nr rd (jc_mem tk x)) (jm_note kd lv nl nr rd tk y) := by
  obtain ⟨hp, hf, hl, hd⟩ := h
  have hf' := hf
  obtain ⟨a0, a1, a2, a3, a5, a10, a6, aE, am⟩ := hf'
  have m10 : (jc_mem tk x).1 10 = x.1 10 := jc_mem_o (by decide)
  obtain ⟨b0, b1, b2, b3, b5, b6, bE, bm⟩ := jr_evF (x' := jc_mem tk x) (lv := lv) (nl := nl) (nr := nr) (rd := rd) (tk := tk) hk hf (jc_mem_o (by decide)) (jc_mem_o (by decide)) (by rw [jm_mx_eq]; show upd x.1 2 (if x.1 2 < nI tk then nI tk else x.1 2) 2 = _; exact pk_us) (jc_mem_o (by decide)) (jc_mem_o (by decide)) (fun k _ => jc_mem_o (by omega)) rfl
  have c10 : (jc_ev kd lv nl nr rd (jc_mem tk x)).1 10 = x.1 10 := (jc_ev_n _ hk).trans m10
  refine ⟨?_, ⟨b0, b1, b2, b3, b5, c10.trans a10, b6, bE, bm⟩, Or.inl (jr_evL hk hlv ?_), hd⟩
  · intro i h1 h2
    rw [c10] at h1
    exact hp i h1 h2
  · show jr_L (jc_mem tk x) y
    unfold jr_L
    rw [show (jc_mem tk x).1 4 = x.1 4 from jc_mem_o (by decide)]
    exact hl
/-- one pair, on both -/
theorem jr_pair {n nn : Nat} {K V VV Kf Vf : Nat → Int32} {x : jbR} {y : jmR} {q : Nat × Nat} (hn : n ≤ 500) (hnn : nn ≤ 500) (h : jr_R n nn K V VV x y) (ha : q.1 < n) (hb : q.2 < nn) (h1 : K q.1 = Kf q.1) (h2 : V q.1 = Vf q.1) (h3 : VV q.2 = Vf (500 + q.2)) : jr_R n nn K V VV (jc_pair x q) (jm_pair Kf Vf y q) := by
  obtain ⟨hp, ⟨a0, a1, a2, a3, a5, a10, a6, aE, am⟩, hl, hd⟩ := h
  have o : ∀ j, j ≠ 10 → (jc_pair x q).1 j = x.1 j := fun j hj => pk_un hj
  have e10 : (jc_pair x q).1 10 = x.1 10 + 1 := by show upd x.1 10 (x.1 10 + 1) 10 = _; exact pk_us
  refine ⟨?_, ⟨(o 0 (by decide)).trans a0, (o 1 (by decide)).trans a1, (o 2 (by decide)).trans a2, (o 3 (by decide)).trans a3, (o 5 (by decide)).trans a5, ?_, fun k hk => (o (6 + k) (by omega)).trans (a6 k hk), aE, am⟩, ?_, hd⟩
  · intro i hi h4
    rw [e10] at hi
    have hs := jb_succ_le (x.1 10)
    show ∃ a b, a < n ∧ b < nn ∧ jb_adP x.2.2.1 (x.1 10).toNatClampNeg (nI q.1) (nI q.2) i = nI (a * 512 + b) ∧ jm_adA (y.2.2.2.2.2.2.2.1).toNatClampNeg (y.1) (nI q.1) i = nI a ∧ jm_adA (y.2.2.2.2.2.2.2.1).toNatClampNeg (y.2.1) (nI q.2) i = nI b ∧ jm_adA (y.2.2.2.2.2.2.2.1).toNatClampNeg (y.2.2.1) (Kf q.1) i = K a ∧ jm_adA (y.2.2.2.2.2.2.2.1).toNatClampNeg (y.2.2.2.1) (Vf q.1) i = V a ∧ jm_adA (y.2.2.2.2.2.2.2.1).toNatClampNeg (y.2.2.2.2.1) (Vf (500 + q.2)) i = VV b
    rw [← a10]
    by_cases he : i = (x.1 10).toNatClampNeg
    · have hlt : (x.1 10).toNatClampNeg < 4000 := by omega
      refine ⟨q.1, q.2, ha, hb, ?_, ?_, ?_, ?_, ?_, ?_⟩
      · unfold jb_adP; rw [if_pos hlt, he, pk_us]; exact jb_pack (by omega) (by omega)
      · unfold jm_adA; rw [if_pos hlt, he, pk_us]
      · unfold jm_adA; rw [if_pos hlt, he, pk_us]
      · unfold jm_adA; rw [if_pos hlt, he, pk_us]; exact h1.symm
      · unfold jm_adA; rw [if_pos hlt, he, pk_us]; exact h2.symm
      · unfold jm_adA; rw [if_pos hlt, he, pk_us]; exact h3.symm
    · obtain ⟨a, b, r1, r2, r3, r4, r5, r6, r7, r8⟩ := hp i (by omega) h4
      have k1 : ∀ (P : Nat → Int32) (v : Int32), jm_adA (x.1 10).toNatClampNeg P v i = P i := fun P v => by
        unfold jm_adA
        split
        · exact pk_un he
        · rfl
      have k2 : ∀ u v : Int32, jb_adP x.2.2.1 (x.1 10).toNatClampNeg u v i = x.2.2.1 i := fun u v => by
        unfold jb_adP
        split
        · exact pk_un he
        · rfl
      exact ⟨a, b, r1, r2, (k2 _ _).trans r3, (k1 _ _).trans r4, (k1 _ _).trans r5, (k1 _ _).trans r6, (k1 _ _).trans r7, (k1 _ _).trans r8⟩
  · rw [e10, a10]; rfl
  · unfold jr_L
    rw [o 4 (by decide)]
    exact hl
theorem jr_pairs {n nn : Nat} {K V VV Kf Vf : Nat → Int32} (hn : n ≤ 500) (hnn : nn ≤ 500) : ∀ (ps : List (Nat × Nat)) {x : jbR} {y : jmR}, jr_R n nn K V VV x y → (∀ q ∈ ps, q.1 < n ∧ q.2 < nn ∧ K q.1 = Kf q.1 ∧ V q.1 = Vf q.1 ∧ VV q.2 = Vf (500 + q.2)) → jr_R n nn K V VV (jc_pairs ps x) (jm_pairs Kf Vf ps y) := by
  intro ps
  induction ps with
  | nil => intro x y h _; exact h
  | cons q l ih =>
    intro x y h hq
    obtain ⟨h1, h2, h3, h4, h5⟩ := hq q (List.mem_cons_self)
    exact ih (jr_pair (Kf := Kf) (Vf := Vf) hn hnn h h1 h2 h3 h4 h5) (fun r hr => hq r (List.mem_cons_of_mem _ hr))
theorem jr_opN {n nn : Nat} {K V VV : Nat → Int32} {x : jbR} {y : jmR} {lv nl nr : Nat} (hlv : lv < 1000) (h : jr_R n nn K V VV x y) : jr_R n nn K V VV (jcN lv nl nr x) (jmN lv nl nr y) := by
  have h2 : ¬ x.1 2 < 0 := by rw [h.2.1.2.2.1]; exact h.2.1.2.2.2.2.2.2.2.2
  have := jr_note (kd := 0) (nl := nl) (nr := nr) (rd := 0) (tk := 0) (by decide) hlv h
  rw [jc_mem_0 h2] at this
  exact this
theorem jr_opL {n nn : Nat} {K V VV Kf Vf : Nat → Int32} {x : jbR} {y : jmR} {kd lv nl nr rd tk : Nat} {ps : List (Nat × Nat)} (hn : n ≤ 500) (hnn : nn ≤ 500) (hk : kd < 4) (hlv : lv < 1000) (h : jr_R n nn K V VV x y) (hq : ∀ q ∈ ps, q.1 < n ∧ q.2 < nn ∧ K q.1 = Kf q.1 ∧ V q.1 = Vf q.1 ∧ VV q.2 = Vf (500 + q.2)) : jr_R n nn K V VV (jcL kd lv nl nr rd tk ps x) (jmL Kf Vf kd lv nl nr rd tk ps y) := by
  unfold jcL jmL
  rw [jc_ev_pairs hk]
  exact jr_pairs hn hnn ps (jr_note hk hlv h) hq
theorem jr_wr {n nn : Nat} {K V VV : Nat → Int32} {x : jbR} {y : jmR} {w : Nat} (h : jr_R n nn K V VV x y) : jr_R n nn K V VV (jc_wr w x) (jm_wr w y) := by
  obtain ⟨hp, ⟨a0, a1, a2, a3, a5, a10, a6, aE, am⟩, hl, hd⟩ := h
  have o : ∀ j, j ≠ 1 → j ≠ 3 → (jc_wr w x).1 j = x.1 j := fun j h1 h3 => jc_wr_o h1 h3
  refine ⟨?_, ⟨(o 0 (by decide) (by decide)).trans a0, ?_, (o 2 (by decide) (by decide)).trans a2, ?_, (o 5 (by decide) (by decide)).trans a5, (o 10 (by decide) (by decide)).trans a10, fun k hk => (o (6 + k) (by omega) (by omega)).trans (a6 k hk), aE, am⟩, ?_, ?_⟩
  · intro i h1 h2
    rw [o 10 (by decide) (by decide)] at h1
    exact hp i h1 h2
  · show jb_wdF x.1 x.2.2.2 (nI w) 1 = y.2.2.2.2.2.2.2.2.2.1 + nI w
    simp only [jb_wdF]
    rw [pk_un (by decide), pk_us, a1]
  · show jb_wdF x.1 x.2.2.2 (nI w) 3 = jm_mx (y.2.2.2.2.2.2.2.2.2.2.2.1 + nI w) (y.2.2.2.2.2.2.2.2.2.2.2.2.1)
    simp only [jb_wdF]
    rw [pk_us, pk_un (by decide), jm_mx_eq, a3, hd]
  · unfold jr_L
    rw [o 4 (by decide) (by decide)]
    exact hl
  · show x.2.2.2 + nI w = y.2.2.2.2.2.2.2.2.2.2.2.1 + nI w
    rw [hd]
theorem jr_opS {n nn : Nat} {K V VV : Nat → Int32} {x : jbR} {y : jmR} {lv nl nr rd tk w : Nat} (hlv : lv < 1000) (h : jr_R n nn K V VV x y) : jr_R n nn K V VV (jcS lv nl nr rd tk w x) (jmS lv nl nr rd tk w y) := by
  unfold jcS jmS
  rw [jc_ev_mem (by decide)]
  exact jr_wr (jr_note (by decide) hlv h)
theorem jr_opF {n nn : Nat} {K V VV : Nat → Int32} {x : jbR} {y : jmR} {w : Nat} (h : jr_R n nn K V VV x y) : jr_R n nn K V VV (jc_fr w x) (jm_fr w y) := by
  obtain ⟨hp, hf, hl, hd⟩ := h
  exact ⟨hp, hf, hl, by show x.2.2.2 - nI w = y.2.2.2.2.2.2.2.2.2.2.2.1 - nI w; rw [hd]⟩
