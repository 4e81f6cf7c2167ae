/-! THE RELATION of the class's report and the reference's, kept by the join -/
theorem jb_succ_le (c : Int32) : (c + 1).toNatClampNeg ≤ c.toNatClampNeg + 1 := by
  show (c + 1).toInt.toNat ≤ c.toInt.toNat + 1
  have h := Int32.toInt_add c 1
  have e1 : (1 : Int32).toInt = 1 := rfl
  rw [e1] at h
  have h1 := Int32.toInt_lt c
  have h2 := Int32.le_toInt c
  by_cases hm : c.toInt + 1 < 2 ^ 31
  · rw [Int.bmod_eq_of_le (by omega) (by omega)] at h
    omega
  · have he : c.toInt = 2 ^ 31 - 1 := by omega
    rw [he] at h
    have : (c + 1).toInt = -2 ^ 31 := by rw [h]; decide
    omega
/-- pairs that both tell -/
def jr_P (n nn : Nat) (K V VV : Nat → Int32) (x : jbR) (y : jmR) : Prop := ∀ i, i < (x.1 10).toNatClampNeg → i < 4000 → ∃ a b, a < n ∧ b < nn ∧ x.2.2.1 i = nI (a * 512 + b) ∧ y.1 i = nI a ∧ y.2.1 i = nI b ∧ y.2.2.1 i = K a ∧ y.2.2.2.1 i = V a ∧ y.2.2.2.2.1 i = VV b
/-- figures that both tell, but for the level -/
def jr_F (x : jbR) (y : jmR) : Prop := x.1 0 = y.2.2.2.2.2.2.2.2.1 ∧ x.1 1 = y.2.2.2.2.2.2.2.2.2.1 ∧ x.1 2 = y.2.2.2.2.2.2.2.2.2.2.1 ∧ x.1 3 = y.2.2.2.2.2.2.2.2.2.2.2.2.1 ∧ x.1 5 = y.2.2.2.2.2.2.2.2.2.2.2.2.2.2 ∧ x.1 10 = y.2.2.2.2.2.2.2.1 ∧ (∀ k, k < 4 → x.1 (6 + k) = y.2.2.2.2.2.1 k) ∧ x.2.1 = y.2.2.2.2.2.2.1 ∧ ¬ y.2.2.2.2.2.2.2.2.2.2.1 < 0
def jr_L (x : jbR) (y : jmR) : Prop := x.1 4 = y.2.2.2.2.2.2.2.2.2.2.2.2.2.1 ∨ (x.1 4 = 0 ∧ y.2.2.2.2.2.2.2.2.2.2.2.2.2.1 = -1)
def jr_R (n nn : Nat) (K V VV : Nat → Int32) (x : jbR) (y : jmR) : Prop := jr_P n nn K V VV x y ∧ jr_F x y ∧ jr_L x y ∧ x.2.2.2 = y.2.2.2.2.2.2.2.2.2.2.2.1
theorem jm_mx_eq (a b : Int32) : jm_mx a b = if b < a then a else b := by
  unfold jm_mx
  by_cases h : a ≤ b
  · rw [if_pos h, if_neg (Int32.not_lt.mpr h)]
  · rw [if_neg h, if_pos (Int32.not_le.mp h)]
theorem jm_mx_nn {a b : Int32} (h : ¬ b < 0) : ¬ jm_mx a b < 0 := by
  unfold jm_mx
  split
  · exact h
  · rename_i h2
    exact fun q => h (Int32.lt_trans (Int32.not_le.mp h2) q)
/-- an event, on both -/
theorem jr_ev {n nn : Nat} {K V VV : Nat → Int32} {x : jbR} {y : jmR} {kd lv nl nr rd tk : Nat} (hk : kd < 4) (hlv : lv < 1000) (h : jr_R n nn K V VV x y) : jr_P n nn K V VV (jc_ev kd lv nl nr rd x) (jm_note kd lv nl nr rd tk y) := by
  have e10 : (jc_ev kd lv nl nr rd x).1 10 = x.1 10 := jc_ev_n x hk
  intro i h1 h2
  rw [e10] at h1
  exact h.1 i h1 h2
theorem jr_evL {x : jbR} {y : jmR} {kd lv nl nr rd tk : Nat} (hk : kd < 4) (hlv : lv < 1000) (h : jr_L x y) : (jc_ev kd lv nl nr rd x).1 4 = (jm_note kd lv nl nr rd tk y).2.2.2.2.2.2.2.2.2.2.2.2.2.1 := by
  have e4 : (jc_ev kd lv nl nr rd x).1 4 = if x.1 4 < nI lv then nI lv else x.1 4 := by
    show jb_evF x.1 kd (nI lv) (nI rd) 4 = _
    simp only [jb_evF]
    rw [pk_us, pk_un (by decide), pk_un (by omega), pk_un (by decide)]
  rw [e4]
  show _ = jm_mx (nI lv) (y.2.2.2.2.2.2.2.2.2.2.2.2.2.1)
  rw [jm_mx_eq]
  rcases h with h | ⟨h, h2⟩
  · rw [h]
  · rw [h, h2]
    have h3 : (-1 : Int32) < nI lv := Int32.lt_of_lt_of_le (by decide) (nI_pos' (by omega))
    rw [if_pos h3]
    by_cases h4 : (0 : Int32) < nI lv
    · rw [if_pos h4]
    · rw [if_neg h4]
      have := (jb_nlt (a := 0) (b := lv) (by omega) (by omega)).mp h4
      have : lv = 0 := by omega
      rw [this]; rfl
/-- figures behind an event; m: what the class's figure 2 comes to be, before or behind -/
theorem jr_evF {x x' : jbR} {y : jmR} {kd lv nl nr rd tk : Nat} (hk : kd < 4) (h : jr_F x y) (h0 : x'.1 0 = x.1 0) (h1 : x'.1 1 = x.1 1) (h2 : x'.1 2 = jm_mx (nI tk) (x.1 2)) (h3 : x'.1 3 = x.1 3) (h5 : x'.1 5 = x.1 5) (h6 : ∀ k, k < 4 → x'.1 (6 + k) = x.1 (6 + k)) (hE : x'.2.1 = x.2.1) : (jc_ev kd lv nl nr rd x').1 0 = (jm_note kd lv nl nr rd tk y).2.2.2.2.2.2.2.2.1 ∧ (jc_ev kd lv nl nr rd x').1 1 = (jm_note kd lv nl nr rd tk y).2.2.2.2.2.2.2.2.2.1 ∧ (jc_ev kd lv nl nr rd x').1 2 = (jm_note kd lv nl nr rd tk y).2.2.2.2.2.2.2.2.2.2.1 ∧ (jc_ev kd lv nl nr rd x').1 3 = (jm_note kd lv nl nr rd tk y).2.2.2.2.2.2.2.2.2.2.2.2.1 ∧ (jc_ev kd lv nl nr rd x').1 5 = (jm_note kd lv nl nr rd tk y).2.2.2.2.2.2.2.2.2.2.2.2.2.2 ∧ (∀ k, k < 4 → (jc_ev kd lv nl nr rd x').1 (6 + k) = (jm_note kd lv nl nr rd tk y).2.2.2.2.2.1 k) ∧ (jc_ev kd lv nl nr rd x').2.1 = (jm_note kd lv nl nr rd tk y).2.2.2.2.2.2.1 ∧ ¬ (jm_note kd lv nl nr rd tk y).2.2.2.2.2.2.2.2.2.2.1 < 0 := by
  obtain ⟨a0, a1, a2, a3, a5, a10, a6, aE, am⟩ := h
  have g : ∀ j, (jc_ev kd lv nl nr rd x').1 j = jb_evF x'.1 kd (nI lv) (nI rd) j := fun _ => rfl
  refine ⟨?_, ?_, ?_, ?_, ?_, ?_, ?_, jm_mx_nn am⟩
  · rw [g]; simp only [jb_evF]
    rw [pk_un (by decide), pk_us, pk_un (by omega), pk_un (by decide), h0, a0]
  · rw [g]; simp only [jb_evF]
    rw [pk_un (by decide), pk_un (by decide), pk_un (by omega), pk_un (by decide), h1]; exact a1
  · rw [g]; simp only [jb_evF]
    rw [pk_un (by decide), pk_un (by decide), pk_un (by omega), pk_un (by decide), h2, a2]
  · rw [g]; simp only [jb_evF]
    rw [pk_un (by decide), pk_un (by decide), pk_un (by omega), pk_un (by decide), h3]; exact a3
  · rw [g]; simp only [jb_evF]
    rw [pk_un (by decide), pk_un (by decide), pk_un (by omega), pk_us, h5, a5]
  · intro k hk4
    rw [g]; simp only [jb_evF]
    rw [pk_un (by omega), pk_un (by omega)]
    by_cases he : k = kd
    · subst he
      rw [pk_us, pk_un (by omega), h6 k hk4, a6 k hk4]
      exact (pk_us).symm
    · rw [pk_un (by omega), pk_un (by omega), h6 k hk4, a6 k hk4]
      exact (pk_un he).symm
  · show jb_evE x'.2.1 (x'.1 5).toNatClampNeg _ _ _ _ _ = jb_evE _ _ _ _ _ _ _
    rw [hE, h5, aE, a5]
