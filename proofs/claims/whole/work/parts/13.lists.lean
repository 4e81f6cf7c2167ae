/-! rows as lists: stretches of an order, parts of a list, packing of two small numbers -/
def jb_O (o : Nat → Nat) : Nat → Int32 := fun j => nI (o j)
theorem jb_O_set (o : Nat → Nat) (k r : Nat) : upd (jb_O o) k (nI r) = jb_O (va_up o k r) := by
  funext j
  by_cases h : j = k
  · simp [upd, jb_O, va_up, h]
  · simp [upd, jb_O, va_up, h]
theorem jb_or (a b : Nat) : nI a ||| nI b = nI (a ||| b) := by
  apply Int32.toBitVec_inj.mp
  show BitVec.ofNat 32 a ||| BitVec.ofNat 32 b = BitVec.ofNat 32 (a ||| b)
  apply BitVec.eq_of_getLsbD_eq
  intro i hi
  simp [hi]
theorem jb_pack {a b : Nat} (ha : a < 1048576) (hb : b < 512) : nI a <<< ((9 : Int32) &&& 31) ||| nI b = nI (a * 512 + b) := by
  rw [pk_shlN _ 9 (by decide) (by omega), jb_or]
  have h := Nat.two_pow_add_eq_or_of_lt (i := 9) (b := b) (by omega) a
  have e : a * 2 ^ 9 = 2 ^ 9 * a := Nat.mul_comm _ _
  rw [e, ← h]
  first | done | (congr 1; omega)
theorem jb_unp1 {a b : Nat} (ha : a < 1048576) (hb : b < 512) : nI (a * 512 + b) >>> ((9 : Int32) &&& 31) = nI a := by
  rw [pk_shrN (by omega) _ 9 (by decide)]
  congr 1
  omega
theorem jb_unp2 {a b : Nat} (ha : a < 1048576) (hb : b < 512) : nI (a * 512 + b) &&& 511 = nI b := by
  rw [pk_andN (by omega) 9 (by decide)]
  congr 1
  omega
/-- o holds the list ls from 'fr' on -/
def jb_in (o : Nat → Nat) (fr : Nat) (ls : List Nat) : Prop := ∀ i, i < ls.length → o (fr + i) = ls.getD i 0
theorem jb_in_nil (o : Nat → Nat) (fr : Nat) : jb_in o fr [] := fun i h => absurd h (Nat.not_lt_zero i)
theorem jb_in_push {o : Nat → Nat} {fr r : Nat} {ls : List Nat} (h : jb_in o fr ls) : jb_in (va_up o (fr + ls.length) r) fr (ls ++ [r]) := by
  intro i hi
  rw [List.length_append, List.length_singleton] at hi
  by_cases he : i = ls.length
  · subst he
    simp [va_up]
  · have hlt : i < ls.length := by omega
    rw [va_up_ne _ _ (by omega), h i hlt]
    simp [List.getD, List.getElem?_append_left hlt]
theorem jb_in_app {o : Nat → Nat} {fr : Nat} {a b : List Nat} (h : jb_in o fr (a ++ b)) : jb_in o fr a ∧ jb_in o (fr + a.length) b := by
  constructor
  · intro i hi
    rw [h i (by rw [List.length_append]; omega)]
    simp [List.getD, List.getElem?_append_left hi]
  · intro i hi
    rw [Nat.add_assoc, h (a.length + i) (by rw [List.length_append]; omega)]
    simp [List.getD, List.getElem?_append_right (Nat.le_add_right a.length i)]
theorem jb_in_keep {o o' : Nat → Nat} {fr : Nat} {ls : List Nat} (h : jb_in o fr ls) (hk : ∀ j, fr ≤ j → j < fr + ls.length → o' j = o j) : jb_in o' fr ls := fun i hi => by rw [hk _ (by omega) (by omega)]; exact h i hi
/-- the part p of a list, in order -/
def jb_fp (f : Nat → Nat) (ls : List Nat) (p : Nat) : List Nat := ls.filter (fun r => f r == p)
/-- the parts 0 .. p - 1, one behind the other -/
def jb_cat (f : Nat → Nat) (ls : List Nat) : Nat → List Nat
  | 0 => []
  | p + 1 => jb_cat f ls p ++ jb_fp f ls p
theorem jb_cat_len (f : Nat → Nat) (ls : List Nat) : ∀ p, (jb_cat f ls p).length = ls.countP (fun r => decide (f r < p)) := by
  intro p
  induction p with
  | zero => simp [jb_cat]
  | succ p ih =>
    rw [jb_cat, List.length_append, ih, jb_fp, ← List.countP_eq_length_filter]
    clear ih
    induction ls with
    | nil => rfl
    | cons a l ih =>
      simp only [List.countP_cons]
      rw [← ih]
      by_cases h1 : f a < p
      · have h2 : ¬ f a = p := by omega
        have h3 : f a < p + 1 := by omega
        simp [h1, h2, h3]; omega
      · by_cases h2 : f a = p
        · simp [h2]; omega
        · have h3 : ¬ f a < p + 1 := by omega
          simp [h1, h2, h3]
theorem jb_cat_le (f : Nat → Nat) (ls : List Nat) (p : Nat) : (jb_cat f ls p).length ≤ ls.length := by
  rw [jb_cat_len]; exact List.countP_le_length
theorem jb_cat_all {f : Nat → Nat} {ls : List Nat} {P : Nat} (h : ∀ r ∈ ls, f r < P) : (jb_cat f ls P).length = ls.length := by
  rw [jb_cat_len, List.countP_eq_length]
  intro a ha
  simp [h a ha]
theorem jb_take (ls : List Nat) {i : Nat} (h : i < ls.length) : ls.take (i + 1) = ls.take i ++ [ls.getD i 0] := by
  rw [List.take_add_one]
  simp [List.getD, h]
theorem jb_fp_take_eq {f : Nat → Nat} {ls : List Nat} {i p : Nat} (h : i < ls.length) (hf : f (ls.getD i 0) = p) : jb_fp f (ls.take (i + 1)) p = jb_fp f (ls.take i) p ++ [ls.getD i 0] := by
  rw [jb_take ls h, jb_fp, jb_fp, List.filter_append]
  simp only [List.filter_cons, List.filter_nil, hf, beq_self_eq_true, if_true]
theorem jb_fp_take_ne {f : Nat → Nat} {ls : List Nat} {i p : Nat} (h : i < ls.length) (hf : ¬ f (ls.getD i 0) = p) : jb_fp f (ls.take (i + 1)) p = jb_fp f (ls.take i) p := by
  have hb : (f (ls.getD i 0) == p) = false := by simpa using hf
  rw [jb_take ls h, jb_fp, jb_fp, List.filter_append]
  simp only [List.filter_cons, List.filter_nil, hb, Bool.false_eq_true, if_false, List.append_nil]
theorem jb_fp_take_all (f : Nat → Nat) (ls : List Nat) (p : Nat) : jb_fp f (ls.take ls.length) p = jb_fp f ls p := by rw [List.take_length]
theorem jb_fp_take_0 (f : Nat → Nat) (ls : List Nat) (p : Nat) : jb_fp f (ls.take 0) p = [] := by simp [jb_fp]
theorem jb_fp_take_le (f : Nat → Nat) (ls : List Nat) (i p : Nat) : (jb_fp f (ls.take i) p).length ≤ (jb_fp f ls p).length :=
  (List.Sublist.filter _ (List.take_sublist i ls)).length_le
/-- there is room for one more -/
theorem jb_room {f : Nat → Nat} {ls : List Nat} {i p : Nat} (h : i < ls.length) (hf : f (ls.getD i 0) = p) : (jb_cat f ls p ++ jb_fp f (ls.take i) p).length < ls.length := by
  have h1 := jb_fp_take_le f ls (i + 1) p
  rw [jb_fp_take_eq h hf, List.length_append, List.length_singleton] at h1
  have h2 := jb_cat_le f ls (p + 1)
  rw [jb_cat, List.length_append] at h2
  rw [List.length_append]
  omega
theorem jb_getD_mem {ls : List Nat} {i : Nat} (h : i < ls.length) : ls.getD i 0 ∈ ls := by
  simp [List.getD, h]
/-- pages of all parts -/
def jb_pgs (per : Nat) (g : Nat → Nat) : Nat → Nat
  | 0 => 0
  | p + 1 => jb_pgs per g p + jb_pg per (g p)
theorem jb_pg_le {per n : Nat} (h : 1 ≤ per) : jb_pg per n ≤ n := by
  unfold jb_pg
  rcases Nat.eq_zero_or_pos n with rfl | hn
  · have : (0 + per - 1) / per = 0 := Nat.div_eq_of_lt (by omega)
    omega
  · have h2 : (n + per - 1) / per < n + 1 := by
      rw [Nat.div_lt_iff_lt_mul (by omega)]
      have h3 : n * 1 ≤ n * per := Nat.mul_le_mul_left n h
      have h4 : (n + 1) * per = n * per + per := Nat.succ_mul n per
      rw [h4]
      omega
    omega
theorem jb_cat_mem {f : Nat → Nat} {ls : List Nat} {p r : Nat} (h : r ∈ jb_cat f ls p) : r ∈ ls := by
  induction p with
  | zero => simp [jb_cat] at h
  | succ p ih =>
    rw [jb_cat, List.mem_append] at h
    rcases h with h | h
    · exact ih h
    · exact (List.mem_filter.mp h).1
theorem jb_pgs_le {per : Nat} (h : 1 ≤ per) (f : Nat → Nat) (ls : List Nat) : ∀ p, jb_pgs per (fun q => (jb_fp f ls q).length) p ≤ (jb_cat f ls p).length := by
  intro p
  induction p with
  | zero => exact Nat.le_refl 0
  | succ p ih =>
    rw [jb_pgs, jb_cat, List.length_append]
    have := jb_pg_le (n := (jb_fp f ls p).length) h
    omega
