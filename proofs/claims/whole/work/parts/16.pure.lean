/-! THE JOIN as a function of lists: jb_J, over operations on a report; the class's own operations (jc_) -/
/-- pairs that one row b of the other side makes with the held rows, in order -/
def jb_mt (isL : Bool) (kh ko : Nat → Int32) (hs : List Nat) (b : Nat) : List (Nat × Nat) := (hs.filter (fun a => kh a == ko b)).map (fun a => if isL then (a, b) else (b, a))
def jb_meet (isL : Bool) (kh ko : Nat → Int32) (hs os : List Nat) : List (Nat × Nat) := os.flatMap (jb_mt isL kh ko hs)
/-- block number b of the held rows -/
def jb_blk (step : Nat) (hs : List Nat) (b : Nat) : List Nat := (hs.drop (b * step)).take step
/-- how many blocks -/
def jb_nb (step n : Nat) : Nat := (n + step - 1) / step
/-- pairs of the blocks 0 .. k - 1 -/
def jb_bps (isL : Bool) (kh ko : Nat → Int32) (step : Nat) (hs os : List Nat) : Nat → List (Nat × Nat)
  | 0 => []
  | k + 1 => jb_bps isL kh ko step hs os k ++ jb_meet isL kh ko (jb_blk step hs k) os
def jb_one (kL kR : Nat → Int32) (la lb : List Nat) : Bool := la.all (fun r => kL r == kL (la.getD 0 0)) && lb.all (fun r => kR r == kL (la.getD 0 0))
/-- the kind of an event; d: how many levels are left to part -/
def jb_kind (per mem : Nat) (kL kR : Nat → Int32) (d : Nat) (la lb : List Nat) : Nat :=
  if min la.length lb.length = 0 then 0
  else if jb_pg per (min la.length lb.length) ≤ mem - 2 then 1
  else if d = 0 then 2
  else if jb_one kL kR la lb then 2 else 3
/-- pages read by a join by blocks -/
def jb_rd (per mem nl nr : Nat) : Nat := if jb_pg per nl ≤ jb_pg per nr then jb_pg per nl + jb_nb ((mem - 2) * per) nl * jb_pg per nr else jb_pg per nr + jb_nb ((mem - 2) * per) nr * jb_pg per nl
/-- pages of memory that it takes -/
def jb_tk (per mem nl nr : Nat) : Nat := min (mem - 2) (min (jb_pg per nl) (jb_pg per nr)) + 2
/-- its pairs -/
def jb_ps (per mem : Nat) (kL kR : Nat → Int32) (la lb : List Nat) : List (Nat × Nat) :=
  if jb_pg per la.length ≤ jb_pg per lb.length then jb_bps true kL kR ((mem - 2) * per) la lb (jb_nb ((mem - 2) * per) la.length)
  else jb_bps false kR kL ((mem - 2) * per) lb la (jb_nb ((mem - 2) * per) lb.length)
/-- pages of part p of both -/
def jb_pp (per : Nat) (fa fb : Nat → Nat) (la lb : List Nat) (p : Nat) : Nat := jb_pg per (jb_fp fa la p).length + jb_pg per (jb_fp fb lb p).length
/-- pages of all parts of both -/
def jb_ww (per : Nat) (fa fb : Nat → Nat) (la lb : List Nat) (P : Nat) : Nat := jb_pgs per (fun t => (jb_fp fa la t).length) P + jb_pgs per (fun t => (jb_fp fb lb t).length) P
section JBJ
variable {ρ : Type} (opN : Nat → Nat → Nat → ρ → ρ) (opL : Nat → Nat → Nat → Nat → Nat → Nat → List (Nat × Nat) → ρ → ρ) (opS : Nat → Nat → Nat → Nat → Nat → Nat → ρ → ρ) (opF : Nat → ρ → ρ)
/-- nothing to part: kinds 0, 1, 2 -/
def jb_leaf (per mem : Nat) (kL kR : Nat → Int32) (kd lv : Nat) (la lb : List Nat) (x : ρ) : ρ :=
  if kd = 0 then opN lv la.length lb.length x
  else opL kd lv la.length lb.length (jb_rd per mem la.length lb.length) (jb_tk per mem la.length lb.length) (jb_ps per mem kL kR la lb) x
def jb_J (per mem : Nat) (kL kR : Nat → Int32) : Nat → Nat → List Nat → List Nat → ρ → ρ
  | 0, lv, la, lb, x => jb_leaf opN opL per mem kL kR (jb_kind per mem kL kR 0 la lb) lv la lb x
  | d + 1, lv, la, lb, x =>
    if jb_kind per mem kL kR (d + 1) la lb = 3 then
      (List.range (mem - 1)).foldl (fun y p => opF (jb_pp per (jb_pf mem kL lv) (jb_pf mem kR lv) la lb p) (jb_J per mem kL kR d (lv + 1) (jb_fp (jb_pf mem kL lv) la p) (jb_fp (jb_pf mem kR lv) lb p) y))
        (opS lv la.length lb.length (jb_pg per la.length + jb_pg per lb.length) mem (jb_ww per (jb_pf mem kL lv) (jb_pf mem kR lv) la lb (mem - 1)) x)
    else jb_leaf opN opL per mem kL kR (jb_kind per mem kL kR (d + 1) la lb) lv la lb x
end JBJ
-- the class's report: figures, events, pairs, on the disk
abbrev jbR : Type := (Nat → Int32) × (Nat → Int32) × (Nat → Int32) × Int32
def jc_ev (kd lv nl nr rd : Nat) (x : jbR) : jbR := (jb_evF x.1 kd (nI lv) (nI rd), jb_evE x.2.1 (x.1 5).toNatClampNeg (nI kd) (nI lv) (nI nl) (nI nr) (nI rd), x.2.2.1, x.2.2.2)
def jc_mem (t : Nat) (x : jbR) : jbR := (upd x.1 2 (if x.1 2 < nI t then nI t else x.1 2), x.2.1, x.2.2.1, x.2.2.2)
def jc_pair (x : jbR) (q : Nat × Nat) : jbR := (upd x.1 10 (x.1 10 + 1), x.2.1, jb_adP x.2.2.1 (x.1 10).toNatClampNeg (nI q.1) (nI q.2), x.2.2.2)
def jc_pairs (ps : List (Nat × Nat)) (x : jbR) : jbR := ps.foldl jc_pair x
def jc_wr (w : Nat) (x : jbR) : jbR := (jb_wdF x.1 x.2.2.2 (nI w), x.2.1, x.2.2.1, x.2.2.2 + nI w)
def jc_fr (w : Nat) (x : jbR) : jbR := (x.1, x.2.1, x.2.2.1, x.2.2.2 - nI w)
def jcN (lv nl nr : Nat) (x : jbR) : jbR := jc_ev 0 lv nl nr 0 x
def jcL (kd lv nl nr rd tk : Nat) (ps : List (Nat × Nat)) (x : jbR) : jbR := jc_ev kd lv nl nr rd (jc_pairs ps (jc_mem tk x))
def jcS (lv nl nr rd tk w : Nat) (x : jbR) : jbR := jc_wr w (jc_mem tk (jc_ev 3 lv nl nr rd x))
/-- the join, on the class's report -/
def jc_J (per mem : Nat) (kL kR : Nat → Int32) : Nat → Nat → List Nat → List Nat → jbR → jbR := jb_J jcN jcL jcS jc_fr per mem kL kR
/-- parts 0 .. p - 1, each joined and taken off the disk -/
def jc_Jp (per mem : Nat) (kL kR : Nat → Int32) (d lv : Nat) (la lb : List Nat) (x : jbR) (p : Nat) : jbR :=
  (List.range p).foldl (fun y p => jc_fr (jb_pp per (jb_pf mem kL lv) (jb_pf mem kR lv) la lb p) (jc_J per mem kL kR d (lv + 1) (jb_fp (jb_pf mem kL lv) la p) (jb_fp (jb_pf mem kR lv) lb p) y)) x
theorem jc_Jp_0 (per mem : Nat) (kL kR : Nat → Int32) (d lv : Nat) (la lb : List Nat) (x : jbR) : jc_Jp per mem kL kR d lv la lb x 0 = x := rfl
theorem jc_Jp_s (per mem : Nat) (kL kR : Nat → Int32) (d lv : Nat) (la lb : List Nat) (x : jbR) (p : Nat) : jc_Jp per mem kL kR d lv la lb x (p + 1) = jc_fr (jb_pp per (jb_pf mem kL lv) (jb_pf mem kR lv) la lb p) (jc_J per mem kL kR d (lv + 1) (jb_fp (jb_pf mem kL lv) la p) (jb_fp (jb_pf mem kR lv) lb p) (jc_Jp per mem kL kR d lv la lb x p)) := by
  unfold jc_Jp
  rw [List.range_succ, List.foldl_append]
  rfl
theorem jc_J_part {per mem : Nat} {kL kR : Nat → Int32} {d lv : Nat} {la lb : List Nat} (h : jb_kind per mem kL kR (d + 1) la lb = 3) (x : jbR) : jc_J per mem kL kR (d + 1) lv la lb x = jc_Jp per mem kL kR d lv la lb (jcS lv la.length lb.length (jb_pg per la.length + jb_pg per lb.length) mem (jb_ww per (jb_pf mem kL lv) (jb_pf mem kR lv) la lb (mem - 1)) x) (mem - 1) := by
  unfold jc_J
  rw [jb_J, if_pos h]
  rfl
theorem jc_J_leaf {per mem : Nat} {kL kR : Nat → Int32} {d lv : Nat} {la lb : List Nat} (h : ¬ jb_kind per mem kL kR d la lb = 3) (x : jbR) : jc_J per mem kL kR d lv la lb x = jb_leaf jcN jcL per mem kL kR (jb_kind per mem kL kR d la lb) lv la lb x := by
  unfold jc_J
  cases d with
  | zero => rw [jb_J]
  | succ d => rw [jb_J, if_neg h]
theorem jb_kind_0 {per mem : Nat} {kL kR : Nat → Int32} {la lb : List Nat} : ¬ jb_kind per mem kL kR 0 la lb = 3 := by
  unfold jb_kind
  split
  · decide
  · split
    · decide
    · simp
theorem jb_kind_lt {per mem d : Nat} {kL kR : Nat → Int32} {la lb : List Nat} : jb_kind per mem kL kR d la lb < 4 := by
  unfold jb_kind
  split
  · decide
  · split
    · decide
    · split
      · decide
      · split <;> decide
-- how many pairs and events there are
theorem jc_pairs_app (xs ys : List (Nat × Nat)) (x : jbR) : jc_pairs (xs ++ ys) x = jc_pairs ys (jc_pairs xs x) := List.foldl_append
theorem jc_pairs_snoc (xs : List (Nat × Nat)) (q : Nat × Nat) (x : jbR) : jc_pairs (xs ++ [q]) x = jc_pair (jc_pairs xs x) q := by rw [jc_pairs_app]; rfl
theorem jc_pairs_n {np : Nat} : ∀ (ps : List (Nat × Nat)) {x : jbR}, x.1 10 = nI np → (jc_pairs ps x).1 10 = nI (np + ps.length) := by
  intro ps
  induction ps generalizing np with
  | nil => intro x h; exact h
  | cons q l ih =>
    intro x h
    have h1 : (jc_pair x q).1 10 = nI (np + 1) := by
      show upd x.1 10 (x.1 10 + 1) 10 = _
      rw [pk_us, h, nI_1]
    have h2 := ih (np := np + 1) (x := jc_pair x q) h1
    rw [List.length_cons, show np + (l.length + 1) = np + 1 + l.length by omega]
    exact h2
theorem jc_pairs_5 : ∀ (ps : List (Nat × Nat)) (x : jbR), (jc_pairs ps x).1 5 = x.1 5 := by
  intro ps
  induction ps with
  | nil => intro x; rfl
  | cons q l ih =>
    intro x
    show (jc_pairs l (jc_pair x q)).1 5 = _
    rw [ih]
    show upd x.1 10 (x.1 10 + 1) 5 = x.1 5
    exact pk_un (by decide)
theorem jc_mem_o {t : Nat} {x : jbR} {j : Nat} (h : j ≠ 2) : (jc_mem t x).1 j = x.1 j := pk_un (k := 2) h
theorem jc_wr_o {w : Nat} {x : jbR} {j : Nat} (h1 : j ≠ 1) (h3 : j ≠ 3) : (jc_wr w x).1 j = x.1 j := by
  show jb_wdF x.1 x.2.2.2 (nI w) j = x.1 j
  simp only [jb_wdF]
  rw [pk_un h3, pk_un h1]
theorem jc_ev_n {kd lv nl nr rd : Nat} (x : jbR) (hk : kd < 4) : (jc_ev kd lv nl nr rd x).1 10 = x.1 10 := by
  show jb_evF x.1 kd (nI lv) (nI rd) 10 = _
  simp only [jb_evF]
  rw [pk_un (by decide), pk_un (by decide), pk_un (by omega), pk_un (by decide)]
theorem jc_ev_5 {kd lv nl nr rd ev : Nat} {x : jbR} (hk : kd < 4) (h : x.1 5 = nI ev) : (jc_ev kd lv nl nr rd x).1 5 = nI (ev + 1) := by
  show jb_evF x.1 kd (nI lv) (nI rd) 5 = _
  simp only [jb_evF]
  rw [pk_un (by decide), pk_un (by decide), pk_un (by omega), pk_us, h, nI_1]
theorem jb_mt_len (isL : Bool) (kh ko : Nat → Int32) (hs : List Nat) (b : Nat) : (jb_mt isL kh ko hs b).length ≤ hs.length := by
  unfold jb_mt
  rw [List.length_map]
  exact List.length_filter_le _ _
theorem jb_meet_len (isL : Bool) (kh ko : Nat → Int32) (hs os : List Nat) : (jb_meet isL kh ko hs os).length ≤ hs.length * os.length := by
  unfold jb_meet
  induction os with
  | nil => simp
  | cons b l ih =>
    rw [List.flatMap_cons, List.length_append, List.length_cons, Nat.mul_succ]
    have := jb_mt_len isL kh ko hs b
    omega
theorem jb_blk_cat (step : Nat) (hs : List Nat) : ∀ k, hs.take (k * step) ++ jb_blk step hs k = hs.take ((k + 1) * step) := by
  intro k
  unfold jb_blk
  rw [Nat.succ_mul, List.take_add]
theorem jb_bps_len (isL : Bool) (kh ko : Nat → Int32) (step : Nat) (hs os : List Nat) : ∀ k, (jb_bps isL kh ko step hs os k).length ≤ (hs.take (k * step)).length * os.length := by
  intro k
  induction k with
  | zero => simp [jb_bps]
  | succ k ih =>
    rw [jb_bps, List.length_append, ← jb_blk_cat, List.length_append, Nat.add_mul]
    have := jb_meet_len isL kh ko (jb_blk step hs k) os
    omega
theorem jb_bps_le (isL : Bool) (kh ko : Nat → Int32) (step : Nat) (hs os : List Nat) (k : Nat) : (jb_bps isL kh ko step hs os k).length ≤ hs.length * os.length := by
  refine Nat.le_trans (jb_bps_len isL kh ko step hs os k) (Nat.mul_le_mul_right _ ?_)
  exact List.length_take_le' _ _
theorem jb_ps_le (per mem : Nat) (kL kR : Nat → Int32) (la lb : List Nat) : (jb_ps per mem kL kR la lb).length ≤ la.length * lb.length := by
  unfold jb_ps
  split
  · exact jb_bps_le _ _ _ _ _ _ _
  · rw [Nat.mul_comm la.length]; exact jb_bps_le _ _ _ _ _ _ _
/-- np pairs and ev events are counted -/
def jb_cn (x : jbR) (np ev : Nat) : Prop := x.1 10 = nI np ∧ x.1 5 = nI ev
theorem jc_leaf_cn {per mem kd lv : Nat} {kL kR : Nat → Int32} {la lb : List Nat} {x : jbR} {np ev : Nat} (hk : kd < 4) (h : jb_cn x np ev) : ∃ np', jb_cn (jb_leaf jcN jcL per mem kL kR kd lv la lb x) np' (ev + 1) ∧ np' ≤ np + la.length * lb.length := by
  unfold jb_leaf
  split
  · exact ⟨np, ⟨(jc_ev_n x (by decide)).trans h.1, jc_ev_5 (by decide) h.2⟩, by omega⟩
  · refine ⟨np + (jb_ps per mem kL kR la lb).length, ⟨?_, ?_⟩, ?_⟩
    · refine (jc_ev_n _ hk).trans (jc_pairs_n _ ?_)
      exact (jc_mem_o (by decide)).trans h.1
    · refine jc_ev_5 hk ?_
      rw [jc_pairs_5]
      exact (jc_mem_o (by decide)).trans h.2
    · have := jb_ps_le per mem kL kR la lb
      omega
theorem jcS_cn {lv nl nr rd tk w : Nat} {x : jbR} {np ev : Nat} (h : jb_cn x np ev) : jb_cn (jcS lv nl nr rd tk w x) np (ev + 1) := by
  have e10 : (jcS lv nl nr rd tk w x).1 10 = x.1 10 := by
    exact (jc_wr_o (by decide) (by decide)).trans ((jc_mem_o (by decide)).trans (jc_ev_n x (by decide)))
  have e5 : (jcS lv nl nr rd tk w x).1 5 = (jc_ev 3 lv nl nr rd x).1 5 := by
    exact (jc_wr_o (by decide) (by decide)).trans (jc_mem_o (by decide))
  exact ⟨e10.trans h.1, e5.trans (jc_ev_5 (by decide) h.2)⟩
theorem jb_mulb {a b c e : Nat} (h1 : a + b ≤ c) : a * e + b * e ≤ c * e := by rw [← Nat.add_mul]; exact Nat.mul_le_mul_right e h1
theorem jc_J_cn {per mem : Nat} {kL kR : Nat → Int32} (hm2 : mem ≤ 20) : ∀ (d lv : Nat) (la lb : List Nat) (x : jbR) (np ev : Nat), jb_cn x np ev → ∃ np' ev', jb_cn (jc_J per mem kL kR d lv la lb x) np' ev' ∧ np' ≤ np + la.length * lb.length ∧ ev' ≤ ev + (1 + 19 * (la.length * d)) := by
  intro d
  induction d with
  | zero =>
    intro lv la lb x np ev h
    rw [jc_J_leaf jb_kind_0]
    obtain ⟨np', h1, h2⟩ := jc_leaf_cn (per := per) (mem := mem) (lv := lv) (kL := kL) (kR := kR) (la := la) (lb := lb) jb_kind_lt h
    exact ⟨np', ev + 1, h1, h2, by omega⟩
  | succ d ih =>
    intro lv la lb x np ev h
    by_cases hk : jb_kind per mem kL kR (d + 1) la lb = 3
    · rw [jc_J_part hk]
      have h0 := jcS_cn (lv := lv) (nl := la.length) (nr := lb.length) (rd := jb_pg per la.length + jb_pg per lb.length) (tk := mem) (w := jb_ww per (jb_pf mem kL lv) (jb_pf mem kR lv) la lb (mem - 1)) h
      generalize jcS lv la.length lb.length (jb_pg per la.length + jb_pg per lb.length) mem (jb_ww per (jb_pf mem kL lv) (jb_pf mem kR lv) la lb (mem - 1)) x = x0 at h0
      have key : ∀ p, ∃ np' ev', jb_cn (jc_Jp per mem kL kR d lv la lb x0 p) np' ev' ∧ np' ≤ np + (jb_cat (jb_pf mem kL lv) la p).length * lb.length ∧ ev' ≤ ev + 1 + p + 19 * ((jb_cat (jb_pf mem kL lv) la p).length * d) := by
        intro p
        induction p with
        | zero => exact ⟨np, ev + 1, h0, by omega, by omega⟩
        | succ p ih2 =>
          obtain ⟨n1, e1, c1, b1, b2⟩ := ih2
          rw [jc_Jp_s]
          obtain ⟨n2, e2, c2, b3, b4⟩ := ih (lv + 1) (jb_fp (jb_pf mem kL lv) la p) (jb_fp (jb_pf mem kR lv) lb p) _ n1 e1 c1
          refine ⟨n2, e2, c2, ?_, ?_⟩
          · rw [jb_cat, List.length_append, Nat.add_mul]
            have h5 : (jb_fp (jb_pf mem kL lv) la p).length * (jb_fp (jb_pf mem kR lv) lb p).length ≤ (jb_fp (jb_pf mem kL lv) la p).length * lb.length := Nat.mul_le_mul_left _ (List.length_filter_le _ _)
            omega
          · rw [jb_cat, List.length_append, Nat.add_mul]
            omega
      obtain ⟨n1, e1, c1, b1, b2⟩ := key (mem - 1)
      have hl := jb_cat_le (jb_pf mem kL lv) la (mem - 1)
      have hpos : 1 ≤ la.length := by
        rcases Nat.eq_zero_or_pos la.length with hz | hz
        · exfalso
          unfold jb_kind at hk
          rw [if_pos (by omega)] at hk
          omega
        · exact hz
      refine ⟨n1, e1, c1, ?_, ?_⟩
      · have := Nat.mul_le_mul_right lb.length hl
        omega
      · have h7 := Nat.mul_le_mul_right d hl
        rw [Nat.mul_succ]
        omega
    · rw [jc_J_leaf hk]
      obtain ⟨np', h1, h2⟩ := jc_leaf_cn (per := per) (mem := mem) (lv := lv) (kL := kL) (kR := kR) (la := la) (lb := lb) jb_kind_lt h
      exact ⟨np', ev + 1, h1, h2, by omega⟩
