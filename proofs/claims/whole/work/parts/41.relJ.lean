/-! THE JOIN keeps the relation -/
theorem jb_all_cg {k k' : Nat → Int32} {c : Int32} : ∀ (l : List Nat), (∀ r ∈ l, k r = k' r) → l.all (fun r => k r == c) = l.all (fun r => k' r == c) := by
  intro l
  induction l with
  | nil => intro _; rfl
  | cons a l ih =>
    intro h
    rw [List.all_cons, List.all_cons, h a List.mem_cons_self, ih (fun r hr => h r (List.mem_cons_of_mem _ hr))]
theorem jb_one_cg {kL kR kL' kR' : Nat → Int32} {la lb : List Nat} (hp : 0 < la.length) (ha : ∀ r ∈ la, kL r = kL' r) (hb : ∀ r ∈ lb, kR r = kR' r) : jb_one kL kR la lb = jb_one kL' kR' la lb := by
  unfold jb_one
  rw [ha _ (jb_getD_mem hp), jb_all_cg la ha, jb_all_cg lb hb]
theorem jb_kind_cg {per mem d : Nat} {kL kR kL' kR' : Nat → Int32} {la lb : List Nat} (ha : ∀ r ∈ la, kL r = kL' r) (hb : ∀ r ∈ lb, kR r = kR' r) : jb_kind per mem kL kR d la lb = jb_kind per mem kL' kR' d la lb := by
  unfold jb_kind
  by_cases h : min la.length lb.length = 0
  · rw [if_pos h, if_pos h]
  · rw [if_neg h, if_neg h, jb_one_cg (by omega) ha hb]
theorem jb_fp_cg {f g : Nat → Nat} {l : List Nat} (h : ∀ r ∈ l, f r = g r) (p : Nat) : jb_fp f l p = jb_fp g l p := by
  unfold jb_fp
  exact List.filter_congr (fun r hr => by rw [h r hr])
theorem jb_pf_cg {mem lv : Nat} {k k' : Nat → Int32} {l : List Nat} (h : ∀ r ∈ l, k r = k' r) : ∀ r ∈ l, jb_pf mem k lv r = jb_pf mem k' lv r := fun r hr => by
  unfold jb_pf
  rw [h r hr]
theorem jb_mt_cg {isL : Bool} {kh ko kh' ko' : Nat → Int32} {hs : List Nat} {b : Nat} (h : ∀ a ∈ hs, kh a = kh' a) (hb : ko b = ko' b) : jb_mt isL kh ko hs b = jb_mt isL kh' ko' hs b := by
  unfold jb_mt
  rw [hb, List.filter_congr (fun a ha => by rw [h a ha])]
theorem jb_meet_cg {isL : Bool} {kh ko kh' ko' : Nat → Int32} {hs : List Nat} (h : ∀ a ∈ hs, kh a = kh' a) : ∀ (os : List Nat), (∀ b ∈ os, ko b = ko' b) → jb_meet isL kh ko hs os = jb_meet isL kh' ko' hs os := by
  intro os
  induction os with
  | nil => intro _; rfl
  | cons b l ih =>
    intro hb
    unfold jb_meet at ih ⊢
    rw [List.flatMap_cons, List.flatMap_cons, jb_mt_cg h (hb b List.mem_cons_self), ih (fun r hr => hb r (List.mem_cons_of_mem _ hr))]
theorem jb_bps_cg {isL : Bool} {kh ko kh' ko' : Nat → Int32} {step : Nat} {hs os : List Nat} (h : ∀ a ∈ hs, kh a = kh' a) (hb : ∀ b ∈ os, ko b = ko' b) : ∀ k, jb_bps isL kh ko step hs os k = jb_bps isL kh' ko' step hs os k := by
  intro k
  induction k with
  | zero => rfl
  | succ k ih => rw [jb_bps, jb_bps, ih, jb_meet_cg (fun a ha => h a (jb_blk_mem ha)) os hb]
theorem jb_ps_cg {per mem : Nat} {kL kR kL' kR' : Nat → Int32} {la lb : List Nat} (ha : ∀ r ∈ la, kL r = kL' r) (hb : ∀ r ∈ lb, kR r = kR' r) : jb_ps per mem kL kR la lb = jb_ps per mem kL' kR' la lb := by
  unfold jb_ps
  rw [jb_bps_cg ha hb, jb_bps_cg hb ha]
theorem jb_mt_mem {isL : Bool} {kh ko : Nat → Int32} {hs : List Nat} {b : Nat} {q : Nat × Nat} (h : q ∈ jb_mt isL kh ko hs b) : (isL = true → q.1 ∈ hs ∧ q.2 = b) ∧ (isL = false → q.1 = b ∧ q.2 ∈ hs) := by
  unfold jb_mt at h
  rw [List.mem_map] at h
  obtain ⟨a, ha, rfl⟩ := h
  have hm := (List.mem_filter.mp ha).1
  cases isL with
  | true => exact ⟨fun _ => ⟨hm, rfl⟩, fun h => absurd h (by decide)⟩
  | false => exact ⟨fun h => absurd h (by decide), fun _ => ⟨rfl, hm⟩⟩
theorem jb_bps_mem {isL : Bool} {kh ko : Nat → Int32} {step : Nat} {hs os : List Nat} {q : Nat × Nat} : ∀ k, q ∈ jb_bps isL kh ko step hs os k → (isL = true → q.1 ∈ hs ∧ q.2 ∈ os) ∧ (isL = false → q.1 ∈ os ∧ q.2 ∈ hs) := by
  intro k
  induction k with
  | zero => intro h; simp [jb_bps] at h
  | succ k ih =>
    intro h
    rw [jb_bps, List.mem_append] at h
    rcases h with h | h
    · exact ih h
    · unfold jb_meet at h
      rw [List.mem_flatMap] at h
      obtain ⟨b, hb, hq⟩ := h
      have := jb_mt_mem hq
      exact ⟨fun e => ⟨jb_blk_mem (this.1 e).1, by rw [(this.1 e).2]; exact hb⟩, fun e => ⟨by rw [(this.2 e).1]; exact hb, jb_blk_mem (this.2 e).2⟩⟩
theorem jb_ps_mem {per mem : Nat} {kL kR : Nat → Int32} {la lb : List Nat} {q : Nat × Nat} (h : q ∈ jb_ps per mem kL kR la lb) : q.1 ∈ la ∧ q.2 ∈ lb := by
  unfold jb_ps at h
  split at h
  · exact (jb_bps_mem _ h).1 rfl
  · exact (jb_bps_mem _ h).2 rfl
theorem jr_leaf {n nn : Nat} {K V VV Kf Vf kL kR : Nat → Int32} {per mem kd lv : Nat} {la lb : List Nat} {x : jbR} {y : jmR} (hn : n ≤ 500) (hnn : nn ≤ 500) (hk : kd < 4) (hlv : lv < 1000) (ha : ∀ r ∈ la, kL r = jm_k Kf 0 r) (hb : ∀ r ∈ lb, kR r = jm_k Kf 1 r) (ha2 : ∀ r ∈ la, r < n ∧ K r = Kf r ∧ V r = Vf r) (hb2 : ∀ r ∈ lb, r < nn ∧ VV r = Vf (500 + r)) (h : jr_R n nn K V VV x y) : jr_R n nn K V VV (jb_leaf jcN jcL per mem kL kR kd lv la lb x) (jb_leaf jmN (jmL Kf Vf) per mem (jm_k Kf 0) (jm_k Kf 1) kd lv la lb y) := by
  unfold jb_leaf
  split
  · exact jr_opN hlv h
  · rw [jb_ps_cg ha hb]
    refine jr_opL hn hnn hk hlv h (fun q hq => ?_)
    have hm := jb_ps_mem hq
    exact ⟨(ha2 _ hm.1).1, (hb2 _ hm.2).1, (ha2 _ hm.1).2.1, (ha2 _ hm.1).2.2, (hb2 _ hm.2).2⟩
theorem jb_ww_cg {per : Nat} {fa fb fa' fb' : Nat → Nat} {la lb : List Nat} (ha : ∀ p, jb_fp fa la p = jb_fp fa' la p) (hb : ∀ p, jb_fp fb lb p = jb_fp fb' lb p) (P : Nat) : jb_ww per fa fb la lb P = jb_ww per fa' fb' la lb P := by
  unfold jb_ww
  rw [funext (fun t => congrArg List.length (ha t)), funext (fun t => congrArg List.length (hb t))]
/-- THE JOIN, on both: the relation stays -/
theorem jr_J {n nn : Nat} {K V VV Kf Vf kL kR : Nat → Int32} {per mem : Nat} (hn : n ≤ 500) (hnn : nn ≤ 500) : ∀ (d lv : Nat) (la lb : List Nat) (x : jbR) (y : jmR), lv + d < 1000 → (∀ r ∈ la, kL r = jm_k Kf 0 r) → (∀ r ∈ lb, kR r = jm_k Kf 1 r) → (∀ r ∈ la, r < n ∧ K r = Kf r ∧ V r = Vf r) → (∀ r ∈ lb, r < nn ∧ VV r = Vf (500 + r)) → jr_R n nn K V VV x y → jr_R n nn K V VV (jc_J per mem kL kR d lv la lb x) (jm_J Kf Vf per mem d lv la lb y) := by
  intro d
  induction d with
  | zero =>
    intro lv la lb x y hlv ha hb ha2 hb2 h
    have h3 : ¬ jb_kind per mem (jm_k Kf 0) (jm_k Kf 1) 0 la lb = 3 := jb_kind_0
    rw [jc_J_leaf jb_kind_0, jm_J_leaf h3]
    unfold jm_step
    rw [if_neg h3, jb_kind_cg ha hb]
    exact jr_leaf hn hnn jb_kind_lt (by omega) ha hb ha2 hb2 h
  | succ d ih =>
    intro lv la lb x y hlv ha hb ha2 hb2 h
    have hkc : jb_kind per mem kL kR (d + 1) la lb = jb_kind per mem (jm_k Kf 0) (jm_k Kf 1) (d + 1) la lb := jb_kind_cg ha hb
    by_cases hk : jb_kind per mem (jm_k Kf 0) (jm_k Kf 1) (d + 1) la lb = 3
    · rw [jc_J_part (hkc.trans hk), jm_J_part hk]
      have fA : ∀ p, jb_fp (jb_pf mem kL lv) la p = jb_fp (jb_pf mem (jm_k Kf 0) lv) la p := jb_fp_cg (jb_pf_cg ha)
      have fB : ∀ p, jb_fp (jb_pf mem kR lv) lb p = jb_fp (jb_pf mem (jm_k Kf 1) lv) lb p := jb_fp_cg (jb_pf_cg hb)
      have h0 : jr_R n nn K V VV (jcS lv la.length lb.length (jb_pg per la.length + jb_pg per lb.length) mem (jb_ww per (jb_pf mem kL lv) (jb_pf mem kR lv) la lb (mem - 1)) x) (jm_step Kf Vf per mem (d + 1) lv la lb y) := by
        unfold jm_step
        rw [if_pos hk, jb_ww_cg fA fB]
        exact jr_opS (by omega) h
      generalize jcS lv la.length lb.length (jb_pg per la.length + jb_pg per lb.length) mem (jb_ww per (jb_pf mem kL lv) (jb_pf mem kR lv) la lb (mem - 1)) x = x0 at h0
      generalize jm_step Kf Vf per mem (d + 1) lv la lb y = y0 at h0
      have key : ∀ p, jr_R n nn K V VV (jc_Jp per mem kL kR d lv la lb x0 p) (jm_Jp Kf Vf per mem d lv la lb y0 p) := by
        intro p
        induction p with
        | zero => exact h0
        | succ p ihp =>
          rw [jc_Jp_s, jm_Jp_s]
          have e : jb_pp per (jb_pf mem kL lv) (jb_pf mem kR lv) la lb p = jb_pp per (jb_pf mem (jm_k Kf 0) lv) (jb_pf mem (jm_k Kf 1) lv) la lb p := by
            unfold jb_pp
            rw [fA, fB]
          rw [e, fA, fB]
          refine jr_opF (ih (lv + 1) _ _ _ _ (by omega) ?_ ?_ ?_ ?_ ihp)
          · exact fun r hr => ha r (List.mem_filter.mp hr).1
          · exact fun r hr => hb r (List.mem_filter.mp hr).1
          · exact fun r hr => ha2 r (List.mem_filter.mp hr).1
          · exact fun r hr => hb2 r (List.mem_filter.mp hr).1
      exact key (mem - 1)
    · rw [jc_J_leaf (fun q => hk (hkc.symm.trans q)), jm_J_leaf hk]
      unfold jm_step
      rw [if_neg hk, hkc]
      exact jr_leaf hn hnn jb_kind_lt (by omega) ha hb ha2 hb2 h
