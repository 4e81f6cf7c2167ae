/-! The statement refuted, as it is written: a start that meets every premise, in which the static array AT_FIRST is of one more kind 'array of int' beside the one named "[I", with a 'clone' of its own. No JVM has such a start: what is wanting is a premise (REPORT.md, STATEMENT 1). -/
section
set_option maxRecDepth 16384
/-- one more row of the table, of the kind 'array of int', below Object, with a method 'clone' of its own (aload_0, athrow) -/
def rf_Y : Class := { start1.cArr "Odd" 13 .int with interfaces := #[12], methods := #[Lib.HandJ.method "clone" "()Ljava/lang/Object;" [] (some (.object "java/lang/Object")) 0x1 1 (.mk #[0x2a, 0xbf])] }
/-- the witness's own start, with that row in the table, and AT_FIRST's cell (address 2) an object of it: its three numbers are the same -/
def rf_s : State := { start1.about with
  vm := { start1.about.vm with classes := start1.about.vm.classes.push rf_Y }
  heap := start1.about.heap.set! 2 { cls := 15, slots := #[.int 4, .int 5, .int 4], vm := .none } }
theorem rf_split {α : Type} (p : α → Bool) (n : Nat) (l : List α) (h1 : (l.take n).all p = true) (h2 : (l.drop n).all p = true) : l.all p = true := by
  have h : (l.take n ++ l.drop n).all p = true := by rw [List.all_append, h1, h2]; rfl
  rwa [List.take_append_drop] at h
theorem rf_w0 : (Cond.code x code maxLocals ret).before start1.args0 rf_s = true := by decide +kernel
theorem rf_w1 : (tables_1.take 120).all (fun c => c.before start1.args0 rf_s) = true := by decide +kernel
theorem rf_w2 : ((tables_1.drop 120).take 120).all (fun c => c.before start1.args0 rf_s) = true := by decide +kernel
theorem rf_w3 : (((tables_1.drop 120).drop 120).take 120).all (fun c => c.before start1.args0 rf_s) = true := by decide +kernel
theorem rf_w4 : ((((tables_1.drop 120).drop 120).drop 120).take 120).all (fun c => c.before start1.args0 rf_s) = true := by decide +kernel
theorem rf_w5 : ((((tables_1.drop 120).drop 120).drop 120).drop 120).all (fun c => c.before start1.args0 rf_s) = true := by decide +kernel
theorem rf_words : ∀ c ∈ (Cond.code x code maxLocals ret :: tables_1), c.before start1.args0 rf_s = true := by
  intro c hc
  rcases List.mem_cons.mp hc with h | h
  · rw [h]; exact rf_w0
  · exact List.all_eq_true.mp (rf_split _ 120 tables_1 rf_w1 (rf_split _ 120 _ rf_w2 (rf_split _ 120 _ rf_w3 (rf_split _ 120 _ rf_w4 rf_w5)))) c h
/-- every premise of the statement holds there -/
theorem rf_start : AtStart classFile x code maxLocals ret World_1 tables_1 room_1 Calls_1 rest_1 Pre_1 launch0 start1.p0 start1.e0 rf_s ⟨0, 0⟩ start1.args0 Lib.HandBits.below0 :=
  ⟨lists_1, trivial, launch0.admits_env _ _ _, launch0.least_env, fairChoices_fair.cas, fairChoices_fair.clock, rfl, by decide +kernel, by decide +kernel,
    (Spec.applies_iff rfl).mpr ⟨rfl, rfl, rfl, by decide +kernel, by decide +kernel, by decide +kernel, launch0.hasRoom_least _ room_1 (by decide +kernel) (by decide +kernel) (by decide +kernel) (by decide +kernel) (by decide +kernel) (by decide +kernel), atoms_intro rf_words⟩,
    trivial, (show rest_1_c.before start1.args0 rf_s = true by decide +kernel), (show (Cond.and given_1 narrow_1).before start1.args0 rf_s = true by decide +kernel)⟩
/-- the frame of the witness's own caller -/
def rf_nat (g : NFrame) : Bool := decide (g.method = ⟨0, 0⟩ ∧ g.args = #[] ∧ g.stage = 0 ∧ g.saved = #[] ∧ g.awaiting = false ∧ g.answer = none ∧ g.locked = none ∧ g.words = 0)
theorem rf_nat_eq {g : NFrame} (h : rf_nat g = true) : g = { method := ⟨0, 0⟩, args := #[] } := by
  obtain ⟨h1, h2, h3, h4, h5, h6, h7, h8⟩ := of_decide_eq_true h
  cases g
  subst h1; subst h2; subst h3; subst h4; subst h5; subst h6; subst h7; subst h8
  rfl
def rf_tail : List Frame → Bool
  | [.native g] => rf_nat g
  | _ => false
theorem rf_tail_eq {fs : List Frame} (h : rf_tail fs = true) : fs = Lib.HandBits.below0 := by
  unfold rf_tail at h
  split at h
  · rw [rf_nat_eq h]; rfl
  · cases h
def rf_one : List Frame → Bool
  | [.throwing _, _] => true
  | _ => false
/-- some frames over that caller's, and not an exception that has come down to it -/
def rf_in (fs : List Frame) : Bool := decide (2 ≤ fs.length) && rf_tail (fs.drop (fs.length - 1)) && !rf_one fs
theorem rf_in_within {s : State} (h : rf_in s.frames = true) : Within s Lib.HandBits.below0 := by
  simp only [rf_in, Bool.and_eq_true, decide_eq_true_eq, Bool.not_eq_true'] at h
  obtain ⟨⟨h1, h2⟩, h3⟩ := h
  have hd := rf_tail_eq h2
  have ht : s.frames = s.frames.take (s.frames.length - 1) ++ Lib.HandBits.below0 := by
    conv => lhs; rw [← List.take_append_drop (s.frames.length - 1) s.frames, hd]
  refine ⟨_, ht, ?_, ?_⟩
  · intro h0
    have h4 := congrArg List.length h0
    simp only [List.length_take, List.length_nil] at h4
    omega
  · intro a h0
    rw [h0] at ht
    rw [ht] at h3
    have h5 : true = false := h3
    cases h5
/-- the exception (the array AT_FIRST itself, address 2) has come down to it -/
def rf_end : List Frame → Bool
  | [.throwing a, .native g] => decide (a = 2) && rf_nat g
  | _ => false
theorem rf_end_eq {fs : List Frame} (h : rf_end fs = true) : fs = .throwing 2 :: Lib.HandBits.below0 := by
  unfold rf_end at h
  split at h
  · simp only [Bool.and_eq_true, decide_eq_true_eq] at h
    rw [h.1, rf_nat_eq h.2]; rfl
  · cases h
theorem rf_run : ((List.range 23).all fun k => rf_in (stepsAlone start1.p0.tables start1.e0 k rf_s).frames) = true := by decide +kernel
theorem rf_run_in : ∀ k, k < 23 → Within (stepsAlone start1.p0.tables start1.e0 k rf_s) Lib.HandBits.below0 := fun k hk =>
  rf_in_within (List.all_eq_true.mp rf_run k (List.mem_range.mpr hk))
theorem rf_run_end : (stepsAlone start1.p0.tables start1.e0 23 rf_s).frames = .throwing 2 :: Lib.HandBits.below0 := rf_end_eq (by decide +kernel)
theorem rf_run_on : (stepsAlone start1.p0.tables start1.e0 23 rf_s).status = Status.running := by decide +kernel
theorem rf_not_post (t : State) : ¬ Post_1_1 start1.p0.tables start1.e0 start1.args0 rf_s (.threw 2) t := by
  intro h
  have h1 : limb_1_1.after start1.args0 rf_s (.threw 2) t = true := h.1
  simp [limb_1_1, Cond.after, Cond.holds, Cond.value] at h1
/-- the statement's own word for 'refuted': from this start the law ends, by an exception -/
theorem rf_refuted : RefutedClaimed_1_1 :=
  ⟨launch0, start1.p0, start1.e0, rf_s, ⟨0, 0⟩, start1.args0, Lib.HandBits.below0, rfl, rf_start, 23, .threw 2, rf_run_in, rf_run_on, rf_run_end, rf_not_post _⟩
theorem rf_within_not {s : State} (h : Within s Lib.HandBits.below0) (o : Outcome) : ¬ Ended s Lib.HandBits.below0 o := by
  obtain ⟨above, h1, h2, h3⟩ := h
  intro hE
  cases o with
  | threw a =>
    have hE' : s.frames = .throwing a :: Lib.HandBits.below0 := hE
    rw [h1] at hE'
    exact h3 a (List.append_cancel_right (as := above) (bs := Lib.HandBits.below0) (cs := [.throwing a]) hE')
  | returned v =>
    have hE' : s.frames.length = 1 := by
      have hE2 : s.frames = _ := hE
      rw [hE2]; rfl
    rw [h1, List.length_append] at hE'
    have h4 : Lib.HandBits.below0.length = 1 := rfl
    cases above with
    | nil => exact h2 rfl
    | cons x r => simp only [List.length_cons] at hE'; omega
/-- and so what is owed is false -/
theorem rf_false : ¬ (Claimed_1_1 ∧ Claimed_1_2) := by
  intro h
  obtain ⟨hL, hW, hA, -, hF, hC, hf, ha, hh, hs, hcalls, hrest, hpre⟩ := rf_start
  obtain ⟨n, o, hin, -, hend, hpost⟩ := h.1 launch0 rfl hL hW start1.p0 start1.e0 hA hF hC rf_s ⟨0, 0⟩ start1.args0 Lib.HandBits.below0 hf ha hh hs ⟨hcalls, hrest, hpre⟩
  rcases Nat.lt_trichotomy n 23 with hn | hn | hn
  · exact rf_within_not (rf_run_in n hn) o hend
  · subst hn
    cases o with
    | threw a =>
      have h1 : (stepsAlone start1.p0.tables start1.e0 23 rf_s).frames = .throwing a :: Lib.HandBits.below0 := hend
      rw [rf_run_end] at h1
      injection h1 with h1 _
      injection h1 with h1
      subst h1
      exact rf_not_post _ hpost
    | returned v =>
      have h1 : (stepsAlone start1.p0.tables start1.e0 23 rf_s).frames.length = 1 := by
        have h2 : (stepsAlone start1.p0.tables start1.e0 23 rf_s).frames = _ := hend
        rw [h2]; rfl
      rw [rf_run_end] at h1
      exact absurd h1 (by decide)
  · exact rf_within_not (hin 23 hn) (.threw 2) rf_run_end
end
