abbrev vwCl : List vw_C := [(RX0, TX0, 4), (RX1, TX1, 4), (RX2, TX2, 8), (RX3, TX3, 1), (RX4, TX4, 3), (RX5, TX5, 5), (RX6, TX6, 24)]
/-! helpers: starts and ends of contracts over a world, calls with the frame -/
/-- links to fields of nest mates: what the tables say of them, carried as a fact of the state -/
def jb_NL : List (String × Nat × String × String × String) := [(RX5, 57, "JoinBench$Table", "count", "I"), (RX5, 85, "JoinBench$Joiner", "left", "LJoinBench$Side;"), (RX5, 97, "JoinBench$Joiner", "right", "LJoinBench$Side;"), (RX0, 109, "JoinBench$Side", "isLeft", "Z"), (RX0, 40, "JoinBench$Side", "count", "I"), (RX2, 39, "JoinBench$Table", "count", "I"), (RX2, 42, "JoinBench$Table", "keys", "[I"), (RX2, 49, "JoinBench$Table", "values", "[I")]
def jb_N (U : State) : Prop := ∀ q ∈ jb_NL, va_Nw (.fieldLinkNest q.1 q.2.1 q.2.2.1 q.2.2.2.1 q.2.2.2.2 "JoinBench") U
theorem jb_N.calling {U : State} {g : JFrame} {mk : MethodId} {a : Array Value} (h : jb_N U) : jb_N (U.calling g mk a) := fun q hq => va_Nw.same rfl rfl (h q hq)
theorem jb_N.warm {s U : State} (hW : s.WarmedH U.vm) (h : jb_N s) : jb_N U := fun q hq => va_Nw.warmF hW (h q hq)
theorem jb_N.use {s : State} {args : Array Value} (h : jb_N s) {q : String × Nat × String × String × String} (hq : q ∈ jb_NL) : (Cond.fieldLinkNest q.1 q.2.1 q.2.2.1 q.2.2.2.1 q.2.2.2.2 "JoinBench").before args s = true := va_Nw.use rfl (h q hq)
/-- a start that is only read -/
def jb_R (dC : Nat → ClassId) (dI : Nat → Nat → Nat) (cI : ClassId) (ws : va_W) : State → Prop := fun U => va_P (dC, dI) vwCl ws U.heap ∧ va_K (dC, dI) vwCl [(cI, .int)] U ∧ jb_N U
theorem jb_R_blind {dC : Nat → ClassId} {dI : Nat → Nat → Nat} {cI : ClassId} {ws : va_W} {av : List Value} : FrameBlind (va_Pc av (jb_R dC dI cI ws)) := fun a U g mk q => ⟨q.1, q.2.1, va_K.moved (u := U) (U := U.calling g mk a) (Vm.Alike.refl U.vm) q.2.2.1, q.2.2.2.calling⟩
theorem jb_R_pre {dC : Nat → ClassId} {dI : Nat → Nat → Nat} {cI : ClassId} {ws : va_W} {av : List Value} {s : State} {H : Heap} (hP : va_P (dC, dI) vwCl ws H) (hK : va_K (dC, dI) vwCl [(cI, .int)] s) (hNw : jb_N s) : ∀ U : State, U.heap = H → s.WarmedH U.vm → va_Pc av (jb_R dC dI cI ws) av.toArray U := fun U hU hW => ⟨rfl, by rw [hU]; exact hP, va_K.moved hW.alike hK, hNw.warm hW⟩
/-- a start of which nothing is asked -/
def jb_Z : State → Prop := fun _ => True
theorem jb_Z_blind {av : List Value} : FrameBlind (va_Pc av jb_Z) := fun _ _ _ _ q => ⟨q.1, trivial⟩
theorem jb_Z_pre {av : List Value} {s : State} {H : Heap} : ∀ U : State, U.heap = H → s.WarmedH U.vm → va_Pc av jb_Z av.toArray U := fun _ _ _ => ⟨rfl, trivial⟩
/-- a start whose cells are written -/
def jb_M (dC : Nat → ClassId) (dI : Nat → Nat → Nat) (cI : ClassId) (sz : Nat) (ws : va_W) : State → Prop := fun U => U.heap.size = sz ∧ va_P (dC, dI) vwCl ws U.heap ∧ va_K (dC, dI) vwCl [(cI, .int)] U ∧ jb_N U ∧ va_D (fun _ => True) ws
theorem jb_M_blind {dC : Nat → ClassId} {dI : Nat → Nat → Nat} {cI : ClassId} {sz : Nat} {ws : va_W} {av : List Value} : FrameBlind (va_Pc av (jb_M dC dI cI sz ws)) := fun a U g mk q => ⟨q.1, q.2.1, q.2.2.1, va_K.moved (u := U) (U := U.calling g mk a) (Vm.Alike.refl U.vm) q.2.2.2.1, q.2.2.2.2.1.calling, q.2.2.2.2.2⟩
theorem jb_M_pre {dC : Nat → ClassId} {dI : Nat → Nat → Nat} {cI : ClassId} {ws : va_W} {av : List Value} {A : Nat → Prop} {s : State} {H : Heap} (hP : va_P (dC, dI) vwCl ws H) (hD : va_D A ws) (hK : va_K (dC, dI) vwCl [(cI, .int)] s) (hNw : jb_N s) : ∀ U : State, U.heap = H → s.WarmedH U.vm → va_Pc av (jb_M dC dI cI H.size ws) av.toArray U := fun U hU hW => ⟨rfl, by rw [hU], by rw [hU]; exact hP, va_K.moved hW.alike hK, hNw.warm hW, hD.weaken (fun _ _ _ _ => trivial)⟩
/-- the world behind a method -/
def jb_B {S : Type} (dC : Nat → ClassId) (dI : Nat → Nat → Nat) (A : Nat → Prop) (w1 : S → va_W) : S → State → Prop := fun u t => va_P (dC, dI) vwCl (w1 u) t.heap ∧ va_D A (w1 u)
theorem jb_cI {D : va_G} {cI cJ : ClassId} {s : State} (hK2 : va_K D vwCl ([(cI, .int)] ++ [(cJ, .int)]) s) (hK : va_K D vwCl [(cI, .int)] s) : cJ = cI :=
  Option.some.inj ((va_nm_int (hK2.2 1 _ rfl).2).symm.trans (va_nm_int (hK.2 0 _ rfl).2))
section JBC
variable {p : Program} {l : Launch} {e : Env} {R : Room} {s : State} {m : MethodId} {args : Array Value} {below : List Frame} {meth : Method} {c : Code} {H : Heap} {locs : List Loc} {cells slots : Nat} {Q : State → Prop}
variable {pc : Nat} {ls : Array Slot} {rest st0 : List Value} {a : Array Value} {A : Nat → Prop} {H0 : Heap} {mc ms : Nat} {dC : Nat → ClassId} {dI : Nat → Nat → Nat}
/-- a call that writes its own cells and answers an int -/
theorem jb_ci {S : Type} {post : Int32 → S → Prop} {w1 : S → va_W} {ws wc wr : va_W} (hr : va_Run p l e R s m args below meth c H locs cells slots mc ms (F0 m pc ls st0) rest (va_Qi post (jb_B dC dI (va_A wc H.size) w1) (va_A wc H.size) a) (va_A wc H.size)) (hP : va_P (dC, dI) vwCl ws H) (hD : va_D A ws) (hS : va_S A H0 H locs) (hA : ∀ q, H0.size ≤ q → A q) (isC isR : List Nat) (hC : isC.map (fun i => ws[i]?) = wc.map some) (hR : isR.map (fun i => ws[i]?) = wr.map some) (hn : va_nd isR = true) (hdis : ∀ i ∈ isR, i ∉ isC)
    (kk : ∀ (r : Int32) (u : S) (H1 : Heap) (locs1 : List Loc), post r u → va_P (dC, dI) vwCl (wr ++ w1 u) H1 → va_D A (wr ++ w1 u) → va_S A H0 H1 locs1 → W p l e R s m args below meth c H1 locs1 (cells + mc) (slots + ms) Q (F0 m (pc + 3) ls (.int r :: rest))) : W p l e R s m args below meth c H locs cells slots Q (F0 m pc ls st0) := by
  have hFc := va_free (wc := wc) hD hS hA isC hC
  refine va_calli hr hS (fun q _ h => hFc q h) hFc (fun r u t H1 locs1 ht hvm hw hB hz1 hk1 hS1 => ?_)
  obtain ⟨hP1, hD1⟩ := hB
  rw [ht] at hP1
  obtain ⟨hP2, hD2⟩ := va_join (wr := wr) (w1 := w1 u) hP hD isC isR hC hR hn hdis hk1 hFc hP1 hD1
  exact kk r u H1 locs1 hw hP2 hD2 hS1
/-- a call that writes its own cells and answers nothing -/
theorem jb_cv {S : Type} {post : S → Prop} {w1 : S → va_W} {ws wc wr : va_W} (hr : va_Run p l e R s m args below meth c H locs cells slots mc ms (F0 m pc ls st0) rest (va_Qv post (jb_B dC dI (va_A wc H.size) w1) (va_A wc H.size) a) (va_A wc H.size)) (hP : va_P (dC, dI) vwCl ws H) (hD : va_D A ws) (hS : va_S A H0 H locs) (hA : ∀ q, H0.size ≤ q → A q) (isC isR : List Nat) (hC : isC.map (fun i => ws[i]?) = wc.map some) (hR : isR.map (fun i => ws[i]?) = wr.map some) (hn : va_nd isR = true) (hdis : ∀ i ∈ isR, i ∉ isC)
    (kk : ∀ (u : S) (H1 : Heap) (locs1 : List Loc), post u → va_P (dC, dI) vwCl (wr ++ w1 u) H1 → va_D A (wr ++ w1 u) → va_S A H0 H1 locs1 → W p l e R s m args below meth c H1 locs1 (cells + mc) (slots + ms) Q (F0 m (pc + 3) ls rest)) : W p l e R s m args below meth c H locs cells slots Q (F0 m pc ls st0) := by
  have hFc := va_free (wc := wc) hD hS hA isC hC
  refine va_callv hr hS (fun q _ h => hFc q h) hFc (fun u t H1 locs1 ht hvm hw hB hz1 hk1 hS1 => ?_)
  obtain ⟨hP1, hD1⟩ := hB
  rw [ht] at hP1
  obtain ⟨hP2, hD2⟩ := va_join (wr := wr) (w1 := w1 u) hP hD isC isR hC hR hn hdis hk1 hFc hP1 hD1
  exact kk u H1 locs1 hw hP2 hD2 hS1
end JBC
/-- comparisons of small numbers -/
theorem jb_nlt {a b : Nat} (ha : a < 2 ^ 31) (hb : b < 2 ^ 31) : ¬ nI a < nI b ↔ b ≤ a := by rw [nI_ltI ha hb]; omega
theorem jb_nle {a b : Nat} (ha : a < 2 ^ 31) (hb : b < 2 ^ 31) : ¬ nI a ≤ nI b ↔ b < a := by rw [nI_leI ha hb]; omega
theorem jb_cl {n : Nat} (h : n < 2 ^ 31) : (nI n).toNatClampNeg = n := nI_clamp h
theorem jb_lit (n : Nat) : (OfNat.ofNat n : Int32) = nI n := rfl
theorem jb_arr0 (N : Nat) : ∀ cA : ClassId, vp_cell cA (N, .inl (fun _ => 0)) = arrV cA N (fun _ => defaultValue .int) := fun _ => rfl
