/-! each call on both sides: the same answer, and the invariant again -/
section
variable {M : Mem} {Q : Int → Int → Mem → Prop}
theorem p_say {a b c : Int} (h : INV M) (hQ : ∀ v M', INV M' → Q v v M') : CI m10_say 6 [(19, ((0 : Nat) : Int)), (0, a), (0, b), (0, c)] M (fun v M1 => CI m11_say 6 [(20, ((59 : Nat) : Int)), (0, a), (0, b), (0, c)] M1 (fun w M2 => Q v w M2)) := by
  obtain ⟨_, _, _, pp, n, nf, s, F, ag, C, Bg, E, hX⟩ := id h
  refine s_say hX.1 hX.2.2.1 fun M1 f1 => ?_
  have x1 := hX.q (csp_q f1)
  exact s_say_r x1.2.1 hX.2.2.1 fun M2 f2 => hQ _ M2 ((h.q (csp_q f1)).q (rs_q f2))
theorem p_place {x a b c : Int} (h : INV M) (hQ : ∀ v M', INV M' → Q v v M') : CL m10_place 6 [(19, ((0 : Nat) : Int)), (0, x), (0, a), (0, b), (0, c)] M (fun v M1 => CL m11_place 4 [(20, ((59 : Nat) : Int)), (0, x), (0, a), (0, b), (0, c)] M1 (fun w M2 => Q v w M2)) := by
  obtain ⟨_, _, _, pp, n, nf, s, F, ag, C, Bg, E, hX⟩ := id h
  refine s_place hX.1 hX.2.2.1 fun M1 f1 => ?_
  have x1 := hX.q (csp_q f1)
  exact s_place_r x1.2.1 hX.2.2.1 fun M2 f2 => hQ _ M2 ((h.q (csp_q f1)).q (rs_q f2))
theorem p_offence {a b c x : Int} (h : INV M) (hQ : ∀ v M', INV M' → Q v v M') : CI m10_offence 6 [(19, ((0 : Nat) : Int)), (0, a), (0, b), (0, c), (0, x)] M (fun v M1 => CI m11_offence 6 [(20, ((59 : Nat) : Int)), (0, a), (0, b), (0, c), (0, x)] M1 (fun w M2 => Q v w M2)) := by
  obtain ⟨_, _, _, pp, n, nf, s, F, ag, C, Bg, E, hX⟩ := id h
  refine s_offence hX.1 hX.2.2.1 fun M1 f1 => ?_
  have x1 := hX.q (csp_q f1)
  exact s_offence_r x1.2.1 hX.2.2.1 fun M2 f2 => hQ _ M2 ((h.q (csp_q f1)).q (rs_q f2))
theorem p_amends {a b c x : Int} (h : INV M) (hQ : ∀ v M', INV M' → Q v v M') : CI m10_amends 6 [(19, ((0 : Nat) : Int)), (0, a), (0, b), (0, c), (0, x)] M (fun v M1 => CI m11_amends 6 [(20, ((59 : Nat) : Int)), (0, a), (0, b), (0, c), (0, x)] M1 (fun w M2 => Q v w M2)) := by
  obtain ⟨_, _, _, pp, n, nf, s, F, ag, C, Bg, E, hX⟩ := id h
  refine s_amends hX.1 hX.2.2.1 fun M1 f1 => ?_
  have x1 := hX.q (csp_q f1)
  exact s_amends_r x1.2.1 hX.2.2.1 fun M2 f2 => hQ _ M2 ((h.q (csp_q f1)).q (rs_q f2))
theorem p_claims {a b c x : Int} (h : INV M) (hQ : ∀ v M', INV M' → Q v v M') : CI m10_claims 7 [(19, ((0 : Nat) : Int)), (0, a), (0, b), (0, c), (0, x)] M (fun v M1 => CI m11_claims 6 [(20, ((59 : Nat) : Int)), (0, a), (0, b), (0, c), (0, x)] M1 (fun w M2 => Q v w M2)) := by
  obtain ⟨_, _, _, pp, n, nf, s, F, ag, C, Bg, E, hX⟩ := id h
  refine s_claims hX.1 hX.2.2.1 fun M1 f1 => ?_
  have x1 := hX.q (csp_q f1)
  exact s_claims_r x1.2.1 hX.2.2.1 fun M2 f2 => hQ _ M2 ((h.q (csp_q f1)).q (rs_q f2))
theorem p_stands {a b x : Int} (h : INV M) (hQ : ∀ v M', INV M' → Q v v M') : CI m10_stands 4 [(19, ((0 : Nat) : Int)), (0, a), (0, b), (0, x)] M (fun v M1 => CI m11_stands 4 [(20, ((59 : Nat) : Int)), (0, a), (0, b), (0, x)] M1 (fun w M2 => Q v w M2)) := by
  obtain ⟨_, _, _, pp, n, nf, s, F, ag, C, Bg, E, hX⟩ := id h
  refine s_stands hX.1 hX.2.2.1 fun M1 f1 => ?_
  have x1 := hX.q (csp_q f1)
  exact s_stands_r x1.2.1 hX.2.2.1 fun M2 f2 => hQ _ M2 ((h.q (csp_q f1)).q (rs_q f2))
theorem p_silence {a b c x : Int} (h : INV M) (hQ : ∀ v M', INV M' → Q v v M') : CI m10_silence 7 [(19, ((0 : Nat) : Int)), (0, a), (0, b), (0, c), (0, x)] M (fun v M1 => CI m11_silence 7 [(20, ((59 : Nat) : Int)), (0, a), (0, b), (0, c), (0, x)] M1 (fun w M2 => Q v w M2)) := by
  obtain ⟨_, _, _, pp, n, nf, s, F, ag, C, Bg, E, hX⟩ := id h
  refine s_silence hX.1 hX.2.2.1 fun M1 f1 => ?_
  have x1 := hX.q (csp_q f1)
  exact s_silence_r x1.2.1 hX.2.2.1 fun M2 f2 => hQ _ M2 ((h.q (csp_q f1)).q (rs_q f2))
theorem p_letter {row x k : Int} (h : INV M) (hQ : ∀ v M', INV M' → Q v v M') : CI m10_letter 7 [(19, ((0 : Nat) : Int)), (0, row), (0, x), (0, k)] M (fun v M1 => CI m11_letter 6 [(20, ((59 : Nat) : Int)), (0, row), (0, x), (0, k)] M1 (fun w M2 => Q v w M2)) := by
  obtain ⟨_, _, _, pp, n, nf, s, F, ag, C, Bg, E, hX⟩ := id h
  refine s_letter hX.1 hX.2.2.1 fun M1 f1 => ?_
  have x1 := hX.q (csp_q f1)
  exact s_letter_r x1.2.1 hX.2.2.1 fun M2 f2 => hQ _ M2 ((h.q (csp_q f1)).q (rs_q f2))
theorem p_ring {a b k : Int} (h : INV M) (hQ : ∀ v M', INV M' → Q v v M') : CI m10_ring 4 [(19, ((0 : Nat) : Int)), (0, a), (0, b), (0, k)] M (fun v M1 => CI m11_ring 4 [(20, ((59 : Nat) : Int)), (0, a), (0, b), (0, k)] M1 (fun w M2 => Q v w M2)) := by
  obtain ⟨_, _, _, pp, n, nf, s, F, ag, C, Bg, E, hX⟩ := id h
  refine s_ring hX.1 hX.2.2.1 fun M1 f1 => ?_
  have x1 := hX.q (csp_q f1)
  exact s_ring_r x1.2.1 hX.2.2.1 fun M2 f2 => hQ _ M2 ((h.q (csp_q f1)).q (rs_q f2))
theorem p_rise {a b k : Int} (h : INV M) (hQ : ∀ v M', INV M' → Q v v M') : CI m10_rise 8 [(19, ((0 : Nat) : Int)), (0, a), (0, b), (0, k)] M (fun v M1 => CI m11_rise 5 [(20, ((59 : Nat) : Int)), (0, a), (0, b), (0, k)] M1 (fun w M2 => Q v w M2)) := by
  obtain ⟨_, _, _, pp, n, nf, s, F, ag, C, Bg, E, hX⟩ := id h
  obtain ⟨rt, g1, g2⟩ := hX.2.2.2.2.2.1
  refine s_rise hX.1 hX.2.2.1 g1 fun M1 f1 => ?_
  have x1 := hX.q (csp_q f1)
  have g2' : RTR M1 rt C Bg E := by
    have e : ∀ k, 59 ≤ k → M1 k = M k := fun k hk => f1.row (fun j q => by unfold csp cs at q; omega)
    unfold RTR
    rw [e 65 (by decide), e 66 (by decide), e 67 (by decide), e 68 (by decide)]
    exact g2
  exact s_rise_r x1.2.1 hX.2.2.1 g2' fun M2 f2 => hQ _ M2 ((h.q (csp_q f1)).q (rs_q f2))
theorem p_hall {a hs c x : Int} (h : INV M) (hQ : ∀ v M', INV M' → Q v v M') : CI m10_hall 7 [(19, ((0 : Nat) : Int)), (0, a), (0, hs), (0, c), (0, x)] M (fun v M1 => CI m11_hall 51 [(20, ((59 : Nat) : Int)), (0, a), (0, hs), (0, c), (0, x)] M1 (fun w M2 => Q v w M2)) := by
  obtain ⟨_, _, _, pp, n, nf, s, F, ag, C, Bg, E, hX⟩ := id h
  refine s_hall hX.1 hX.2.2.1 fun v M1 f1 hv => ?_
  have x1 := hX.q (csp_q f1)
  refine s_hall_r x1.2.1 hX.2.2.1 fun w M2 f2 hw => ?_
  rw [halV_u hw hv]
  exact hQ v M2 ((h.q (csp_q f1)).q (rs_q f2))
theorem p_fact {x y : Int} (h : INV M) (hQ : ∀ v M', INV M' → Q v v M') : CI m10_fact 3 [(19, ((0 : Nat) : Int)), (0, x), (0, y)] M (fun v M1 => CI m11_fact 2 [(20, ((59 : Nat) : Int)), (0, x), (0, y)] M1 (fun w M2 => Q v w M2)) := by
  obtain ⟨_, _, _, pp, n, nf, s, F, ag, C, Bg, E, hX⟩ := id h
  exact s_fact hX.1 hX.2.2.1 (s_fact_r hX.2.1 hX.2.2.1 (hQ _ _ (h.q th_q)))
theorem p_named {x y : Int} (h : INV M) (hQ : ∀ v M', INV M' → Q v v M') : CI m10_named 4 [(19, ((0 : Nat) : Int)), (0, x), (0, y)] M (fun v M1 => CI m11_named 2 [(20, ((59 : Nat) : Int)), (0, x), (0, y)] M1 (fun w M2 => Q v w M2)) := by
  obtain ⟨_, _, _, pp, n, nf, s, F, ag, C, Bg, E, hX⟩ := id h
  obtain ⟨n1, n2⟩ := hX.2.2.2.1
  exact s_named (Np := M 62) (Nq := M 64) hX.1 hX.2.2.1.1 n1 n2 (s_named_r (Np := M 62) (Nq := M 64) hX.2.1 hX.2.2.1.1 (fun _ _ => rfl) (fun _ _ => rfl) (hQ _ _ (h.q th_q)))
theorem p_fault {x : Int} (h : INV M) (hQ : ∀ v M', INV M' → Q v v M') : CI m10_fault 1 [(19, ((0 : Nat) : Int)), (0, x)] M (fun v M1 => CI m11_fault 1 [(20, ((59 : Nat) : Int)), (0, x)] M1 (fun w M2 => Q v w M2)) :=
  s_fault h.2.1.1 h.2.1.2 (s_fault_r rfl rfl (hQ _ _ (h.q th_q)))
theorem p_count {x : Int} (h : INV M) (hQ : ∀ v M', INV M' → Q v v M') : CI m10_count 4 [(19, ((0 : Nat) : Int)), (0, x)] M (fun v M1 => CI m11_count 2 [(20, ((59 : Nat) : Int)), (0, x)] M1 (fun w M2 => Q v w M2)) := by
  obtain ⟨_, _, _, pp, n, nf, s, F, ag, C, Bg, E, hX⟩ := id h
  obtain ⟨kn, k1, k2⟩ := hX.2.2.2.2.1
  obtain ⟨nh, kb, H, m1, m2, m3, m4⟩ := hX.2.2.2.2.2.2.1
  exact s_count hX.1 hX.2.2.1 m1 k1 (s_count_r hX.2.1 hX.2.2.1 m2 k2 (hQ _ _ (h.q th_q)))
end
