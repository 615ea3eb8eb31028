/-! the calls that change what is held -/
def RSt (M : Mem) (pp n : Nat) (C : Nat → Int) (Bg E : Nat → Nat) : Prop := TI M ∧ FI M ∧ GI M ∧ NI M pp n ∧ KI M ∧ RI M C Bg E
section
variable {M M' M1 M2 : Mem} {t t1 t2 : Nat → Nat → Prop} {pp n nf : Nat} {s : Int} {F : FTab} {ag C : Nat → Int} {Bg E : Nat → Nat} {Q : Int → Int → Mem → Prop}
theorem RSt.fp (h : RSt M pp n C Bg E) (h5 : pp ≤ 5) (hn : n < 6) (hF : Fp t M M') (ht : ∀ k j, t k j → ¬ vT k j ∧ ¬ vF k j ∧ ¬ vG k j ∧ ¬ vB k j) : RSt M' pp n C Bg E := by
  obtain ⟨h1, h2, h3, h4, h6, h7⟩ := h
  exact ⟨h1.fp hF (fun k j q => (ht k j q).1), h2.fp hF (fun k j q => (ht k j q).2.1), h3.fp hF (fun k j q => (ht k j q).2.2.1), h4.fp h5 hn hF (fun k j q => (ht k j q).2.2.2), h6.fp hF (fun k j q => (ht k j q).2.2.2), h7.fp hF (fun k j q => (ht k j q).2.2.2)⟩
theorem INV.un (h : INV M) : ∃ (pp n nf : Nat) (s : Int) (F : FTab) (ag C : Nat → Int) (Bg E : Nat → Nat), RSt M pp n C Bg E ∧ SC M pp n s nf F ag C Bg E ∧ SR M pp n s nf F ag C Bg E ∧ SF pp s nf F ∧ HI M pp n ag C Bg E ∧ II M pp := by
  obtain ⟨hT, hF, hG, pp, n, nf, s, F, ag, C, Bg, E, h1, h2, h3, h4, h5, h6, h7, h8⟩ := h
  exact ⟨pp, n, nf, s, F, ag, C, Bg, E, ⟨hT, hF, hG, h4, h5, h6⟩, h1, h2, h3, h7, h8⟩
theorem INV.of (r : RSt M pp n C Bg E) (h1 : SC M pp n s nf F ag C Bg E) (h2 : SR M pp n s nf F ag C Bg E) (h3 : SF pp s nf F) (h7 : HI M pp n ag C Bg E) (h8 : II M pp) : INV M :=
  ⟨r.1, r.2.1, r.2.2.1, pp, n, nf, s, F, ag, C, Bg, E, h1, h2, h3, r.2.2.2.1, r.2.2.2.2.1, r.2.2.2.2.2, h7, h8⟩
theorem thf {v : Int} (f2 : Fp t2 (mset M1 59 0 v) M2) : Fp (fun k j => t2 k j ∨ (k = 59 ∧ j = 0)) M1 M2 :=
  (Fp.rf.set (Or.inr ⟨rfl, rfl⟩) : Fp (fun k j => t2 k j ∨ (k = 59 ∧ j = 0)) M1 (mset M1 59 0 v)).tr (f2.mono (fun k j q => Or.inl q))
theorem two {v : Int} (f1 : Fp t1 M M1) (f2 : Fp t2 (mset M1 59 0 v) M2) : Fp (fun k j => t1 k j ∨ t2 k j ∨ (k = 59 ∧ j = 0)) M M2 :=
  (f1.mono (fun k j q => Or.inl q) : Fp (fun k j => t1 k j ∨ t2 k j ∨ (k = 59 ∧ j = 0)) M M1).tr ((thf f2).mono (fun k j q => Or.inr q))
theorem p_season {x : Int} (h : INV M) (hQ : ∀ v M', INV M' → Q v v M') : CI m10_season 2 [(19, ((0 : Nat) : Int)), (0, x)] M (fun v M1 => CI m11_season 2 [(20, ((59 : Nat) : Int)), (0, x)] M1 (fun w M2 => Q v w M2)) := by
  obtain ⟨pp, n, nf, s, F, ag, C, Bg, E, r, h1, h2, h3, h7, h8⟩ := h.un
  refine s_season h1 (fun hx hs => ?_) (fun hx => s_season_r h2 (fun q => absurd q hx) (fun _ => hQ _ _ (h.q th_q)))
  have f1 : Fp (fun k j => k = 0 ∧ j = 5) M (mset M 0 5 x) := Fp.rf.set ⟨rfl, rfl⟩
  generalize mset M 0 5 x = M1 at hs f1 ⊢
  have r1 := h2.fv h3 f1 (fun k j q => by unfold vRf; omega)
  refine s_season_r r1 (fun _ hr => ?_) (fun q => absurd hx q)
  have f2 : Fp (fun k j => k = 59 ∧ j = 32) (mset M1 59 0 0) (mset (mset M1 59 0 0) 59 32 x) := Fp.rf.set ⟨rfl, rfl⟩
  generalize mset (mset M1 59 0 0) 59 32 x = M2 at hr f2 ⊢
  have f := two f1 f2
  exact hQ 1 M2 (INV.of (r.fp h3.1 h1.2.2.1.2.1 f (fun k j q => by unfold vT vF vG vB; omega)) (hs.fv (thf f2) (fun k j q => by unfold vC; omega)) hr ⟨h3.1, by omega, h3.2.2⟩ (h7.fp f (fun k j q => by unfold vH; omega)) (h8.fp f (fun k j q => by unfold vI; omega)))
theorem p_raise {a b how : Int} (h : INV M) (hQ : ∀ v M', INV M' → Q v v M') : CI m10_raise 5 [(19, ((0 : Nat) : Int)), (0, a), (0, b), (0, how)] M (fun v M1 => CI m11_raise 4 [(20, ((59 : Nat) : Int)), (0, a), (0, b), (0, how)] M1 (fun w M2 => Q v w M2)) := by
  obtain ⟨pp, n, nf, s, F, ag, C, Bg, E, r, h1, h2, h3, h7, h8⟩ := h.un
  have fin : ∀ M1 M2, Fp fcs M M1 → Fp frs (mset M1 59 0 0) M2 → ∀ nf' F', SC M1 pp n s nf' F' ag C Bg E → SR M2 pp n s nf' F' ag C Bg E → SF pp s nf' F' → INV M2 := fun M1 M2 f1 f2 nf' F' hs hr hf => by
    have f := two f1 f2
    refine INV.of (r.fp h3.1 h1.2.2.1.2.1 f (fun k j q => ?_)) (hs.fv (thf f2) (fun k j q => ?_)) hr hf (h7.fp f (fun k j q => ?_)) (h8.fp f (fun k j q => ?_))
    · unfold fcs cs fset frs rs at q; unfold vT vF vG vB; omega
    · unfold frs rs at q; unfold vC; omega
    · unfold fcs cs fset frs rs at q; unfold vH; omega
    · unfold fcs cs fset frs rs at q; unfold vI; omega
  refine s_raise h1 h3 (fun hx M1 f1 hs => ?_) (fun hx M1 f1 hs => ?_)
  · have r1 := h2.fv h3 f1 (fun k j q => by unfold fcs cs fset at q; unfold vRf; omega)
    refine s_raise_r r1 h3 (fun _ M2 f2 hr => hQ _ M2 (fin M1 M2 f1 f2 _ _ hs hr (SF_add h3 hx.1 hx.2.1 hx.2.2.1 hx.2.2.2.2))) (fun q => absurd hx q)
  · have r1 := h2.fv h3 f1 (fun k j q => by unfold fcs cs fset at q; unfold vRf; omega)
    exact s_raise_r r1 h3 (fun q => absurd q hx) (fun _ M2 f2 hr => hQ _ M2 (fin M1 M2 f1 f2 _ _ hs hr h3))
theorem p_strike {x : Int} (h : INV M) (hQ : ∀ v M', INV M' → Q v v M') : CI m10_strike 3 [(19, ((0 : Nat) : Int)), (0, x)] M (fun v M1 => CI m11_strike 2 [(20, ((59 : Nat) : Int)), (0, x)] M1 (fun w M2 => Q v w M2)) := by
  obtain ⟨pp, n, nf, s, F, ag, C, Bg, E, r, h1, h2, h3, h7, h8⟩ := h.un
  refine s_strike h1 h3 (fun hx M1 f1 hs => ?_) (fun hx => s_strike_r h2 h3 (fun q => absurd q hx) (fun _ => hQ _ _ (h.q th_q)))
  have r1 := h2.fv h3 f1 (fun k j q => by unfold vRf; omega)
  refine s_strike_r r1 h3 (fun _ M2 f2 hr => ?_) (fun q => absurd hx q)
  have f := two f1 f2
  exact hQ 1 M2 (INV.of (r.fp h3.1 h1.2.2.1.2.1 f (fun k j q => by unfold vT vF vG vB; omega)) (hs.fv (thf f2) (fun k j q => by unfold vC; omega)) hr (SF_str h3) (h7.fp f (fun k j q => by unfold vH; omega)) (h8.fp f (fun k j q => by unfold vI; omega)))
theorem p_hear {a b c x y : Int} (h : INV M) (hQ : ∀ v M', INV M' → Q v v M') : CI m10_hear 7 [(19, ((0 : Nat) : Int)), (0, a), (0, b), (0, c), (0, x), (0, y)] M (fun v M1 => CI m11_hear 5 [(20, ((59 : Nat) : Int)), (0, a), (0, b), (0, c), (0, x), (0, y)] M1 (fun w M2 => Q v w M2)) := by
  obtain ⟨pp, n, nf, s, F, ag, C, Bg, E, r, h1, h2, h3, ⟨nh, kb, H, m1, m2, m3, m4⟩, h8⟩ := h.un
  refine s_hear h1 h3 m1 (fun hx M1 f1 hm => ?_) (fun hx => s_hear_r h2 m2 m3.1 (fun q => absurd q hx) (fun _ => hQ _ _ (h.q th_q)))
  have r1 := h2.fv h3 f1 (fun k j q => by unfold csp cs hset at q; unfold vRf; omega)
  have m2' := m2.fp f1 (fun k j q => by unfold csp cs hset at q; omega)
  refine s_hear_r r1 m2' m3.1 (fun _ M2 f2 hr => ?_) (fun q => absurd hx q)
  have f := two f1 f2
  refine hQ _ M2 (INV.of (r.fp h3.1 h1.2.2.1.2.1 f (fun k j q => ?_)) (h1.fv f (fun k j q => ?_)) (h2.fv h3 f (fun k j q => ?_)) h3 ⟨nh + 1, kb, _, hm.fp (thf f2) (fun k j q => ?_), hr, m3.add hx.2 (Or.inr hx.1), OI.add (m4.fp f (fun k j q => ?_))⟩ (h8.fp f (fun k j q => ?_)))
  · unfold csp cs hset at q; unfold vT vF vG vB; omega
  · unfold csp cs hset at q; unfold vC; omega
  · unfold csp cs hset at q; unfold vRf; omega
  · omega
  · unfold csp cs hset at q; omega
  · unfold csp cs hset at q; unfold vI; omega
theorem p_unhear {x : Int} (h : INV M) (hQ : ∀ v M', INV M' → Q v v M') : CI m10_unhear 3 [(19, ((0 : Nat) : Int)), (0, x)] M (fun v M1 => CI m11_unhear 1 [(20, ((59 : Nat) : Int)), (0, x)] M1 (fun w M2 => Q v w M2)) := by
  obtain ⟨pp, n, nf, s, F, ag, C, Bg, E, r, h1, h2, h3, ⟨nh, kb, H, m1, m2, m3, m4⟩, h8⟩ := h.un
  refine s_unhear m1 (fun hx M1 f1 hm => ?_) (fun hx => s_unhear_r m2 m3.1 (fun q => absurd q hx) (fun _ => hQ _ _ (h.q th_q)))
  have m2' := m2.fp f1 (fun k j q => by unfold hset at q; omega)
  refine s_unhear_r m2' m3.1 (fun _ M2 f2 hr => ?_) (fun q => absurd hx q)
  have f := two f1 f2
  refine hQ _ M2 (INV.of (r.fp h3.1 h1.2.2.1.2.1 f (fun k j q => ?_)) (h1.fv f (fun k j q => ?_)) (h2.fv h3 f (fun k j q => ?_)) h3 ⟨nh + 1, kb, _, hm.fp (thf f2) (fun k j q => ?_), hr, m3.add hx.2 (Or.inl ⟨rfl, hx.1⟩), OI.add (m4.fp f (fun k j q => ?_))⟩ (h8.fp f (fun k j q => ?_)))
  · unfold hset at q; unfold vT vF vG vB; omega
  · unfold hset at q; unfold vC; omega
  · unfold hset at q; unfold vRf; omega
  · omega
  · unfold hset at q; omega
  · unfold hset at q; unfold vI; omega
theorem p_known {x : Int} (h : INV M) (hQ : ∀ v M', INV M' → Q v v M') : CI m10_known 1 [(19, ((0 : Nat) : Int)), (0, x)] M (fun v M1 => CI m11_known 1 [(20, ((59 : Nat) : Int)), (0, x)] M1 (fun w M2 => Q v w M2)) := by
  obtain ⟨pp, n, nf, s, F, ag, C, Bg, E, r, h1, h2, h3, ⟨nh, kb, H, m1, m2, m3, m4⟩, h8⟩ := h.un
  refine s_known m1 (fun hx M1 f1 hm => ?_) (fun hx => s_known_r m2 (fun q => absurd q hx) (fun _ => hQ _ _ (h.q th_q)))
  have m2' := m2.fp f1 (fun k j q => by omega)
  refine s_known_r m2' (fun _ M2 f2 hr => ?_) (fun q => absurd hx q)
  have f := two f1 f2
  refine hQ _ M2 (INV.of (r.fp h3.1 h1.2.2.1.2.1 f (fun k j q => ?_)) (h1.fv f (fun k j q => ?_)) (h2.fv h3 f (fun k j q => ?_)) h3 ⟨nh, x, H, hm.fp (thf f2) (fun k j q => ?_), hr, ⟨m3.1, hx, m3.2.2⟩, m4.fp f (fun k j q => ?_)⟩ (h8.fp f (fun k j q => ?_)))
  · unfold vT vF vG vB; omega
  · unfold vC; omega
  · unfold vRf; omega
  · omega
  · omega
  · unfold vI; omega
theorem p_possible (h : INV M) (hQ : ∀ v M', INV M' → Q v v M') : CI m10_possible 6 [(19, ((0 : Nat) : Int))] M (fun v M1 => CI m11_possible 7 [(20, ((59 : Nat) : Int))] M1 (fun w M2 => Q v w M2)) := by
  obtain ⟨pp, n, nf, s, F, ag, C, Bg, E, r, h1, h2, h3, ⟨nh, kb, H, m1, m2, m3, m4⟩, h8⟩ := h.un
  refine s_possible h1 h3 r.2.2.1.2 m1 m3 m4 (fun M1 f1 ho => ?_)
  have r1 := h2.fv h3 f1 (fun k j q => by unfold stset at q; unfold vRf; omega)
  have m2' := m2.fp f1 (fun k j q => by unfold stset at q; omega)
  refine s_possible_r r1 h3 m2' m3 (fun M2 f2 => ?_)
  have f := two f1 f2
  refine hQ _ M2 (INV.of (r.fp h3.1 h1.2.2.1.2.1 f (fun k j q => ?_)) (h1.fv f (fun k j q => ?_)) (h2.fv h3 f (fun k j q => ?_)) h3 ⟨nh, kb, H, m1.fp f (fun k j q => ?_), m2'.fp (thf f2) (fun k j q => ?_), m3, ho.fp (thf f2) (fun k j q => ?_)⟩ (h8.fp f (fun k j q => ?_)))
  · unfold stset rs7 rs at q; unfold vT vF vG vB; omega
  · unfold stset rs7 rs at q; unfold vC; omega
  · unfold stset rs7 rs at q; unfold vRf; omega
  · unfold stset rs7 rs at q; omega
  · unfold rs7 rs at q; omega
  · unfold rs7 rs at q; omega
  · unfold stset rs7 rs at q; unfold vI; omega
theorem p_cannot (h : INV M) (hQ : ∀ v M', INV M' → Q v v M') : CI m10_cannot 6 [(19, ((0 : Nat) : Int))] M (fun v M1 => CI m11_cannot 7 [(20, ((59 : Nat) : Int))] M1 (fun w M2 => Q v w M2)) := by
  obtain ⟨pp, n, nf, s, F, ag, C, Bg, E, r, h1, h2, h3, ⟨nh, kb, H, m1, m2, m3, m4⟩, h8⟩ := h.un
  refine s_cannot h1 h3 r.2.2.1.2 m1 m3 m4 (fun M1 f1 ho => ?_)
  have r1 := h2.fv h3 f1 (fun k j q => by unfold stset at q; unfold vRf; omega)
  have m2' := m2.fp f1 (fun k j q => by unfold stset at q; omega)
  refine s_cannot_r r1 h3 m2' m3 (fun M2 f2 => ?_)
  have f := two f1 f2
  refine hQ _ M2 (INV.of (r.fp h3.1 h1.2.2.1.2.1 f (fun k j q => ?_)) (h1.fv f (fun k j q => ?_)) (h2.fv h3 f (fun k j q => ?_)) h3 ⟨nh, kb, H, m1.fp f (fun k j q => ?_), m2'.fp (thf f2) (fun k j q => ?_), m3, ho.fp (thf f2) (fun k j q => ?_)⟩ (h8.fp f (fun k j q => ?_)))
  · unfold stset rs7 rs at q; unfold vT vF vG vB; omega
  · unfold stset rs7 rs at q; unfold vC; omega
  · unfold stset rs7 rs at q; unfold vRf; omega
  · unfold stset rs7 rs at q; omega
  · unfold rs7 rs at q; omega
  · unfold rs7 rs at q; omega
  · unfold stset rs7 rs at q; unfold vI; omega
theorem p_order {k a b : Int} (h : INV M) (hQ : ∀ v M', INV M' → Q v v M') : CI m10_order 6 [(19, ((0 : Nat) : Int)), (0, k), (0, a), (0, b)] M (fun v M1 => CI m11_order 7 [(20, ((59 : Nat) : Int)), (0, k), (0, a), (0, b)] M1 (fun w M2 => Q v w M2)) := by
  obtain ⟨pp, n, nf, s, F, ag, C, Bg, E, r, h1, h2, h3, ⟨nh, kb, H, m1, m2, m3, m4⟩, h8⟩ := h.un
  refine s_order h1 h3 r.2.2.1.2 m1 m3 m4 (fun M1 f1 ho => ?_)
  have r1 := h2.fv h3 f1 (fun k j q => by unfold stset at q; unfold vRf; omega)
  have m2' := m2.fp f1 (fun k j q => by unfold stset at q; omega)
  refine s_order_r r1 h3 m2' m3 (fun M2 f2 => ?_)
  have f := two f1 f2
  refine hQ _ M2 (INV.of (r.fp h3.1 h1.2.2.1.2.1 f (fun k j q => ?_)) (h1.fv f (fun k j q => ?_)) (h2.fv h3 f (fun k j q => ?_)) h3 ⟨nh, kb, H, m1.fp f (fun k j q => ?_), m2'.fp (thf f2) (fun k j q => ?_), m3, ho.fp (thf f2) (fun k j q => ?_)⟩ (h8.fp f (fun k j q => ?_)))
  · unfold stset rs7 rs at q; unfold vT vF vG vB; omega
  · unfold stset rs7 rs at q; unfold vC; omega
  · unfold stset rs7 rs at q; unfold vRf; omega
  · unfold stset rs7 rs at q; omega
  · unfold rs7 rs at q; omega
  · unfold rs7 rs at q; omega
  · unfold stset rs7 rs at q; unfold vI; omega
theorem p_sure {a b : Int} (h : INV M) (hQ : ∀ v M', INV M' → Q v v M') : CI m10_sure 6 [(19, ((0 : Nat) : Int)), (0, a), (0, b)] M (fun v M1 => CI m11_sure 7 [(20, ((59 : Nat) : Int)), (0, a), (0, b)] M1 (fun w M2 => Q v w M2)) := by
  obtain ⟨pp, n, nf, s, F, ag, C, Bg, E, r, h1, h2, h3, ⟨nh, kb, H, m1, m2, m3, m4⟩, h8⟩ := h.un
  refine s_sure h1 h3 r.2.2.1.2 m1 m3 m4 (fun M1 f1 ho => ?_)
  have r1 := h2.fv h3 f1 (fun k j q => by unfold stset at q; unfold vRf; omega)
  have m2' := m2.fp f1 (fun k j q => by unfold stset at q; omega)
  refine s_sure_r r1 h3 m2' m3 (fun M2 f2 => ?_)
  have f := two f1 f2
  refine hQ _ M2 (INV.of (r.fp h3.1 h1.2.2.1.2.1 f (fun k j q => ?_)) (h1.fv f (fun k j q => ?_)) (h2.fv h3 f (fun k j q => ?_)) h3 ⟨nh, kb, H, m1.fp f (fun k j q => ?_), m2'.fp (thf f2) (fun k j q => ?_), m3, ho.fp (thf f2) (fun k j q => ?_)⟩ (h8.fp f (fun k j q => ?_)))
  · unfold stset rs7 rs at q; unfold vT vF vG vB; omega
  · unfold stset rs7 rs at q; unfold vC; omega
  · unfold stset rs7 rs at q; unfold vRf; omega
  · unfold stset rs7 rs at q; omega
  · unfold rs7 rs at q; omega
  · unfold rs7 rs at q; omega
  · unfold stset rs7 rs at q; unfold vI; omega
theorem p_keep (h : INV M) (hQ : ∀ v M', INV M' → Q v v M') : CI m10_keep 3 [(19, ((0 : Nat) : Int))] M (fun v M1 => CI m11_keep 3 [(20, ((59 : Nat) : Int))] M1 (fun w M2 => Q v w M2)) := by
  obtain ⟨pp, n, nf, s, F, ag, C, Bg, E, r, h1, h2, h3, h7, h8⟩ := h.un
  refine s_keep h1 h3 (fun M1 f1 hs hi => ?_)
  have r1 := h2.fv h3 f1 (fun k j q => by unfold kset at q; unfold vRf; omega)
  refine s_keep_r r1 h3 (fun M2 f2 hr hj => ?_)
  have f := two f1 f2
  have hi2 : ICl M2 1 s nf F := by
    have g := thf f2
    have e : ∀ k, k < 59 → M2 k = M1 k := fun k hk => g.row (fun j q => by unfold krs at q; omega)
    unfold ICl FcT
    rw [e 0 (by decide), e 32 (by decide), e (32 + 1) (by decide)]
    exact hi
  refine hQ _ M2 (INV.of (r.fp h3.1 h1.2.2.1.2.1 f (fun k j q => ?_)) (hs.fv (thf f2) (fun k j q => ?_)) hr h3 (h7.fp f (fun k j q => ?_)) ⟨1, s, nf, F, hi2, hj, fun _ => h3⟩)
  · unfold kset krs at q; unfold vT vF vG vB; omega
  · unfold krs at q; unfold vC; omega
  · unfold kset krs at q; unfold vH; omega
theorem p_back (h : INV M) (hQ : ∀ v M', INV M' → Q v v M') : CI m10_back 3 [(19, ((0 : Nat) : Int))] M (fun v M1 => CI m11_back 3 [(20, ((59 : Nat) : Int))] M1 (fun w M2 => Q v w M2)) := by
  obtain ⟨pp, n, nf, s, F, ag, C, Bg, E, r, h1, h2, h3, h7, kp, is, nif, IF, i1, i2, i3⟩ := h.un
  refine s_back h1 i1 (fun q => (i3 q).2.2.1) (fun hx M1 f1 hs hi => ?_) (fun hx => s_back_r h2 i2 i3 (fun q => absurd hx q) (fun _ => hQ _ _ (h.q th_q)))
  have r1 := h2.fv h3 f1 (fun k j q => by unfold bset at q; unfold vRf; omega)
  have i2' : IRf M1 kp is nif IF := by
    have e : ∀ k, 59 ≤ k → M1 k = M k := fun k hk => f1.row (fun j q => by unfold bset at q; omega)
    unfold IRf FrT
    rw [e 59 (by decide), e 69 (by decide), e 70 (by decide), e 71 (by decide), e 72 (by decide), e 73 (by decide)]
    exact i2
  refine s_back_r r1 i2' i3 (fun _ M2 f2 hr hj => ?_) (fun q => absurd q hx)
  have f := two f1 f2
  have hi2 : ICl M2 kp is nif IF := by
    have g := thf f2
    have e : ∀ k, k < 59 → M2 k = M1 k := fun k hk => g.row (fun j q => by unfold brs at q; omega)
    unfold ICl FcT
    rw [e 0 (by decide), e 32 (by decide), e (32 + 1) (by decide)]
    exact hi
  refine hQ _ M2 (INV.of (r.fp h3.1 h1.2.2.1.2.1 f (fun k j q => ?_)) (hs.fv (thf f2) (fun k j q => ?_)) hr (i3 hx) (h7.fp f (fun k j q => ?_)) ⟨kp, is, nif, IF, hi2, hj, i3⟩)
  · unfold bset brs at q; unfold vT vF vG vB; omega
  · unfold brs at q; unfold vC; omega
  · unfold bset brs at q; unfold vH; omega
end
