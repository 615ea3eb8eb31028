/-! hear, unhear, known -/
theorem SC.fq {M M' : Mem} {pp n nf : Nat} {s : Int} {F : FTab} {ag C : Nat → Int} {Bg E : Nat → Nat} {t : Nat → Nat → Prop} (h : SC M pp n s nf F ag C Bg E) (hF : Fp t M M') (ht : ∀ k j, t k j → (k < 21 ∧ (k = 0 → j ≠ 5)) ∨ k = 29 ∨ 32 ≤ k) : SC M' pp n s nf F ag C Bg E := by
  obtain ⟨h1, h2, h3, h4, h5, h6⟩ := h
  have e : ∀ k, ((21 ≤ k ∧ k ≤ 28) ∨ k = 30 ∨ k = 31) → M' k = M k := fun k hk => hF.row (fun j hc => by have := ht k j hc; omega)
  have e5 : M' 0 5 = M 0 5 := hF 0 5 (fun hc => by have := ht 0 5 hc; omega)
  obtain ⟨b1, b2, b3, b4, b5, b6, b7⟩ := h3
  refine ⟨by rw [e 21 (by omega)]; exact h1, e5.trans h2, ⟨b1, b2, by rw [e 21 (by omega)]; exact b3, by rw [e 26 (by omega)]; exact b4, ?_, ?_, b7⟩, by rw [e 23 (by omega)]; exact h4, by rw [e 30 (by omega)]; exact h5, ?_⟩
  · rw [e 27 (by omega)]; exact b5
  · rw [e 28 (by omega)]; exact b6
  · unfold FcT; rw [e 31 (by omega)]; exact h6
/-- what was heard: H i 0 the speaker (-1: a strike, of H i 1), hearer, theme, season, row -/
def clH (n : Nat) (ag C : Nat → Int) (Bg E : Nat → Nat) (H : FTab) (i : Nat) : Nat := clm n (H i 3) ag C Bg E (H i 0).toNat (H i 1).toNat (H i 2).toNat (H i 4) 27
def MC (M : Mem) (n : Nat) (ag C : Nat → Int) (Bg E : Nat → Nat) (nh : Nat) (kb : Int) (H : FTab) : Prop := M 43 5 = (nh : Int) ∧ M 43 6 = kb ∧ ∀ i, i < nh → (H i 0 = -1 → M 48 i = H i 1) ∧ (H i 0 ≠ -1 → M 48 i = -1 ∧ M 44 i = H i 0 ∧ M 45 i = H i 1 ∧ M 46 i = H i 2 ∧ M 47 i = (clH n ag C Bg E H i : Int))
def MRf (M : Mem) (nh : Nat) (kb : Int) (H : FTab) : Prop := M 59 46 = (nh : Int) ∧ M 59 47 = kb ∧ ∀ i, i < nh → M 82 i = H i 0 ∧ M 83 i = H i 1 ∧ (H i 0 ≠ -1 → M 84 i = H i 2 ∧ M 85 i = H i 3 ∧ M 86 i = H i 4)
def MH (pp n nh : Nat) (kb : Int) (H : FTab) : Prop := nh ≤ 24 ∧ (-1 ≤ kb ∧ kb ≤ nh) ∧ ∀ i, i < nh → (H i 0 = -1 ∧ 0 ≤ H i 1 ∧ H i 1 < i) ∨ (isSay pp (H i 0) (H i 1) (H i 2) ∧ (0 ≤ H i 3 ∧ H i 3 < 4) ∧ rowB n (H i 4) = true)
theorem MC.fp {M M' : Mem} {n nh : Nat} {kb : Int} {H : FTab} {ag C : Nat → Int} {Bg E : Nat → Nat} {t : Nat → Nat → Prop} (h : MC M n ag C Bg E nh kb H) (hF : Fp t M M') (ht : ∀ k j, t k j → k < 43 ∨ 49 ≤ k) : MC M' n ag C Bg E nh kb H := by
  have e : ∀ k, 43 ≤ k → k ≤ 48 → M' k = M k := fun k h1 h2 => hF.row (fun j hc => by have := ht k j hc; omega)
  unfold MC
  rw [e 43 (by omega) (by omega), e 44 (by omega) (by omega), e 45 (by omega) (by omega), e 46 (by omega) (by omega), e 47 (by omega) (by omega), e 48 (by omega) (by omega)]
  exact h
theorem MRf.fp {M M' : Mem} {nh : Nat} {kb : Int} {H : FTab} {t : Nat → Nat → Prop} (h : MRf M nh kb H) (hF : Fp t M M') (ht : ∀ k j, t k j → k < 59 ∨ (k = 59 ∧ j ≠ 46 ∧ j ≠ 47) ∨ (60 ≤ k ∧ k < 82) ∨ 87 ≤ k) : MRf M' nh kb H := by
  have e : ∀ k, 82 ≤ k → k ≤ 86 → M' k = M k := fun k h1 h2 => hF.row (fun j hc => by have := ht k j hc; omega)
  have e1 : M' 59 46 = M 59 46 := hF 59 46 (fun hc => by have := ht 59 46 hc; omega)
  have e2 : M' 59 47 = M 59 47 := hF 59 47 (fun hc => by have := ht 59 47 hc; omega)
  unfold MRf
  rw [e1, e2, e 82 (by omega) (by omega), e 83 (by omega) (by omega), e 84 (by omega) (by omega), e 85 (by omega) (by omega), e 86 (by omega) (by omega)]
  exact h
/-- one more is heard -/
def hadd (H : FTab) (nh : Nat) (a b c x r : Int) : FTab := fun i j => if i = nh then (match j with | 0 => a | 1 => b | 2 => c | 3 => x | _ => r) else H i j
theorem hadd_o {H : FTab} {nh i : Nat} {a b c x r : Int} (h : i ≠ nh) : hadd H nh a b c x r i = H i := by
  funext j; unfold hadd; rw [if_neg h]
theorem hadd_s {H : FTab} {nh : Nat} {a b c x r : Int} : hadd H nh a b c x r nh 0 = a ∧ hadd H nh a b c x r nh 1 = b ∧ hadd H nh a b c x r nh 2 = c ∧ hadd H nh a b c x r nh 3 = x ∧ hadd H nh a b c x r nh 4 = r := by
  unfold hadd; simp
theorem MH.add {pp n nh : Nat} {kb : Int} {H : FTab} {a b c x r : Int} (h : MH pp n nh kb H) (hn : nh < 24) (hc : (a = -1 ∧ 0 ≤ b ∧ b < nh) ∨ (isSay pp a b c ∧ (0 ≤ x ∧ x < 4) ∧ rowB n r = true)) : MH pp n (nh + 1) kb (hadd H nh a b c x r) := by
  obtain ⟨h1, h2, h3⟩ := h
  refine ⟨by omega, by omega, fun i hi => ?_⟩
  by_cases q : i = nh
  · subst q
    obtain ⟨e0, e1, e2, e3, e4⟩ := hadd_s (H := H) (nh := i) (a := a) (b := b) (c := c) (x := x) (r := r)
    rw [e0, e1, e2, e3, e4]
    exact hc
  · rw [hadd_o q]
    exact h3 i (by omega)
theorem clH_o {n nh i : Nat} {ag C : Nat → Int} {Bg E : Nat → Nat} {H : FTab} {a b c x r : Int} (h : i ≠ nh) : clH n ag C Bg E (hadd H nh a b c x r) i = clH n ag C Bg E H i := by
  unfold clH; rw [hadd_o h]
/-- the cells of MEMORY -/
def hset (k j : Nat) : Prop := (k = 43 ∧ j = 5) ∨ (44 ≤ k ∧ k ≤ 48)
theorem s_addStrike {nh : Nat} {v : Int} {M : Mem} {P : Int → Mem → Prop} (hn : M 43 5 = (nh : Int)) (h24 : nh < 24) (h : P (nh : Int) (mset (mset M 48 nh v) 43 5 ((nh + 1 : Nat) : Int))) : CI m4_addStrike 2 [(14, ((43 : Nat) : Int)), (0, v)] M P := by
  have a48 : ((aln 48 : Nat) : Int) = 24 := by decide
  apply q_4_addStrike
  rw [hn]
  apply s_put (by omega) (by omega)
  rw [Int.toNat_natCast, mset_s, mset_k (by decide), hn, w_1 (by omega)]
  have e : w32 (((nh + 1 : Nat) : Int) - 1) = (nh : Int) := by unfold w32; omega
  rw [e]
  exact h
def hearV (pp n : Nat) (nh : Nat) (a b c x r : Int) : Prop := (isSay pp a b c ∧ (0 ≤ x ∧ x < 4) ∧ rowB n r = true) ∧ nh < 24
theorem s_hear {pp n nf nh : Nat} {s kb : Int} {F H : FTab} {ag C : Nat → Int} {Bg E : Nat → Nat} {M : Mem} {P : Int → Mem → Prop} {a b c x r : Int} (hS : SC M pp n s nf F ag C Bg E) (hf : SF pp s nf F) (hM : MC M n ag C Bg E nh kb H)
    (hy : hearV pp n nh a b c x r → ∀ M', Fp (fun k j => csp k j ∨ hset k j) M M' → MC M' n ag C Bg E (nh + 1) kb (hadd H nh a b c x r) → P (nh : Int) M') (hno : ¬ hearV pp n nh a b c x r → P (-1) M) : CI m10_hear 7 [(19, ((0 : Nat) : Int)), (0, a), (0, b), (0, c), (0, x), (0, r)] M P := by
  have h5 := hf.1
  have hn := hS.2.2.1.2.2.1
  have hn6 := hS.2.2.1.2.1
  unfold hearV at hy hno
  apply q_10_hear
  apply s_isSaying hS.1
  refine ⟨fun q => hno (fun z => bi_eq q z.1.1), fun q => s_isSeason ⟨fun q1 => ?_, fun q1 => hno (fun z => bi_eq q1 z.1.2.1)⟩⟩
  rw [hn]
  apply s_isRow hn6
  rw [hM.1]
  refine ⟨fun q2 => hno (fun z => bi_eq q2 z.1.2.2), fun q2 => ⟨fun q3 => ?_, fun q3 => hno (fun z => by omega)⟩⟩
  have hx := bi_ne q1
  have ok : (isSay pp a b c ∧ (0 ≤ x ∧ x < 4) ∧ rowB n r = true) ∧ nh < 24 := ⟨⟨bi_ne q, hx, bi_ne q2⟩, by omega⟩
  have hy := hy ok
  obtain ⟨a', b', c', rfl, rfl, rfl, ha, hb, hc, _, _⟩ := say_nat ok.1.1
  apply s_meet (Or.inr rfl) (by omega) (by omega) (by omega)
  intro M1 hF1 hN1
  have hag := hS.2.2.2.1
  rw [show (21 + 2 : Nat) = 23 from rfl, nmv_ag (hag a' ha) (hag b' hb) (hag c' hc)] at hN1
  have hF1' : Fp csp M M1 := hF1.mono (fun k j q => by unfold mset40 at q; unfold csp cs; omega)
  have hS1 := hS.fp hF1' (fun k j hk => Or.inl hk)
  apply s_claimed (n := n) (C := C) (Bg := Bg) (E := E) (ag := ag) (a := a') (b := b') (c := c') (s := x) hS1.2.2.1 (by omega) hN1
  intro M2 hF2
  have hF3 := hF1'.tr hF2
  have hM2 := hM.fp hF3 (fun k j q => by unfold csp cs at q; omega)
  have a44 : ((aln 44 : Nat) : Int) = 24 ∧ ((aln 45 : Nat) : Int) = 24 ∧ ((aln 46 : Nat) : Int) = 24 ∧ ((aln 47 : Nat) : Int) = 24 := by decide
  have n43 : ∀ {M : Mem} {k j : Nat} {v : Int}, k ≠ 43 → mset M k j v 43 5 = M 43 5 := fun hk => mset_k (by omega)
  apply q_4_addSaying
  rw [hM2.1]
  apply s_put (by omega) (by omega)
  rw [n43 (by decide), hM2.1]
  apply s_put (by omega) (by omega)
  rw [n43 (by decide), n43 (by decide), hM2.1]
  apply s_put (by omega) (by omega)
  rw [n43 (by decide), n43 (by decide), n43 (by decide), hM2.1]
  apply s_put (by omega) (by omega)
  simp only [Int.toNat_natCast]
  apply s_addStrike (nh := nh) (by rw [n43 (by decide), n43 (by decide), n43 (by decide), n43 (by decide), hM2.1]) ok.2
  have hF4 : Fp (fun k j => csp k j ∨ hset k j) M M2 := hF3.mono (fun k j q => Or.inl q)
  have hs8 : ∀ k j, 44 ≤ k → k ≤ 48 → (csp k j ∨ hset k j) := fun k j z1 z2 => Or.inr (Or.inr ⟨z1, z2⟩)
  refine hy _ ((((((hF4.set (hs8 44 _ (by omega) (by omega))).set (hs8 45 _ (by omega) (by omega))).set (hs8 46 _ (by omega) (by omega))).set (hs8 47 _ (by omega) (by omega))).set (hs8 48 _ (by omega) (by omega))).set (Or.inr (Or.inl ⟨rfl, rfl⟩))) ?_
  obtain ⟨m1, m2, m3⟩ := hM2
  obtain ⟨e0, e1, e2, e3, e4⟩ := hadd_s (H := H) (nh := nh) (a := (a' : Int)) (b := (b' : Int)) (c := (c' : Int)) (x := x) (r := r)
  refine ⟨mset_s, ?_, fun i hi => ?_⟩
  · rw [mset_j (by decide), mset_k (by decide), mset_k (by decide), mset_k (by decide), mset_k (by decide), mset_k (by decide)]; exact m2
  · by_cases q : i = nh
    · subst q
      rw [e0, e1, e2]
      refine ⟨fun z => by omega, fun _ => ⟨?_, ?_, ?_, ?_, ?_⟩⟩
      · simp [mset]
      · simp [mset]
      · simp [mset]
      · simp [mset]
      · unfold clH
        rw [e0, e1, e2, e3, e4]
        simp [mset]
    · rw [hadd_o q, clH_o q]
      have m := m3 i (by omega)
      simp [mset, q]
      exact m
theorem s_hear_r {pp n nf nh : Nat} {s kb : Int} {F H : FTab} {ag C : Nat → Int} {Bg E : Nat → Nat} {M : Mem} {P : Int → Mem → Prop} {a b c x r : Int} (hS : SR M pp n s nf F ag C Bg E) (hM : MRf M nh kb H) (h24 : nh ≤ 24)
    (hy : hearV pp n nh a b c x r → ∀ M', Fp (fun k j => (k = 59 ∧ j = 46) ∨ (82 ≤ k ∧ k ≤ 86)) (mset M 59 0 0) M' → MRf M' (nh + 1) kb (hadd H nh a b c x r) → P (nh : Int) M') (hno : ¬ hearV pp n nh a b c x r → P (-1) (mset M 59 0 0)) : CI m11_hear 5 [(20, ((59 : Nat) : Int)), (0, a), (0, b), (0, c), (0, x), (0, r)] M P := by
  have hS0 := hS.th (v := 0)
  have hn := hS0.2.2.1.2.1
  have hn6 := hS0.2.2.1.1
  have hM0 : MRf (mset M 59 0 0) nh kb H := hM.fp (t := fun k j => k = 59 ∧ j = 0) (Fp.rf.set ⟨rfl, rfl⟩) (fun k j q => Or.inr (Or.inl (by omega)))
  unfold hearV at hy hno
  apply q_11_hear
  generalize mset M 59 0 0 = M0 at hS0 hn hn6 hM0 hy hno ⊢
  apply s_isSaid hS0.1 hn6 hn
  obtain ⟨m1, m2, m3⟩ := hM0
  refine ⟨fun q => hno (fun z => bi_eq q ⟨z.1.1, z.1.2.2⟩), fun q => s_isSeason_r ⟨fun q1 => hno (fun z => bi_eq q1 z.1.2.1), fun q1 => ⟨fun q2 => ?_, fun q2 => hno (fun z => by omega)⟩⟩⟩
  have hlt : nh < 24 := by omega
  have hy := hy ⟨⟨(bi_ne q).1, bi_ne q1, (bi_ne q).2⟩, hlt⟩
  simp only [mset_s, mset_k (show (59 : Nat) ≠ 82 by decide), mset_k (show (59 : Nat) ≠ 83 by decide), mset_k (show (59 : Nat) ≠ 84 by decide), mset_k (show (59 : Nat) ≠ 85 by decide), mset_k (show (59 : Nat) ≠ 86 by decide), m1, Int.toNat_natCast]
  refine ⟨by omega, by omega, by omega, by omega, by omega, ?_⟩
  have e : w32 (w32 ((nh : Int) + 1) - 1) = (nh : Int) := by unfold w32; omega
  rw [e, w_1 (by omega)]
  refine hy _ ?_ ?_
  · have hs8 : ∀ k j, 82 ≤ k → k ≤ 86 → ((k = 59 ∧ j = 46) ∨ (82 ≤ k ∧ k ≤ 86)) := fun k j z1 z2 => Or.inr ⟨z1, z2⟩
    have h0 : Fp (fun k j => (k = 59 ∧ j = 46) ∨ (82 ≤ k ∧ k ≤ 86)) M0 M0 := Fp.rf
    exact (((((h0.set (hs8 82 _ (by omega) (by omega))).set (hs8 83 _ (by omega) (by omega))).set (hs8 84 _ (by omega) (by omega))).set (hs8 85 _ (by omega) (by omega))).set (hs8 86 _ (by omega) (by omega))).set (Or.inl ⟨rfl, rfl⟩)
  · refine ⟨mset_s, ?_, fun i hi => ?_⟩
    · rw [mset_j (by decide), mset_k (by decide), mset_k (by decide), mset_k (by decide), mset_k (by decide), mset_k (by decide)]; exact m2
    · by_cases q : i = nh
      · subst q
        obtain ⟨e0, e1, e2, e3, e4⟩ := hadd_s (H := H) (nh := i) (a := a) (b := b) (c := c) (x := x) (r := r)
        rw [e0, e1, e2, e3, e4]
        simp [mset]
      · rw [hadd_o q]
        have m := m3 i (by omega)
        simp [mset, q]
        exact m
theorem s_unhear {n nh : Nat} {kb : Int} {H : FTab} {ag C : Nat → Int} {Bg E : Nat → Nat} {M : Mem} {P : Int → Mem → Prop} {x : Int} (hM : MC M n ag C Bg E nh kb H)
    (hy : (0 ≤ x ∧ x < nh) ∧ nh < 24 → ∀ M', Fp hset M M' → MC M' n ag C Bg E (nh + 1) kb (hadd H nh (-1) x 0 0 0) → P (nh : Int) M') (hno : ¬ ((0 ≤ x ∧ x < nh) ∧ nh < 24) → P (-1) M) : CI m10_unhear 3 [(19, ((0 : Nat) : Int)), (0, x)] M P := by
  obtain ⟨m1, m2, m3⟩ := hM
  apply q_10_unhear
  rw [m1]
  refine ⟨fun q => hno (by omega), fun q => ⟨fun q1 => hno (by omega), fun q1 => ⟨fun q2 => ?_, fun q2 => hno (by omega)⟩⟩⟩
  have hy := hy (by omega)
  apply s_addStrike m1 (by omega)
  have h0 : Fp hset M M := Fp.rf
  refine hy _ ((h0.set (Or.inr (by omega))).set (Or.inl ⟨rfl, rfl⟩)) ⟨mset_s, ?_, fun i hi => ?_⟩
  · rw [mset_j (by decide), mset_k (by decide)]; exact m2
  · by_cases q : i = nh
    · subst q
      obtain ⟨e0, e1, _⟩ := hadd_s (H := H) (nh := i) (a := -1) (b := x) (c := 0) (x := 0) (r := 0)
      rw [e0, e1]
      exact ⟨fun _ => by simp [mset], fun z => absurd rfl z⟩
    · rw [hadd_o q, clH_o q]
      have m := m3 i (by omega)
      simp [mset, q]
      exact m
theorem s_unhear_r {nh : Nat} {kb : Int} {H : FTab} {M : Mem} {P : Int → Mem → Prop} {x : Int} (hM : MRf M nh kb H) (h24 : nh ≤ 24)
    (hy : (0 ≤ x ∧ x < nh) ∧ nh < 24 → ∀ M', Fp (fun k j => (k = 59 ∧ j = 46) ∨ (82 ≤ k ∧ k ≤ 86)) (mset M 59 0 0) M' → MRf M' (nh + 1) kb (hadd H nh (-1) x 0 0 0) → P (nh : Int) M') (hno : ¬ ((0 ≤ x ∧ x < nh) ∧ nh < 24) → P (-1) (mset M 59 0 0)) : CI m11_unhear 1 [(20, ((59 : Nat) : Int)), (0, x)] M P := by
  have hM0 : MRf (mset M 59 0 0) nh kb H := hM.fp (t := fun k j => k = 59 ∧ j = 0) (Fp.rf.set ⟨rfl, rfl⟩) (fun k j q => Or.inr (Or.inl (by omega)))
  apply q_11_unhear
  generalize mset M 59 0 0 = M0 at hM0 hy hno ⊢
  obtain ⟨m1, m2, m3⟩ := hM0
  simp only [mset_s, mset_k (show (59 : Nat) ≠ 82 by decide), mset_k (show (59 : Nat) ≠ 83 by decide), m1, Int.toNat_natCast]
  refine ⟨fun q => hno (by omega), fun q => ⟨fun q1 => hno (by omega), fun q1 => ⟨fun q2 => ⟨by omega, by omega, ?_⟩, fun q2 => hno (by omega)⟩⟩⟩
  have hy := hy (by omega)
  have e : w32 (w32 ((nh : Int) + 1) - 1) = (nh : Int) := by unfold w32; omega
  rw [e, w_1 (by omega)]
  have h0 : Fp (fun k j => (k = 59 ∧ j = 46) ∨ (82 ≤ k ∧ k ≤ 86)) M0 M0 := Fp.rf
  refine hy _ (((h0.set (Or.inr (by omega))).set (Or.inr (by omega))).set (Or.inl ⟨rfl, rfl⟩)) ⟨mset_s, ?_, fun i hi => ?_⟩
  · rw [mset_j (by decide), mset_k (by decide), mset_k (by decide)]; exact m2
  · by_cases q : i = nh
    · subst q
      obtain ⟨e0, e1, _⟩ := hadd_s (H := H) (nh := i) (a := -1) (b := x) (c := 0) (x := 0) (r := 0)
      rw [e0, e1]
      refine ⟨by simp [mset], by simp [mset], fun z => absurd rfl z⟩
    · rw [hadd_o q]
      have m := m3 i (by omega)
      simp [mset, q]
      exact m
theorem s_known {n nh : Nat} {kb : Int} {H : FTab} {ag C : Nat → Int} {Bg E : Nat → Nat} {M : Mem} {P : Int → Mem → Prop} {x : Int} (hM : MC M n ag C Bg E nh kb H)
    (hy : (-1 ≤ x ∧ x ≤ nh) → ∀ M', Fp (fun k j => k = 43 ∧ j = 6) M M' → MC M' n ag C Bg E nh x H → P 1 M') (hno : ¬ (-1 ≤ x ∧ x ≤ nh) → P 0 M) : CI m10_known 1 [(19, ((0 : Nat) : Int)), (0, x)] M P := by
  obtain ⟨m1, m2, m3⟩ := hM
  apply q_10_known
  rw [m1]
  refine ⟨fun q => hno (by omega), fun q => ⟨fun q1 => ?_, fun q1 => hno (by omega)⟩⟩
  refine hy (by omega) _ (Fp.rf.set ⟨rfl, rfl⟩) ⟨?_, mset_s, fun i hi => ?_⟩
  · rw [mset_j (by decide)]; exact m1
  · have m := m3 i hi
    simp only [mset_k (show (44 : Nat) ≠ 43 by decide), mset_k (show (45 : Nat) ≠ 43 by decide), mset_k (show (46 : Nat) ≠ 43 by decide), mset_k (show (47 : Nat) ≠ 43 by decide), mset_k (show (48 : Nat) ≠ 43 by decide)]
    exact m
theorem s_known_r {nh : Nat} {kb : Int} {H : FTab} {M : Mem} {P : Int → Mem → Prop} {x : Int} (hM : MRf M nh kb H)
    (hy : (-1 ≤ x ∧ x ≤ nh) → ∀ M', Fp (fun k j => k = 59 ∧ j = 47) (mset M 59 0 0) M' → MRf M' nh x H → P 1 M') (hno : ¬ (-1 ≤ x ∧ x ≤ nh) → P 0 (mset M 59 0 0)) : CI m11_known 1 [(20, ((59 : Nat) : Int)), (0, x)] M P := by
  have hM0 : MRf (mset M 59 0 0) nh kb H := hM.fp (t := fun k j => k = 59 ∧ j = 0) (Fp.rf.set ⟨rfl, rfl⟩) (fun k j q => Or.inr (Or.inl (by omega)))
  apply q_11_known
  generalize mset M 59 0 0 = M0 at hM0 hy hno ⊢
  obtain ⟨m1, m2, m3⟩ := hM0
  rw [m1]
  refine ⟨fun q => hno (by omega), fun q => ⟨fun q1 => ?_, fun q1 => hno (by omega)⟩⟩
  refine hy (by omega) _ (Fp.rf.set ⟨rfl, rfl⟩) ⟨?_, mset_s, fun i hi => ?_⟩
  · rw [mset_j (by decide)]; exact m1
  · have m := m3 i hi
    simp only [mset_k (show (82 : Nat) ≠ 59 by decide), mset_k (show (83 : Nat) ≠ 59 by decide), mset_k (show (84 : Nat) ≠ 59 by decide), mset_k (show (85 : Nat) ≠ 59 by decide), mset_k (show (86 : Nat) ≠ 59 by decide)]
    exact m
