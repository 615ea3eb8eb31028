/-! the reference's text -/
theorem s_half {p0 m : Nat} {M : Mem} {P : Mem → Prop} (ha : aln p0 = 2 * m) (hm : m ≤ 500) (h : ∀ M', Fp (fun k j => k = p0 ∧ j < m) M M' → (∀ j, j < m → M' p0 j = M p0 (m + j)) → P M') : CD m11_half 1 [(30, (p0 : Int))] M P := by
  have ew : w32 (Int.tdiv ((aln p0 : Nat) : Int) 2) = (m : Int) := by
    rw [ha]
    have e : Int.tdiv ((2 * m : Nat) : Int) 2 = ((2 * m / 2 : Nat) : Int) := rfl
    rw [e, Nat.mul_div_cancel_left m (by decide), w32_id (by omega) (by omega)]
  apply q_11_half
  rw [ew]
  refine loop_up (Inv := fun i M1 => Fp (fun k j => k = p0 ∧ j < m) M M1 ∧ (∀ j, m ≤ j → M1 p0 j = M p0 j) ∧ ∀ j, j < i → M1 p0 j = M p0 (m + j)) (G := fun i M1 => A m11_half 1 0 7 [(30, (p0 : Int)), (0, (m : Int)), (0, (i : Int))] [] M1 (Kd P)) m ?_ ?_ 0 M (Nat.zero_le _) ⟨Fp.rf, fun _ _ => rfl, fun j hj => absurd hj (Nat.not_lt_zero j)⟩
  · rintro M1 ⟨i1, i2, i3⟩
    apply r_11_half_7
    exact ⟨fun _ => h M1 i1 i3, fun q => absurd q (by omega)⟩
  · rintro k M1 hk ⟨i1, i2, i3⟩ ih
    have e : w32 ((m : Int) + (k : Int)) = ((m + k : Nat) : Int) := by rw [w32_id (by omega) (by omega)]; omega
    apply r_11_half_7
    rw [e, Int.toNat_natCast, Int.toNat_natCast, w_1 (i := k) (by omega)]
    refine ⟨fun q => absurd q (by omega), fun _ => ⟨by rw [ha]; omega, by rw [ha]; omega, ?_⟩⟩
    refine ih _ ⟨i1.set ⟨rfl, hk⟩, fun j hj => ?_, fun j hj => ?_⟩
    · rw [mset_j (by omega)]; exact i2 j hj
    · by_cases q : j = k
      · subst q; rw [mset_s]; exact i2 _ (by omega)
      · rw [mset_j q]; exact i3 j (by omega)
/-- what a TEXT that is told leaves in the reference -/
def SLr (M : Mem) (L : LnS) : Prop :=
  M 61 0 = (L.1 1 : Int) ∧ M 61 2 = (L.1 3 : Int) ∧ M 59 32 = (L.1 5 : Int) ∧ M 61 4 = (L.1 7 : Int) ∧ (∀ j, j < L.1 1 → M 62 j = L.2.1 0 j ∧ M 63 j = L.2.1 1 j) ∧ (∀ j, j < L.1 3 → M 64 j = L.2.1 2 j) ∧ (∀ i, i < L.2.2.2.length → enc (M 67 i) (M 68 i) = L.2.2.2.getD i 0 ∧ kval (M 67 i) (M 68 i)) ∧ (∀ i, i < L.1 3 ∨ (i = 5 ∧ L.1 6 = 1) → M 65 i = L.2.1 3 i ∧ M 66 i = L.2.1 4 i) ∧ (L.1 6 = 0 → M 66 5 = M 65 5) ∧ M 59 31 = (L.1 2 : Int) ∧ SameF (FrT M 0) L.2.2.1 (L.1 2) ∧ M 59 46 = 0 ∧ M 59 47 = -1 ∧ M 59 33 = 0
/-- the lower halves, and what else is set at the end -/
def tlR (k j : Nat) : Prop := (61 ≤ k ∧ k ≤ 68) ∨ (69 ≤ k ∧ k ≤ 73) ∨ (k = 59 ∧ (j = 31 ∨ j = 32 ∨ j = 33 ∨ j = 46 ∨ j = 47))
theorem s_tailR {L : LnS} {M : Mem} {P : Int → Mem → Prop} (hW : WFL L) (hD : LRx M L 6) (h : ∀ M', Fp tlR M M' → SLr M' L → P (L.1 8 : Int) M') : tailR P M := by
  obtain ⟨w1, w2, w3, w7, wl, w5, w6, wg, wn, wf⟩ := hW
  obtain ⟨⟨r1, r2, r3, r4, r5⟩, d17, d61, d62, d63, d64, dn, dq, df, dr, dF⟩ := hD
  unfold tailR
  refine s_half (m := 5) (by decide) (by decide) ?_
  intro M1 hF1 e1
  refine s_half (m := 5) (by decide) (by decide) ?_
  intro M2 hF2 e2
  refine s_half (m := 5) (by decide) (by decide) ?_
  intro M3 hF3 e3
  refine s_half (m := 5) (by decide) (by decide) ?_
  intro M4 hF4 e4
  refine s_half (m := 6) (by decide) (by decide) ?_
  intro M5 hF5 e5
  refine s_half (m := 6) (by decide) (by decide) ?_
  intro M6 hF6 e6
  refine s_half (m := 64) (by decide) (by decide) ?_
  intro M7 hF7 e7
  refine s_half (m := 64) (by decide) (by decide) ?_
  intro M8 hF8 e8
  have hFa : Fp (fun k _ => 61 ≤ k ∧ k ≤ 68) M M8 := ((((((((hF1.mono (fun k j q => by omega) : Fp (fun k _ => 61 ≤ k ∧ k ≤ 68) M M1).tr (hF2.mono (fun k j q => by omega))).tr (hF3.mono (fun k j q => by omega))).tr (hF4.mono (fun k j q => by omega))).tr (hF5.mono (fun k j q => by omega))).tr (hF6.mono (fun k j q => by omega))).tr (hF7.mono (fun k j q => by omega))).tr (hF8.mono (fun k j q => by omega)))
  have g61 : ∀ j, j < 5 → M8 61 j = M 61 (5 + j) := fun j hj => by
    rw [hF8 61 j (by omega), hF7 61 j (by omega), hF6 61 j (by omega), hF5 61 j (by omega), hF4 61 j (by omega), hF3 61 j (by omega), hF2 61 j (by omega)]; exact e1 j hj
  have g62 : ∀ j, j < 5 → M8 62 j = M 62 (5 + j) := fun j hj => by
    rw [hF8 62 j (by omega), hF7 62 j (by omega), hF6 62 j (by omega), hF5 62 j (by omega), hF4 62 j (by omega), hF3 62 j (by omega), e2 j hj, hF1 62 _ (by omega)]
  have g63 : ∀ j, j < 5 → M8 63 j = M 63 (5 + j) := fun j hj => by
    rw [hF8 63 j (by omega), hF7 63 j (by omega), hF6 63 j (by omega), hF5 63 j (by omega), hF4 63 j (by omega), e3 j hj, hF2 63 _ (by omega), hF1 63 _ (by omega)]
  have g64 : ∀ j, j < 5 → M8 64 j = M 64 (5 + j) := fun j hj => by
    rw [hF8 64 j (by omega), hF7 64 j (by omega), hF6 64 j (by omega), hF5 64 j (by omega), e4 j hj, hF3 64 _ (by omega), hF2 64 _ (by omega), hF1 64 _ (by omega)]
  have g65 : ∀ j, j < 6 → M8 65 j = M 65 (6 + j) := fun j hj => by
    rw [hF8 65 j (by omega), hF7 65 j (by omega), hF6 65 j (by omega), e5 j hj, hF4 65 _ (by omega), hF3 65 _ (by omega), hF2 65 _ (by omega), hF1 65 _ (by omega)]
  have g66 : ∀ j, j < 6 → M8 66 j = M 66 (6 + j) := fun j hj => by
    rw [hF8 66 j (by omega), hF7 66 j (by omega), e6 j hj, hF5 66 _ (by omega), hF4 66 _ (by omega), hF3 66 _ (by omega), hF2 66 _ (by omega), hF1 66 _ (by omega)]
  have g67 : ∀ j, j < 64 → M8 67 j = M 67 (64 + j) := fun j hj => by
    rw [hF8 67 j (by omega), e7 j hj, hF6 67 _ (by omega), hF5 67 _ (by omega), hF4 67 _ (by omega), hF3 67 _ (by omega), hF2 67 _ (by omega), hF1 67 _ (by omega)]
  have g68 : ∀ j, j < 64 → M8 68 j = M 68 (64 + j) := fun j hj => by
    rw [e8 j hj, hF7 68 _ (by omega), hF6 68 _ (by omega), hF5 68 _ (by omega), hF4 68 _ (by omega), hF3 68 _ (by omega), hF2 68 _ (by omega), hF1 68 _ (by omega)]
  have e31 : mset M8 59 31 (M8 61 1) 59 31 = ((L.1 2 : Nat) : Int) := by rw [mset_s, g61 1 (by omega)]; exact d62
  rw [e31]
  have f31 : Fp (fun k j => k = 59 ∧ j = 31) M8 (mset M8 59 31 (M8 61 1)) := Fp.rf.set ⟨rfl, rfl⟩
  have hFb : Fp (fun k j => (61 ≤ k ∧ k ≤ 68) ∨ (k = 59 ∧ j = 31)) M (mset M8 59 31 (M8 61 1)) := (hFa.mono (fun k j q => Or.inl q)).tr (f31.mono (fun k j q => Or.inr q))
  have eF : FrT (mset M8 59 31 (M8 61 1)) 24 = FrT M 24 := by
    have e : ∀ k, 69 ≤ k → mset M8 59 31 (M8 61 1) k = M k := fun k hk => hFb.row (fun j => by omega)
    unfold FrT
    rw [e 69 (by decide), e 70 (by decide), e 71 (by decide), e 72 (by decide), e 73 (by decide)]
  refine s_copyFacts (d := 0) (s := 24) (n := L.1 2) (by omega) (by omega) (by omega) (fun i hi => ?_) ?_
  · have h4 := dF i hi 4 (by omega)
    have h5 := (wg.2 i hi).2.2
    rw [← h4] at h5
    have e73 : mset M8 59 31 (M8 61 1) 73 (24 + i) = M 73 (24 + i) := hFb 73 _ (by omega)
    rw [e73]; exact h5
  · intro M9 hF9 hs9
    rw [eF] at hs9
    have hs : SameF (FrT M9 0) L.2.2.1 (L.1 2) := fun i hi c hc => (hs9 i hi c hc).trans (dF i hi c hc)
    have e9 : ∀ k, k ≤ 68 → M9 k = mset M8 59 31 (M8 61 1) k := fun k hk => hF9.row (fun j => by unfold cpy; omega)
    have hFc : Fp tlR M (mset (mset (mset (mset M9 59 32 (M9 61 3)) 59 46 0) 59 47 (-1)) 59 33 0) := by
      refine Fp.set (Fp.set (Fp.set (Fp.set ((hFb.mono (fun k j q => by unfold tlR; omega)).tr (hF9.mono (fun k j q => by unfold cpy at q; unfold tlR; omega))) ?_) ?_) ?_) ?_ <;> (unfold tlR; omega)
    have z61 : M9 61 3 = (L.1 5 : Int) := by rw [e9 61 (by decide), mset_k (by decide), g61 3 (by omega)]; exact d64
    have v17 : mset (mset (mset (mset M9 59 32 (M9 61 3)) 59 46 0) 59 47 (-1)) 59 33 0 59 17 = (L.1 8 : Int) := by
      rw [hFc 59 17 (by unfold tlR; omega)]; exact d17
    have v32 : mset (mset (mset (mset M9 59 32 (M9 61 3)) 59 46 0) 59 47 (-1)) 59 33 0 59 32 = (L.1 5 : Int) := by
      rw [mset_j (by decide), mset_j (by decide), mset_j (by decide), mset_s]; exact z61
    have v31 : mset (mset (mset (mset M9 59 32 (M9 61 3)) 59 46 0) 59 47 (-1)) 59 33 0 59 31 = (L.1 2 : Int) := by
      rw [mset_j (by decide), mset_j (by decide), mset_j (by decide), mset_j (by decide), e9 59 (by decide)]; exact e31
    have v46 : mset (mset (mset (mset M9 59 32 (M9 61 3)) 59 46 0) 59 47 (-1)) 59 33 0 59 46 = 0 := by
      rw [mset_j (by decide), mset_j (by decide), mset_s]
    have v47 : mset (mset (mset (mset M9 59 32 (M9 61 3)) 59 46 0) 59 47 (-1)) 59 33 0 59 47 = -1 := by
      rw [mset_j (by decide), mset_s]
    have v33 : mset (mset (mset (mset M9 59 32 (M9 61 3)) 59 46 0) 59 47 (-1)) 59 33 0 59 33 = 0 := mset_s
    have er : ∀ k, 61 ≤ k → k ≤ 68 → mset (mset (mset (mset M9 59 32 (M9 61 3)) 59 46 0) 59 47 (-1)) 59 33 0 k = M8 k := fun k h1 h2 => funext fun j => by
      rw [mset_k (by omega), mset_k (by omega), mset_k (by omega), mset_k (by omega), e9 k h2, mset_k (by omega)]
    have eG : FrT (mset (mset (mset (mset M9 59 32 (M9 61 3)) 59 46 0) 59 47 (-1)) 59 33 0) 0 = FrT M9 0 := by
      have e : ∀ k, 69 ≤ k → mset (mset (mset (mset M9 59 32 (M9 61 3)) 59 46 0) 59 47 (-1)) 59 33 0 k = M9 k := fun k hk => funext fun j => by
        rw [mset_k (by omega), mset_k (by omega), mset_k (by omega), mset_k (by omega)]
      unfold FrT
      rw [e 69 (by decide), e 70 (by decide), e 71 (by decide), e 72 (by decide), e 73 (by decide)]
    rw [← eG] at hs
    rw [v17]
    generalize mset (mset (mset (mset M9 59 32 (M9 61 3)) 59 46 0) 59 47 (-1)) 59 33 0 = MX at hFc v32 v31 v46 v47 v33 er hs
    refine h MX hFc ⟨?_, ?_, v32, ?_, ?_, ?_, ?_, ?_, ?_, v31, hs, v46, v47, v33⟩
    · rw [er 61 (by decide) (by decide), g61 0 (by omega)]; exact d61
    · rw [er 61 (by decide) (by decide), g61 2 (by omega)]; exact d63
    · rw [er 61 (by decide) (by decide), g61 4 (by omega)]; rw [← wl]; exact r4
    · intro j hj
      rw [er 62 (by decide) (by decide), er 63 (by decide) (by decide), g62 j (by omega), g63 j (by omega)]; exact dn j hj
    · intro j hj
      rw [er 64 (by decide) (by decide), g64 j (by omega)]; exact dq j hj
    · intro i hi
      rw [er 67 (by decide) (by decide), er 68 (by decide) (by decide), g67 i (by omega), g68 i (by omega)]; exact r5 i hi
    · intro i hi
      rw [er 65 (by decide) (by decide), er 66 (by decide) (by decide), g65 i (by omega), g66 i (by omega)]; exact df i hi (by omega)
    · intro h0
      obtain ⟨u1, u2⟩ := dr h0
      rw [er 65 (by decide) (by decide), er 66 (by decide) (by decide), g65 5 (by omega), g66 5 (by omega)]
      exact u2.trans u1.symm
