/-! the reference: what it holds of the draft; the end of a line -/
def LRx (M : Mem) (L : LnS) (f : Nat) : Prop :=
  RY M 0 (L.1 7) L.2.2.2 ∧ M 59 17 = (L.1 8 : Int) ∧ M 61 5 = (L.1 1 : Int) ∧ M 61 6 = (L.1 2 : Int) ∧ M 61 7 = (L.1 3 : Int) ∧ M 61 8 = (L.1 5 : Int) ∧ (∀ i, i < L.1 1 → M 62 (5 + i) = L.2.1 0 i ∧ M 63 (5 + i) = L.2.1 1 i) ∧ (∀ i, i < L.1 3 → M 64 (5 + i) = L.2.1 2 i) ∧ (∀ i, i < L.1 3 ∨ (i = 5 ∧ L.1 6 = 1) → i ≠ f → M 65 (6 + i) = L.2.1 3 i ∧ M 66 (6 + i) = L.2.1 4 i) ∧ (L.1 6 = 0 → M 65 11 = 0 ∧ M 66 11 = 0) ∧ SameF (FrT M 24) L.2.2.1 (L.1 2)
def TD (M : Mem) (a b : Nat) : Prop := ∃ tb : Nat, M 59 16 = (tb : Int) ∧ tb < 64 ∧ tb.testBit 4 = decide (a ≠ 0) ∧ tb.testBit 5 = decide (b ≠ 0)
def LRd (M : Mem) (L : LnS) : Prop := LRx M L 6 ∧ TD M (L.1 4) (L.1 6)
/-- the cells of the draft -/
def dset (k j : Nat) : Prop := (k = 59 ∧ (j = 16 ∨ j = 17 ∨ j = 27 ∨ j = 28)) ∨ (k = 61 ∧ 5 ≤ j ∧ j < 10) ∨ (62 ≤ k ∧ k ≤ 64 ∧ 5 ≤ j ∧ j < 10) ∨ ((k = 65 ∨ k = 66) ∧ 6 ≤ j ∧ j < 12) ∨ ((k = 67 ∨ k = 68) ∧ 64 ≤ j) ∨ (69 ≤ k ∧ k ≤ 73 ∧ 24 ≤ j ∧ j < 48)
/-- what reading a line touches -/
def lnR (k j : Nat) : Prop := (k = 59 ∧ (j = 16 ∨ j = 17 ∨ (19 ≤ j ∧ j ≤ 24) ∨ j = 27 ∨ j = 28)) ∨ (k = 61 ∧ 5 ≤ j ∧ j < 10) ∨ (62 ≤ k ∧ k ≤ 64 ∧ 5 ≤ j ∧ j < 10) ∨ ((k = 65 ∨ k = 66) ∧ 6 ≤ j ∧ j < 12) ∨ ((k = 67 ∨ k = 68) ∧ 64 ≤ j) ∨ (69 ≤ k ∧ k ≤ 73 ∧ 24 ≤ j ∧ j < 48) ∨ k = 74 ∨ k = 75
theorem lnR_T {M M' : Mem} {t : Nat → Int} {n : Nat} (h : TRm M t n) (hF : Fp lnR M M') : TRm M' t n := h.fp hF (fun k j q => by unfold lnR at q; omega)
theorem tk_lnR {k j : Nat} (q : tkset k j) : lnR k j := by unfold tkset at q; unfold lnR; omega
theorem wr_lnR {k j : Nat} (q : wrset k j) : lnR k j := by unfold wrset at q; unfold lnR; omega
theorem LRx.fp {M M' : Mem} {L : LnS} {f : Nat} {q : Nat → Nat → Prop} (h : LRx M L f) (hF : Fp q M M') (hq : ∀ k j, q k j → tkset k j ∨ (k = 59 ∧ j = 16) ∨ k = 74 ∨ k = 75) (hl : L.2.2.2.length ≤ 64) (h1 : L.1 1 ≤ 5) (h2 : L.1 2 ≤ 24) (h3 : L.1 3 ≤ 5) : LRx M' L f := by
  obtain ⟨⟨r1, r2, r3, r4, r5⟩, d1, d2, d3, d4, d5, d6, d7, d8, d9, d10⟩ := h
  have e : ∀ k, 61 ≤ k → k ≤ 73 → M' k = M k := fun k z1 z2 => hF.row (fun j hc => by have := hq k j hc; unfold tkset at this; omega)
  have e59 : ∀ j, j = 17 ∨ j = 23 ∨ j = 27 ∨ j = 28 → M' 59 j = M 59 j := fun j z => hF 59 j (fun hc => by have := hq 59 j hc; unfold tkset at this; omega)
  unfold LRx RY FrT
  rw [e59 23 (by omega), e59 27 (by omega), e59 28 (by omega), e59 17 (by omega), e 61 (by omega) (by omega), e 62 (by omega) (by omega), e 63 (by omega) (by omega), e 64 (by omega) (by omega), e 65 (by omega) (by omega), e 66 (by omega) (by omega), e 67 (by omega) (by omega), e 68 (by omega) (by omega), e 69 (by omega) (by omega), e 70 (by omega) (by omega), e 71 (by omega) (by omega), e 72 (by omega) (by omega), e 73 (by omega) (by omega)]
  exact ⟨⟨r1, r2, r3, r4, r5⟩, d1, d2, d3, d4, d5, d6, d7, d8, d9, d10⟩
theorem TD.fp {M M' : Mem} {a b : Nat} {q : Nat → Nat → Prop} (h : TD M a b) (hF : Fp q M M') (hq : ¬ q 59 16) : TD M' a b := by
  unfold TD
  rw [hF 59 16 hq]
  exact h
/-- the sizes of a draft -/
def szL (L : LnS) : Prop := L.1 1 ≤ 5 ∧ L.1 2 ≤ 16 ∧ L.1 3 ≤ 5 ∧ L.1 7 ≤ 64 ∧ L.1 8 < 2000 ∧ L.2.2.2.length = L.1 7
theorem s_endR (hWR : WordR) {t : Nat → Int} {n c : Nat} {L : LnS} {M : Mem} {P : Mem → Prop} (hK : K0 M t n c) (hD : LRd M L) (hz : L.1 1 ≤ 5 ∧ L.1 2 ≤ 24 ∧ L.1 3 ≤ 5 ∧ L.1 8 < 2000 ∧ L.2.2.2.length ≤ 64)
    (hok : ∀ L', endF t n L c = .inl L' → ∀ M', Fp lnR M M' → K0 M' t n (L'.1 0) → LRd M' L' → P M') (hbad : ∀ f pl, endF t n L c = .inr (f, pl) → f ≠ 0 → ∀ M', Fp lnR M M' → RB M' f pl → P M') : A m11_line 901 0 353 [(20, ((59 : Nat) : Int)), (2, 0), (2, 0), (2, 0)] [] M (Kd P) := by
  have e59 : ksg 59 = 10032 := by decide
  obtain ⟨z1, z2, z3, z8, zl⟩ := hz
  unfold endF at hok hbad
  apply r_11_line_353
  refine ⟨fun _ => ?_, fun q => absurd hK.2.2.1 q⟩
  apply s_isSign hK.2.2.1 hK.2.1 (by omega)
  rw [e59]
  refine ⟨fun q => ?_, fun q => ?_⟩
  · rw [if_pos (bi_ne q)] at hok
    apply s_tokenW hWR hK
    intro M1 hF1 hK1
    have hD1 := hD.1.fp hF1 (fun k j q => Or.inl q) zl z1 z2 z3
    have hT1 := hD.2.fp hF1 (by unfold tkset; omega)
    apply r_11_line_382
    rw [hD1.2.1, w_1 (i := L.1 8) (by omega)]
    have fx : Fp (fun k j => k = 59 ∧ j = 17) M1 (mset M1 59 17 ((L.1 8 + 1 : Nat) : Int)) := Fp.rf.set ⟨rfl, rfl⟩
    obtain ⟨k1, k2, k3, k4⟩ := hK1
    refine hok _ rfl _ ((hF1.mono (fun k j q => tk_lnR q)).tr (fx.mono (fun k j q => by unfold lnR; omega))) ⟨k1.fp fx (fun k j q => by omega), k2.fp fx (fun j _ _ => by omega), by rw [mset_j (by decide)]; exact k3, k4⟩ ⟨?_, hT1.fp fx (by omega)⟩
    obtain ⟨⟨r1, r2, r3, r4, r5⟩, d1, d2, d3, d4, d5, d6, d7, d8, d9, d10⟩ := hD1
    have e : ∀ k, k ≠ 59 → mset M1 59 17 ((L.1 8 + 1 : Nat) : Int) k = M1 k := fun k z => fx.row (fun j => by omega)
    unfold LRx RY FrT
    rw [e 61 (by decide), e 62 (by decide), e 63 (by decide), e 64 (by decide), e 65 (by decide), e 66 (by decide), e 67 (by decide), e 68 (by decide), e 69 (by decide), e 70 (by decide), e 71 (by decide), e 72 (by decide), e 73 (by decide)]
    exact ⟨⟨by rw [mset_j (by decide)]; exact r1, by rw [mset_j (by decide)]; exact r2, by rw [mset_j (by decide)]; exact r3, r4, r5⟩, by rw [mset_s]; rfl, d2, d3, d4, d5, d6, d7, d8, d9, d10⟩
  · rw [if_neg (bi_eq q)] at hbad
    refine s_wrongW (f := 1) hK (fun M' hF hB => ?_)
    apply r_11_line_382
    refine hbad 1 _ rfl (by decide) _ ((hF.mono (fun k j q => wr_lnR q)).set (by unfold lnR; omega)) ⟨by rw [mset_j (by decide)]; exact hB.1, by rw [mset_j (by decide)]; exact hB.2⟩
theorem f_353 {M : Mem} {P : Mem → Prop} (h : M 59 23 ≠ 0) (hp : P M) : A m11_line 901 0 353 [(20, ((59 : Nat) : Int)), (2, 0), (2, 0), (2, 0)] [] M (Kd P) := by
  apply r_11_line_353
  exact ⟨fun q => absurd q h, fun _ => hp⟩
theorem f_118 {x : Int} {M : Mem} {P : Mem → Prop} (h : M 59 23 ≠ 0) (hp : P M) : A m11_line 901 0 118 [(20, ((59 : Nat) : Int)), (0, x), (2, 0), (2, 0)] [] M (Kd P) := by
  apply r_11_line_118
  exact ⟨fun q => absurd q h, fun _ => hp⟩
theorem RB.fp {M M' : Mem} {f pl : Nat} {q : Nat → Nat → Prop} (h : RB M f pl) (hF : Fp q M M') (hq : ¬ q 59 23 ∧ ¬ q 59 24) : RB M' f pl := by
  unfold RB
  rw [hF 59 23 hq.1, hF 59 24 hq.2]
  exact h
