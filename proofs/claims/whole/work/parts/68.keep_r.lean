/-! keep and back of the reference -/
def cpy (d n : Nat) (k j : Nat) : Prop := (69 ≤ k ∧ k ≤ 73) ∧ d ≤ j ∧ j < d + n
theorem s_copyFacts {d s n : Nat} {M : Mem} {P : Mem → Prop} (hd : d + n ≤ 72) (hs : s + n ≤ 72) (hne : d + n ≤ s ∨ s + n ≤ d) (h4 : ∀ i, i < n → M 73 (s + i) = 0 ∨ M 73 (s + i) = 1)
    (h : ∀ M', Fp (cpy d n) M M' → SameF (FrT M' d) (FrT M s) n → P M') : CD m11_copyFacts 2 [(20, ((59 : Nat) : Int)), (0, (d : Int)), (0, (s : Int)), (0, (n : Int))] M P := by
  apply q_11_copyFacts
  refine loop_up (Inv := fun i M1 => Fp (cpy d n) M M1 ∧ SameF (FrT M1 d) (FrT M s) i) (G := fun i M1 => A m11_copyFacts 2 0 3 [(20, ((59 : Nat) : Int)), (0, (d : Int)), (0, (s : Int)), (0, (n : Int)), (0, (i : Int))] [] M1 (Kd P)) n ?_ ?_ 0 M (Nat.zero_le _) ⟨Fp.rf, fun i hi => by omega⟩
  · rintro M1 ⟨hF, hm⟩
    apply r_11_copyFacts_3
    exact ⟨fun _ => h M1 hF hm, fun q => by omega⟩
  · rintro i M1 hi ⟨hF, hm⟩ ih
    have e1 : w32 ((s : Int) + (i : Int)) = ((s + i : Nat) : Int) := by unfold w32; omega
    have e2 : w32 ((d : Int) + (i : Int)) = ((d + i : Nat) : Int) := by unfold w32; omega
    have src : ∀ k, M1 k (s + i) = M k (s + i) := fun k => hF k (s + i) (by unfold cpy; omega)
    apply r_11_copyFacts_3
    rw [e1, e2, Int.toNat_natCast, src 69, src 70, src 71, src 72, w_1 (by omega), Int.toNat_natCast]
    refine ⟨fun q => by omega, fun _ => ⟨by omega, by omega, by omega, by omega, ?_⟩⟩
    apply s_lays (b := d) (n := i) (by omega) rfl
    intro M2 hF2 hm2
    have hF3 : Fp (cpy d n) M M2 := hF.tr (hF2.mono (fun k j q => by unfold cpy; omega))
    have src2 : M2 73 (s + i) = M 73 (s + i) := hF3 73 (s + i) (by unfold cpy; omega)
    rw [src2]
    refine ⟨by omega, by omega, h4 i hi, ?_⟩
    refine ih _ ⟨hF3.set ⟨by omega, by omega, by omega⟩, fun j hj c hc => ?_⟩
    obtain ⟨g0, g1, g2, g3, g4⟩ := hadd_s (H := FrT M1 d) (nh := i) (a := M 69 (s + i)) (b := M 70 (s + i)) (c := M 71 (s + i)) (x := M 72 (s + i)) (r := 0)
    have hz := hm2 j hj c hc
    by_cases q : j = i
    · subst q
      match c, hc with
      | 0, _ => rw [g0] at hz; exact Eq.trans (by simp [FrT, mset]) hz
      | 1, _ => rw [g1] at hz; exact Eq.trans (by simp [FrT, mset]) hz
      | 2, _ => rw [g2] at hz; exact Eq.trans (by simp [FrT, mset]) hz
      | 3, _ => rw [g3] at hz; exact Eq.trans (by simp [FrT, mset]) hz
      | 4, _ => simp [FrT, mset]
    · rw [hadd_o q, hm j (by omega) c hc] at hz
      rw [← hz]
      match c, hc with
      | 0, _ => simp [FrT, mset]
      | 1, _ => simp [FrT, mset]
      | 2, _ => simp [FrT, mset]
      | 3, _ => simp [FrT, mset]
      | 4, _ => simp [FrT, mset, q]
theorem FrT_fp {M M1 : Mem} {b n : Nat} {t : Nat → Nat → Prop} (hF : Fp t M M1) (ht : ∀ k j, t k j → k < 69 ∨ 73 < k ∨ j < b ∨ b + n ≤ j) : SameF (FrT M1 b) (FrT M b) n := fun i hi c hc => by
  have e : ∀ k, 69 ≤ k → k ≤ 73 → M1 k (b + i) = M k (b + i) := fun k h1 h2 => hF k (b + i) (fun z => by have := ht k (b + i) z; omega)
  match c, hc with
  | 0, _ => exact e 69 (by omega) (by omega)
  | 1, _ => exact e 70 (by omega) (by omega)
  | 2, _ => exact e 71 (by omega) (by omega)
  | 3, _ => exact e 72 (by omega) (by omega)
  | 4, _ => exact e 73 (by omega) (by omega)
def krs (k j : Nat) : Prop := ((69 ≤ k ∧ k ≤ 73) ∧ 48 ≤ j ∧ j < 72) ∨ (k = 59 ∧ (j = 33 ∨ j = 34 ∨ j = 35))
theorem s_keep_r {pp n nf : Nat} {s : Int} {F : FTab} {ag C : Nat → Int} {Bg E : Nat → Nat} {M : Mem} {P : Int → Mem → Prop} (hS : SR M pp n s nf F ag C Bg E) (hf : SF pp s nf F)
    (h : ∀ M', Fp krs (mset M 59 0 0) M' → SR M' pp n s nf F ag C Bg E → IRf M' 1 s nf F → P (nf : Int) M') : CI m11_keep 3 [(20, ((59 : Nat) : Int))] M P := by
  have hS0 := hS.th (v := 0)
  have h24 := hf.2.2.1
  apply q_11_keep
  generalize mset M 59 0 0 = M0 at hS0 h ⊢
  rw [hS0.2.2.2.2.1]
  have hsm := hS0.2.2.2.2.2
  refine s_copyFacts (d := 48) (s := 0) (n := nf) (by omega) (by omega) (by omega) (fun i hi => ?_) ?_
  · have e4 : M0 73 (0 + i) = F i 4 := hsm i hi 4 (by omega)
    rw [e4]; exact (hf.2.2.2.1.2 i hi).2.2
  · intro M1 hF1 hm1
    have e31 : M1 59 31 = (nf : Int) := by rw [hF1 59 31 (by unfold cpy; omega)]; exact hS0.2.2.2.2.1
    have e32 : M1 59 32 = s := by rw [hF1 59 32 (by unfold cpy; omega)]; exact hS0.2.1
    have h0 : Fp krs M0 M1 := hF1.mono (fun k j q => by unfold cpy at q; unfold krs; omega)
    have e32' : (mset M1 59 34 (M1 59 31)) 59 32 = s := by rw [mset_j (by decide)]; exact e32
    rw [e32', e31]
    have hF := ((h0.set (k := 59) (j := 34) (v := (nf : Int)) (Or.inr (by omega))).set (k := 59) (j := 35) (v := s) (Or.inr (by omega))).set (k := 59) (j := 33) (v := 1) (Or.inr (by omega))
    have hS' := hS0.up (t := krs) (s' := s) (nf' := nf) (F' := F) hF (fun k j z => by unfold krs at z; omega) (by rw [mset_j (by decide), mset_j (by decide), mset_j (by decide)]; exact e32) (by rw [mset_j (by decide), mset_j (by decide), mset_j (by decide)]; exact e31) ((FrT_fp hF (fun k j z => by unfold krs at z; omega)).tr hsm)
    rw [hS'.2.2.2.2.1]
    refine h _ hF hS' ⟨mset_s, fun _ => ⟨?_, ?_, ?_⟩⟩
    · rw [mset_j (by decide), mset_s]
    · rw [mset_j (by decide), mset_j (by decide), mset_s]
    · rw [FrT_o (by decide), FrT_o (by decide), FrT_o (by decide)]
      exact hm1.tr hsm
def brs (k j : Nat) : Prop := ((69 ≤ k ∧ k ≤ 73) ∧ j < 24) ∨ (k = 59 ∧ (j = 31 ∨ j = 32))
theorem s_back_r {pp n nf nif : Nat} {s kp is : Int} {F IF : FTab} {ag C : Nat → Int} {Bg E : Nat → Nat} {M : Mem} {P : Int → Mem → Prop} (hS : SR M pp n s nf F ag C Bg E) (hI : IRf M kp is nif IF) (hif : kp ≠ 0 → SF pp is nif IF)
    (hy : kp ≠ 0 → ∀ M', Fp brs (mset M 59 0 0) M' → SR M' pp n is nif IF ag C Bg E → IRf M' kp is nif IF → P (nif : Int) M') (hno : kp = 0 → P (-1) (mset M 59 0 0)) : CI m11_back 3 [(20, ((59 : Nat) : Int))] M P := by
  have hS0 := hS.th (v := 0)
  have hI0 : IRf (mset M 59 0 0) kp is nif IF := by
    unfold IRf
    rw [mset_j (by decide), mset_j (by decide), mset_j (by decide), FrT_o (by decide)]
    exact hI
  apply q_11_back
  generalize mset M 59 0 0 = M0 at hS0 hI0 hy hno ⊢
  obtain ⟨i1, i2⟩ := hI0
  rw [i1]
  refine ⟨fun q => ?_, hno⟩
  have hf := hif q
  have h24 := hf.2.2.1
  obtain ⟨j1, j2, j3⟩ := i2 q
  rw [j2]
  refine s_copyFacts (d := 0) (s := 48) (n := nif) (by omega) (by omega) (by omega) (fun i hi => ?_) ?_
  · have e4 : M0 73 (48 + i) = IF i 4 := j3 i hi 4 (by omega)
    rw [e4]; exact (hf.2.2.2.1.2 i hi).2.2
  · intro M1 hF1 hm1
    have e34 : M1 59 34 = (nif : Int) := by rw [hF1 59 34 (by unfold cpy; omega)]; exact j2
    have e35 : M1 59 35 = is := by rw [hF1 59 35 (by unfold cpy; omega)]; exact j1
    have h0 : Fp brs M0 M1 := hF1.mono (fun k j q => by unfold cpy at q; unfold brs; omega)
    have e35' : (mset M1 59 31 (M1 59 34)) 59 35 = is := by rw [mset_j (by decide)]; exact e35
    rw [e35', e34]
    have hF := (h0.set (k := 59) (j := 31) (v := (nif : Int)) (Or.inr (by omega))).set (k := 59) (j := 32) (v := is) (Or.inr (by omega))
    have hS' := hS0.up (t := brs) (s' := is) (nf' := nif) (F' := IF) hF (fun k j z => by unfold brs at z; omega) mset_s (by rw [mset_j (by decide), mset_s]) (by rw [FrT_o (by decide), FrT_o (by decide)]; exact hm1.tr j3)
    rw [hS'.2.2.2.2.1]
    refine hy q _ hF hS' ⟨?_, fun _ => ⟨?_, ?_, ?_⟩⟩
    · rw [hF 59 33 (by unfold brs; omega)]; exact i1
    · rw [hF 59 35 (by unfold brs; omega)]; exact j1
    · rw [hF 59 34 (by unfold brs; omega)]; exact j2
    · exact (FrT_fp (b := 48) (n := nif) hF (fun k j z => by unfold brs at z; omega)).tr j3
