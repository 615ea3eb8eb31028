/-! RISE in the class: learn, rise -/
def lset (w k j : Nat) : Prop := k = 53 ∧ 8 * w ≤ j ∧ j < 8 * w + 8
theorem s_learn {w : Nat} {B : Nat → Nat → Bool} {M : Mem} {P : Mem → Prop} (hw : w < 4) (hB : rows M 37 B) (h : ∀ M', Fp (lset w) M M' → (∀ p, p < 8 → M' 53 (8 * w + p) = (mk (B p) : Int)) → P M') : CD m1_learn 3 [(11, ((52 : Nat) : Int)), (0, (w : Int)), (15, ((34 : Nat) : Int))] M P := by
  have a5 : ((aln 53 : Nat) : Int) = 32 ∧ ((aln 37 : Nat) : Int) = 8 := by decide
  apply q_1_learn
  refine loop_up (Inv := fun k M1 => Fp (lset w) M M1 ∧ ∀ p, p < k → M1 53 (8 * w + p) = (mk (B p) : Int)) (G := fun k M1 => A m1_learn 3 0 2 [(11, ((52 : Nat) : Int)), (0, (w : Int)), (15, ((34 : Nat) : Int)), (0, (k : Int))] [] M1 (Kd P)) 8 ?_ ?_ 0 M (by omega) ⟨Fp.rf, fun p hp => by omega⟩
  · rintro M1 ⟨hF, hall⟩
    apply r_1_learn_2
    exact ⟨fun _ => h M1 hF hall, fun q => by omega⟩
  · rintro k M1 hk ⟨hF, hall⟩ ih
    apply r_1_learn_2
    refine ⟨fun q => by omega, fun _ => ?_⟩
    apply q_5_belowOf
    apply s_at (by omega) (by show (k : Int) < ((aln 37 : Nat) : Int); omega)
    have e : w32 (w32 ((w : Int) * 8) + (k : Int)) = ((8 * w + k : Nat) : Int) := by
      rw [w32_id (z := (w : Int) * 8) (by omega) (by omega), w32_id (by omega) (by omega)]; omega
    rw [e, w_1 (i := k) (by omega), Int.toNat_natCast]
    have e37 : M1 (34 + 3) k = (mk (B k) : Int) := by rw [hF (34 + 3) k (by unfold lset; omega)]; exact hB k hk
    rw [e37]
    apply s_put (by omega) (by omega)
    rw [Int.toNat_natCast]
    refine ih _ ⟨hF.set ⟨rfl, by omega, by omega⟩, fun p hp => ?_⟩
    by_cases z : p = k
    · subst z; exact mset_s
    · rw [mset_j (by omega)]; exact hall p (by omega)
def ordO (pp nf : Nat) (F : FTab) (w : Nat) : Nat → Nat → Bool := abv F nf pp (w : Int)
def riseV (pp n : Nat) (s : Int) (nf : Nat) (F : FTab) (ag C : Nat → Int) (Bg E : Nat → Nat) (rt : Bool) (a b k : Int) : Int :=
  if isTwo pp a b ∧ -1 ≤ k then rsV (bfs (mayR rt (ordO pp nf F) ag pp C Bg E a.toNat) (fun r => ovR (ordO pp nf F) r a.toNat b.toNat) pp a.toNat 480 0 (X0 s.toNat)) k else -1
theorem RTC.csf {M M' : Mem} {rt : Bool} {C : Nat → Int} {Bg E : Nat → Nat} (h : RTC M rt C Bg E) (hF : Fp csp M M') : RTC M' rt C Bg E := by
  unfold RTC
  rw [hF.row (k := 21) (fun j => by unfold csp cs; omega), hF.row (k := 27) (fun j => by unfold csp cs; omega), hF.row (k := 28) (fun j => by unfold csp cs; omega)]
  exact h
theorem s_rise {pp n nf : Nat} {s : Int} {F : FTab} {ag C : Nat → Int} {Bg E : Nat → Nat} {rt : Bool} {M : Mem} {P : Int → Mem → Prop} {a b k : Int} (hS : SC M pp n s nf F ag C Bg E) (hf : SF pp s nf F) (hRt : RTC M rt C Bg E)
    (h : ∀ M', Fp csp M M' → P (riseV pp n s nf F ag C Bg E rt a b k) M') : CI m10_rise 8 [(19, ((0 : Nat) : Int)), (0, a), (0, b), (0, k)] M P := by
  have hp := hf.1
  unfold riseV at h
  apply q_10_rise
  apply s_areTwo hS.1
  refine ⟨fun q => ?_, fun q => ⟨fun q1 => ?_, fun q1 => ?_⟩⟩
  · have := h M Fp.rf
    rwa [if_neg (fun z => bi_eq q z.1)] at this
  · rw [if_pos ⟨bi_ne q, q1⟩] at h
    obtain ⟨a', b', rfl, rfl, ha, hb, _⟩ := two_nat (bi_ne q)
    simp only [Int.toNat_natCast] at h
    refine loop_up (Inv := fun w M1 => Fp csp M M1 ∧ ∀ x p, x < w → p < 5 → M1 53 (8 * x + p) = (mk (ordO pp nf F x p) : Int)) (G := fun w M1 => A m10_rise 8 0 19 [(19, ((0 : Nat) : Int)), (0, (a' : Int)), (0, (b' : Int)), (0, k), (0, (w : Int))] [] M1 (Ki P)) 4 ?_ ?_ 0 M (by omega) ⟨Fp.rf, fun x p hx => by omega⟩
    · rintro M1 ⟨hF1, hall⟩
      have hS1 := hS.fp hF1 (fun k j q => Or.inl q)
      have hR1 := hRt.csf hF1
      have hs := hf.2.1
      have es : M1 0 5 = ((s.toNat : Nat) : Int) := by rw [hS1.2.1]; omega
      apply r_10_rise_19
      rw [es]
      refine ⟨fun _ => ?_, fun q => by omega⟩
      have srs : ∀ {M2 : Mem}, Fp srset M1 M2 → Fp csp M M2 := fun hF2 => hF1.tr (hF2.mono (fun k j q => by unfold srset clset at q; unfold csp cs; omega))
      refine s_search (w := s.toNat) (p := b') hp hS1 hR1 hall (by omega) ha hb ?_ ?_
      · intro e M2 hF2
        rw [e] at h
        exact ⟨fun _ => h M2 (srs hF2), fun q => absurd rfl q⟩
      · intro X g e hX hg M2 hF2 hR2 h7
        rw [e] at h
        unfold rsV at h
        have hle := okX_le hX
        obtain ⟨d1, d2, d3, d4⟩ := dpt_of (o := X.2.2.1) (m := X.1) (fun i h0 hi => (hX.2.2.2 i h0 hi).1) g g hg (Nat.le_refl g)
        have h' := h M2 (srs hF2)
        refine ⟨fun q => by omega, fun _ => ⟨fun q2 => ⟨fun q3 => ?_, fun q3 => ?_⟩, fun q2 => ?_⟩⟩
        · have h' : P (if k = -1 then (dpt X.2.2.1 g g : Int) else if (dpt X.2.2.1 g g : Int) ≤ k then -2 else (X.2.2.2 (itr X.2.2.1 g (dpt X.2.2.1 g g - 1 - k.toNat)) : Int)) M2 := h'
          rw [if_neg q3, if_neg (by omega)] at h'
          obtain ⟨k', rfl⟩ : ∃ k' : Nat, k = (k' : Int) := ⟨k.toNat, by omega⟩
          rw [Int.toNat_natCast] at h'
          exact s_hearerOfStep hX hR2 hg h7 (by omega) h'
        · have h' : P (if k = -1 then (dpt X.2.2.1 g g : Int) else if (dpt X.2.2.1 g g : Int) ≤ k then -2 else (X.2.2.2 (itr X.2.2.1 g (dpt X.2.2.1 g g - 1 - k.toNat)) : Int)) M2 := h'
          rwa [if_pos q3] at h'
        · have h' : P (if k = -1 then (dpt X.2.2.1 g g : Int) else if (dpt X.2.2.1 g g : Int) ≤ k then -2 else (X.2.2.2 (itr X.2.2.1 g (dpt X.2.2.1 g g - 1 - k.toNat)) : Int)) M2 := h'
          rwa [if_neg (by omega), if_pos q2] at h'
    · rintro w M1 hw ⟨hF1, hall⟩ ih
      have hS1 := hS.fp hF1 (fun k j q => Or.inl q)
      apply r_10_rise_19
      rw [hS1.1, w_1 (i := w) (by omega)]
      refine ⟨fun q => by omega, fun _ => ?_⟩
      -- build writes the ORDER's own cells alone
      have hsame := hS1.2.2.2.2.2
      apply s_build isO34 hp (hS1.fok hf) (by omega)
      rw [lvl_same hsame nf (Nat.le_refl nf), ob_same hsame nf (Nat.le_refl nf), abv_same hsame]
      intro M2 hF2 _ _ _ hr
      apply s_learn hw hr
      intro M3 hF3 hn
      have hF4 : Fp csp M M3 := hF1.tr ((hF2.cs (fun k hk => by unfold oset at hk; unfold cs; omega)).tr (hF3.mono (fun k j q => by unfold lset at q; unfold csp cs; omega)))
      refine ih M3 ⟨hF4, fun x p hx hp' => ?_⟩
      by_cases z : x = w
      · subst z; exact hn p (by omega)
      · rw [hF3 53 _ (by unfold lset; omega), hF2 53 (by unfold oset; omega)]
        exact hall x p (by omega) hp'
  · have := h M Fp.rf
    rwa [if_neg (fun z => by omega)] at this
