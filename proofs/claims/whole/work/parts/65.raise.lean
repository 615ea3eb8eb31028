/-! raise -/
theorem SC.up {M M' : Mem} {pp n nf nf' : Nat} {s s' : Int} {F F' : FTab} {ag C : Nat → Int} {Bg E : Nat → Nat} {t : Nat → Nat → Prop} (h : SC M pp n s nf F ag C Bg E) (hF : Fp t M M') (ht : ∀ k j, t k j → k < 21 ∨ 29 ≤ k) (hs : M' 0 5 = s') (h1 : M' 30 1 = (nf' : Int)) (h2 : SameF (FcT M' 30) F' nf') : SC M' pp n s' nf' F' ag C Bg E := by
  obtain ⟨x1, _, h3, h4, _, _⟩ := h
  have e : ∀ k, (21 ≤ k ∧ k ≤ 28) → M' k = M k := fun k hk => hF.row (fun j hc => by have := ht k j hc; omega)
  obtain ⟨b1, b2, b3, b4, b5, b6, b7⟩ := h3
  refine ⟨by rw [e 21 (by omega)]; exact x1, hs, ⟨b1, b2, by rw [e 21 (by omega)]; exact b3, by rw [e 26 (by omega)]; exact b4, ?_, ?_, b7⟩, by rw [e 23 (by omega)]; exact h4, h1, h2⟩
  · rw [e 27 (by omega)]; exact b5
  · rw [e 28 (by omega)]; exact b6
theorem SR.up {M M' : Mem} {pp n nf nf' : Nat} {s s' : Int} {F F' : FTab} {ag C : Nat → Int} {Bg E : Nat → Nat} {t : Nat → Nat → Prop} (h : SR M pp n s nf F ag C Bg E) (hF : Fp t M M') (ht : ∀ k j, t k j → k < 60 ∨ 69 ≤ k) (hs : M' 59 32 = s') (h1 : M' 59 31 = (nf' : Int)) (h2 : SameF (FrT M' 0) F' nf') : SR M' pp n s' nf' F' ag C Bg E := by
  obtain ⟨x1, _, h3, h4, _, _⟩ := h
  have no : ∀ k j, (61 ≤ k ∧ k ≤ 68) → ¬ t k j := fun k j hk hc => by have := ht k j hc; omega
  have e : ∀ k, (61 ≤ k ∧ k ≤ 68) → M' k = M k := fun k hk => hF.row (fun j => no k j hk)
  exact ⟨by rw [e 61 (by omega)]; exact x1, hs, h3.fp hF (no _ _ (by omega)) (fun j => no _ _ (by omega)) (fun j => no _ _ (by omega)) (fun j => no _ _ (by omega)) (fun j => no _ _ (by omega)), by rw [e 63 (by omega)]; exact h4, h1, h2⟩
theorem hadd_same {F G : FTab} {n : Nat} {a b c x r : Int} (h : SameF F G n) : SameF (hadd F n a b c x r) (hadd G n a b c x r) (n + 1) := fun i hi k hk => by
  by_cases q : i = n
  · unfold hadd; rw [if_pos q, if_pos q]
  · rw [hadd_o q, hadd_o q]; exact h i (by omega) k hk
theorem SameF.tr {F G H : FTab} {n : Nat} (h1 : SameF F G n) (h2 : SameF G H n) : SameF F H n := fun i hi c hc => (h1 i hi c hc).trans (h2 i hi c hc)
def fset (o k j : Nat) : Prop := (k = o ∧ j = 1) ∨ k = o + 1
theorem s_add {o n : Nat} {a b how sea : Int} {M : Mem} {P : Mem → Prop} (ho : aln (o + 1) = 120) (hn : M o 1 = (n : Int)) (h24 : n < 24)
    (h : ∀ M', Fp (fset o) M M' → M' o 1 = ((n + 1 : Nat) : Int) → SameF (FcT M' o) (hadd (FcT M o) n a b how sea 0) (n + 1) → P M') : CD m2_add 2 [(12, (o : Int)), (0, a), (0, b), (0, how), (0, sea)] M P := by
  have ho' : ((aln (o + 1) : Nat) : Int) = 120 := by rw [ho]; rfl
  have w0 : w32 ((n : Int) * 5) = ((5 * n : Nat) : Int) := by unfold w32; omega
  have w1 : w32 (w32 ((n : Int) * 5) + 1) = ((5 * n + 1 : Nat) : Int) := w5 (c := 1) (by omega) (by omega)
  have w2 : w32 (w32 ((n : Int) * 5) + 2) = ((5 * n + 2 : Nat) : Int) := w5 (c := 2) (by omega) (by omega)
  have w3 : w32 (w32 ((n : Int) * 5) + 3) = ((5 * n + 3 : Nat) : Int) := w5 (c := 3) (by omega) (by omega)
  have w4 : w32 (w32 ((n : Int) * 5) + 4) = ((5 * n + 4 : Nat) : Int) := w5 (c := 4) (by omega) (by omega)
  apply q_2_add
  rw [hn, w1, w2, w3, w4, w0]
  apply s_put (by omega) (by omega)
  apply s_put (by omega) (by omega)
  apply s_put (by omega) (by omega)
  apply s_put (by omega) (by omega)
  apply s_put (by omega) (by omega)
  simp only [Int.toNat_natCast, mset_k (show o ≠ o + 1 by omega), hn]
  rw [w_1 (by omega)]
  have h0 : Fp (fset o) M M := Fp.rf
  refine h _ ((((((h0.set (Or.inr rfl)).set (Or.inr rfl)).set (Or.inr rfl)).set (Or.inr rfl)).set (Or.inr rfl)).set (Or.inl ⟨rfl, rfl⟩)) mset_s (fun i hi c hc => ?_)
  unfold FcT
  rw [mset_k (by omega)]
  by_cases q : i = n
  · subst q
    obtain ⟨e0, e1, e2, e3, e4⟩ := hadd_s (H := fun i c => M (o + 1) (5 * i + c)) (nh := i) (a := a) (b := b) (c := how) (x := sea) (r := 0)
    match c, hc with
    | 0, _ => rw [e0]; simp [mset]
    | 1, _ => rw [e1]; simp [mset]
    | 2, _ => rw [e2]; simp [mset]
    | 3, _ => rw [e3]; simp [mset]
    | 4, _ => rw [e4]; simp [mset]
  · rw [hadd_o q, mset_j (by omega), mset_j (by omega), mset_j (by omega), mset_j (by omega), mset_j (by omega)]
theorem s_lays {b n : Nat} {x a c how sea : Int} {M : Mem} {P : Mem → Prop} (hb : b + n < 72) (hx : x = ((b + n : Nat) : Int))
    (h : ∀ M', Fp (fun k j => (69 ≤ k ∧ k ≤ 73) ∧ j = b + n) M M' → SameF (FrT M' b) (hadd (FrT M b) n a c how sea 0) (n + 1) → P M') : CD m11_lays 1 [(20, ((59 : Nat) : Int)), (0, x), (0, a), (0, c), (0, how), (0, sea)] M P := by
  subst hx
  have hlt : ((0 : Int) ≤ ((b + n : Nat) : Int) ∧ ((b + n : Nat) : Int) < 72) := by omega
  apply q_11_lays
  rw [Int.toNat_natCast]
  refine ⟨hlt, hlt, hlt, hlt, hlt, ?_⟩
  have h0 : Fp (fun k j => (69 ≤ k ∧ k ≤ 73) ∧ j = b + n) M M := Fp.rf
  refine h _ (((((h0.set ⟨by omega, rfl⟩).set ⟨by omega, rfl⟩).set ⟨by omega, rfl⟩).set ⟨by omega, rfl⟩).set ⟨by omega, rfl⟩) (fun i hi d hd => ?_)
  by_cases q : i = n
  · subst q
    obtain ⟨e0, e1, e2, e3, e4⟩ := hadd_s (H := FrT M b) (nh := i) (a := a) (b := c) (c := how) (x := sea) (r := 0)
    match d, hd with
    | 0, _ => rw [e0]; simp [FrT, mset]
    | 1, _ => rw [e1]; simp [FrT, mset]
    | 2, _ => rw [e2]; simp [FrT, mset]
    | 3, _ => rw [e3]; simp [FrT, mset]
    | 4, _ => rw [e4]; simp [FrT, mset]
  · rw [hadd_o q]
    match d, hd with
    | 0, _ => simp [FrT, mset, q]
    | 1, _ => simp [FrT, mset, q]
    | 2, _ => simp [FrT, mset, q]
    | 3, _ => simp [FrT, mset, q]
    | 4, _ => simp [FrT, mset, q]
/-- no ring in any season -/
def noR (F : FTab) (n pp : Nat) : Prop := ∀ s, 0 ≤ s → s ≤ 3 → ∀ a, abv F n pp s a a = false
theorem abv_in {F : FTab} {n pp : Nat} {s : Int} (hF : Fin5 F n pp) {a b : Nat} (h : abv F n pp s a b = true) : a < pp := by
  refine pth_least (T := fun a _ => a < pp) (fun a b q => ?_) (fun a c b h1 _ => h1) pp a b h
  obtain ⟨i, hi, _, hl, _⟩ := ob_iff.mp q
  have := hF i hi
  exact lvl_in hF _ _ (by omega) hl
theorem noR_of {F : FTab} {n pp : Nat} (hF : Fin5 F n pp) (h : ∀ s : Nat, s < 4 → ∀ a, a < pp → abv F n pp (s : Int) a a = false) : noR F n pp := fun s h0 h3 a => by
  obtain ⟨t, rfl⟩ : ∃ t : Nat, s = (t : Int) := ⟨s.toNat, by omega⟩
  by_cases q : a < pp
  · exact h t (by omega) a q
  · cases hb : abv F n pp (t : Int) a a with
    | false => rfl
    | true => exact absurd (abv_in hF hb) q
theorem s_bends {o f n pp : Nat} {M : Mem} {P : Int → Mem → Prop} (ho : isO o) (hp5 : pp ≤ 5) (hf : FOK M f n pp) (hd : f + 1 < o ∨ o + 4 < f)
    (h0 : noR (FcT M f) n pp → ∀ M', Fr (oset o) M M' → P 0 M') (h1 : ¬ noR (FcT M f) n pp → ∀ M', Fr (oset o) M M' → P 1 M') : CI m5_bendsInSomeSeason 4 [(15, (o : Int)), (12, (f : Int)), (0, (pp : Int))] M P := by
  apply q_5_bendsInSomeSeason
  have key : ∀ k s : Nat, s + k = 4 → ∀ M1, Fr (oset o) M M1 → (∀ t : Nat, t < s → ∀ a, a < pp → abv (FcT M f) n pp (t : Int) a a = false) → A m5_bendsInSomeSeason 4 0 2 [(15, (o : Int)), (12, (f : Int)), (0, (pp : Int)), (0, (s : Int)), (2, 0)] [] M1 (Ki P) := by
    intro k
    induction k with
    | zero =>
      intro s hs M1 hF hn
      have e : s = 4 := by omega
      subst e
      apply r_5_bendsInSomeSeason_2
      exact ⟨fun _ => h0 (noR_of hf.2.2.2 hn) M1 hF, fun q => by omega⟩
    | succ k ih =>
      intro s hs M1 hF hn
      obtain ⟨hf1, ef⟩ := hf.fr hF (by unfold oset; omega) (by unfold oset; omega)
      apply r_5_bendsInSomeSeason_2
      refine ⟨fun q => by omega, fun _ => ?_⟩
      apply s_build ho hp5 hf1 hd
      rw [ef]
      intro M2 hF2 _ _ _ hr
      have hF3 := hF.tr hF2
      have inner : ∀ m a : Nat, a + m = pp → (∀ a', a' < a → abv (FcT M f) n pp (s : Int) a' a' = false) → A m5_bendsInSomeSeason 4 0 17 [(15, (o : Int)), (12, (f : Int)), (0, (pp : Int)), (0, (s : Int)), (0, (a : Int))] [] M2 (Ki P) := by
        intro m
        induction m with
        | zero =>
          intro a ha hn2
          have e : a = pp := by omega
          subst e
          apply r_5_bendsInSomeSeason_17
          refine ⟨fun _ => ?_, fun q => by omega⟩
          rw [w_1 (by omega)]
          refine ih (s + 1) (by omega) M2 hF3 (fun t ht a' ha' => ?_)
          by_cases q : t = s
          · subst q; exact hn2 a' ha'
          · exact hn t (by omega) a' ha'
        | succ m ihm =>
          intro a ha hn2
          apply r_5_bendsInSomeSeason_17
          refine ⟨fun q => by omega, fun _ => ?_⟩
          apply s_isAbove (B := abv (FcT M f) n pp (s : Int)) ho (by omega) (by omega) hr
          rw [w_1 (by omega)]
          refine ⟨fun q => ihm (a + 1) (by omega) (fun a' ha' => ?_), fun q => h1 (fun z => ?_) M2 hF3⟩
          · by_cases q2 : a' = a
            · subst q2
              cases hb : abv (FcT M f) n pp (s : Int) a' a' with
              | false => rfl
              | true => exact absurd hb (bi_eq q)
            · exact hn2 a' (by omega)
          · have := z (s : Int) (by omega) (by omega) a
            rw [bi_ne q] at this
            cases this
      exact inner pp 0 (by omega) (fun a' ha' => by omega)
  exact key 4 0 (by omega) M Fr.rf (fun t ht => by omega)
theorem FrT_fr {M M1 : Mem} {b : Nat} (h : Fr m45 M M1) : FrT M1 b = FrT M b := by
  funext i c
  unfold FrT
  rw [h 69 (by unfold m45; omega), h 70 (by unfold m45; omega), h 71 (by unfold m45; omega), h 72 (by unfold m45; omega), h 73 (by unfold m45; omega)]
theorem s_isRound {b n pp : Nat} {M : Mem} {P : Int → Mem → Prop} (hb : b + n ≤ 72) (hp5 : pp ≤ 5) (hg : Fgood (FrT M b) n pp)
    (h0 : noR (FrT M b) n pp → ∀ M', Fr m45 M M' → P 0 M') (h1 : ¬ noR (FrT M b) n pp → ∀ M', Fr m45 M M' → P 1 M') : CI m11_isRound 3 [(20, ((59 : Nat) : Int)), (0, (b : Int)), (0, (n : Int)), (0, (pp : Int))] M P := by
  apply q_11_isRound
  have key : ∀ k s : Nat, s + k = 4 → ∀ M1, Fr m45 M M1 → (∀ t : Nat, t < s → ∀ a, a < pp → abv (FrT M b) n pp (t : Int) a a = false) → A m11_isRound 3 0 3 [(20, ((59 : Nat) : Int)), (0, (b : Int)), (0, (n : Int)), (0, (pp : Int)), (0, (s : Int)), (2, 0)] [] M1 (Ki P) := by
    intro k
    induction k with
    | zero =>
      intro s hs M1 hF hn
      have e : s = 4 := by omega
      subst e
      apply r_11_isRound_3
      exact ⟨fun _ => h0 (noR_of hg.1 hn) M1 hF, fun q => by omega⟩
    | succ k ih =>
      intro s hs M1 hF hn
      have ef : FrT M1 b = FrT M b := FrT_fr hF
      apply r_11_isRound_3
      refine ⟨fun q => by omega, fun _ => ?_⟩
      apply s_layOrder hb hp5 (by rw [ef]; exact hg)
      rw [ef]
      intro M2 hF2 hr _
      have hF3 := hF.tr hF2
      have inner : ∀ m a : Nat, a + m = pp → (∀ a', a' < a → abv (FrT M b) n pp (s : Int) a' a' = false) → A m11_isRound 3 0 21 [(20, ((59 : Nat) : Int)), (0, (b : Int)), (0, (n : Int)), (0, (pp : Int)), (0, (s : Int)), (0, (a : Int))] [] M2 (Ki P) := by
        intro m
        induction m with
        | zero =>
          intro a ha hn2
          have e : a = pp := by omega
          subst e
          apply r_11_isRound_21
          refine ⟨fun _ => ?_, fun q => by omega⟩
          rw [w_1 (by omega)]
          refine ih (s + 1) (by omega) M2 hF3 (fun t ht a' ha' => ?_)
          by_cases q : t = s
          · subst q; exact hn2 a' ha'
          · exact hn t (by omega) a' ha'
        | succ m ihm =>
          intro a ha hn2
          apply r_11_isRound_21
          refine ⟨fun q => by omega, fun _ => ?_⟩
          apply s_pair (by omega) (by omega)
          refine ⟨by omega, ?_⟩
          rw [Int.toNat_natCast, hr a a (by omega) (by omega), w_1 (by omega)]
          refine ⟨fun q => ihm (a + 1) (by omega) (fun a' ha' => ?_), fun q => h1 (fun z => ?_) M2 hF3⟩
          · by_cases q2 : a' = a
            · subst q2
              cases hb : abv (FrT M b) n pp (s : Int) a' a' with
              | false => rfl
              | true => rw [hb] at q; exact absurd q (by decide)
            · exact hn2 a' (by omega)
          · have := z (s : Int) (by omega) (by omega) a
            rw [this] at q
            exact q rfl
      exact inner pp 0 (by omega) (fun a' ha' => by omega)
  exact key 4 0 (by omega) M Fr.rf (fun t ht => by omega)
