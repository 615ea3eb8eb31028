/-! what the class holds and what the reference holds -/
def SameF (F G : FTab) (n : Nat) : Prop := ∀ i, i < n → ∀ c, c < 5 → F i c = G i c
theorem lvl_same {F G : FTab} {n : Nat} (h : SameF F G n) : ∀ k, k ≤ n → lvl F k = lvl G k
  | 0, _ => rfl
  | k + 1, hk => by
    have ih := lvl_same h k (by omega)
    have e := h k (by omega)
    funext p q
    rw [lvl_step, lvl_step, ih, e 0 (by omega), e 1 (by omega), e 2 (by omega), e 4 (by omega)]
theorem ob_same {F G : FTab} {n : Nat} {L : Nat → Nat → Bool} {s : Int} (h : SameF F G n) : ∀ k, k ≤ n → ob F L s k = ob G L s k
  | 0, _ => rfl
  | k + 1, hk => by
    have ih := ob_same (L := L) (s := s) h k (by omega)
    have e := h k (by omega)
    funext p q
    rw [ob_step, ob_step, ih, e 0 (by omega), e 1 (by omega)]
    unfold isAb
    rw [e 2 (by omega), e 3 (by omega), e 4 (by omega)]
theorem abv_same {F G : FTab} {n pp : Nat} {s : Int} (h : SameF F G n) : abv F n pp s = abv G n pp s := by
  funext p q
  unfold abv
  rw [lvl_same h n (Nat.le_refl n), ob_same h n (Nat.le_refl n)]
theorem Fin5_same {F G : FTab} {n pp : Nat} (h : SameF F G n) (hg : Fin5 G n pp) : Fin5 F n pp := fun i hi => by
  rw [h i hi 0 (by omega), h i hi 1 (by omega)]; exact hg i hi
theorem Fgood_same {F G : FTab} {n pp : Nat} (h : SameF F G n) (hg : Fgood G n pp) : Fgood F n pp := ⟨Fin5_same h hg.1, fun i hi => by
  rw [h i hi 2 (by omega), h i hi 3 (by omega), h i hi 4 (by omega)]; exact hg.2 i hi⟩
/-- the class: people, parts, season, FACTS, ages, formulas -/
def SC (M : Mem) (pp n : Nat) (s : Int) (nf : Nat) (F : FTab) (ag : Nat → Int) (C : Nat → Int) (Bg E : Nat → Nat) : Prop :=
  M 21 2 = (pp : Int) ∧ M 0 5 = s ∧ Bk M 21 n C Bg E ∧ (∀ j, j < pp → M 23 j = ag j) ∧ M 30 1 = (nf : Int) ∧ SameF (FcT M 30) F nf
def SR (M : Mem) (pp n : Nat) (s : Int) (nf : Nat) (F : FTab) (ag : Nat → Int) (C : Nat → Int) (Bg E : Nat → Nat) : Prop :=
  M 61 0 = (pp : Int) ∧ M 59 32 = s ∧ Rk M n C Bg E ∧ (∀ j, j < pp → M 63 j = ag j) ∧ M 59 31 = (nf : Int) ∧ SameF (FrT M 0) F nf
/-- what holds of people, seasons and FACTS themselves -/
def SF (pp : Nat) (s : Int) (nf : Nat) (F : FTab) : Prop := pp ≤ 5 ∧ (0 ≤ s ∧ s ≤ 3) ∧ nf ≤ 24 ∧ Fgood F nf pp ∧ ∀ s', 0 ≤ s' → s' ≤ 3 → ∀ a, abv F nf pp s' a a = false
/-- cells of the class in which it only works -/
def cs (k : Nat) : Prop := k = 29 ∨ (34 ≤ k ∧ k ≤ 42) ∨ (52 ≤ k ∧ k ≤ 58)
/-- places of the reference in which it only works -/
def rs (k j : Nat) : Prop := (k = 59 ∧ (j = 39 ∨ j = 43 ∨ j = 44 ∨ j = 45)) ∨ (74 ≤ k ∧ k ≤ 81) ∨ (88 ≤ k ∧ k ≤ 92)
def csp (k _j : Nat) : Prop := cs k
theorem SC.fp {M M' : Mem} {pp n nf : Nat} {s : Int} {F : FTab} {ag C : Nat → Int} {Bg E : Nat → Nat} {t : Nat → Nat → Prop} (h : SC M pp n s nf F ag C Bg E) (hF : Fp t M M') (ht : ∀ k j, t k j → cs k ∨ 49 ≤ k ∨ (k = 0 ∧ j ≠ 5)) : SC M' pp n s nf F ag C Bg E := by
  obtain ⟨h1, h2, h3, h4, h5, h6⟩ := h
  have no : ∀ k j, ((21 ≤ k ∧ k ≤ 28) ∨ k = 30 ∨ k = 31) → ¬ t k j := fun k j hk hc => by
    have := ht k j hc; unfold cs at this; omega
  have e : ∀ k, ((21 ≤ k ∧ k ≤ 28) ∨ k = 30 ∨ k = 31) → M' k = M k := fun k hk => hF.row (fun j => no k j hk)
  have e5 : M' 0 5 = M 0 5 := hF 0 5 (fun hc => by have := ht 0 5 hc; unfold cs at this; omega)
  obtain ⟨b1, b2, b3, b4, b5, b6, b7⟩ := h3
  refine ⟨by rw [e 21 (by omega)]; exact h1, e5.trans h2, ⟨b1, b2, by rw [e 21 (by omega)]; exact b3, by rw [e 26 (by omega)]; exact b4, ?_, ?_, b7⟩, by rw [e 23 (by omega)]; exact h4, by rw [e 30 (by omega)]; exact h5, ?_⟩
  · rw [e 27 (by omega)]; exact b5
  · rw [e 28 (by omega)]; exact b6
  · unfold FcT; rw [e 31 (by omega)]; exact h6
theorem SR.fp {M M' : Mem} {pp n nf : Nat} {s : Int} {F : FTab} {ag C : Nat → Int} {Bg E : Nat → Nat} {t : Nat → Nat → Prop} (h : SR M pp n s nf F ag C Bg E) (hF : Fp t M M') (ht : ∀ k j, t k j → k < 59 ∨ rs k j ∨ 82 ≤ k ∨ (k = 59 ∧ j ≠ 31 ∧ j ≠ 32)) : SR M' pp n s nf F ag C Bg E := by
  obtain ⟨h1, h2, h3, h4, h5, h6⟩ := h
  have no : ∀ k j, (61 ≤ k ∧ k ≤ 73) → ¬ t k j := fun k j hk hc => by
    have := ht k j hc; unfold rs at this; omega
  have e : ∀ k, (61 ≤ k ∧ k ≤ 73) → M' k = M k := fun k hk => hF.row (fun j => no k j hk)
  have e2 : M' 59 32 = M 59 32 := hF 59 32 (fun hc => by have := ht 59 32 hc; unfold rs at this; omega)
  have e1 : M' 59 31 = M 59 31 := hF 59 31 (fun hc => by have := ht 59 31 hc; unfold rs at this; omega)
  refine ⟨by rw [e 61 (by omega)]; exact h1, e2.trans h2, h3.fp hF (no _ _ (by omega)) (fun j => no _ _ (by omega)) (fun j => no _ _ (by omega)) (fun j => no _ _ (by omega)) (fun j => no _ _ (by omega)), by rw [e 63 (by omega)]; exact h4, e1.trans h5, ?_⟩
  have ef : FrT M' 0 = FrT M 0 := by
    funext i c
    unfold FrT
    rw [e 69 (by omega), e 70 (by omega), e 71 (by omega), e 72 (by omega), e 73 (by omega)]
  rw [ef]; exact h6
theorem s_isPerson {pp : Nat} {x : Int} {M : Mem} {P : Int → Mem → Prop} (hp : M 21 2 = (pp : Int)) (h : P (bi (0 ≤ x ∧ x < pp)) M) : CI m10_isPerson 1 [(19, ((0 : Nat) : Int)), (0, x)] M P := by
  apply q_10_isPerson
  rw [hp]
  refine ⟨fun q => ?_, fun q => ⟨fun q1 => ?_, fun q1 => ?_⟩⟩
  · rwa [bi_f (by omega)] at h
  · rwa [bi_f (by omega)] at h
  · rwa [bi_t (by omega)] at h
theorem s_isPerson_r {pp : Nat} {x : Int} {M : Mem} {P : Int → Mem → Prop} (hp : M 61 0 = (pp : Int)) (h : P (bi (0 ≤ x ∧ x < pp)) M) : CI m11_isPerson 1 [(20, ((59 : Nat) : Int)), (0, x)] M P := by
  apply q_11_isPerson
  rw [hp]
  refine ⟨fun q => ?_, fun q => ⟨fun q1 => ?_, fun q1 => ?_⟩⟩
  · rwa [bi_f (by omega)] at h
  · rwa [bi_f (by omega)] at h
  · rwa [bi_t (by omega)] at h
abbrev isTwo (pp : Nat) (a b : Int) : Prop := (0 ≤ a ∧ a < pp) ∧ (0 ≤ b ∧ b < pp) ∧ a ≠ b
abbrev isSay (pp : Nat) (a b c : Int) : Prop := isTwo pp a b ∧ isTwo pp a c
theorem bi_ne {p : Prop} [Decidable p] (h : bi p ≠ 0) : p := by
  by_cases q : p
  · exact q
  · exact absurd (bi_f q) h
theorem bi_eq {p : Prop} [Decidable p] (h : bi p = 0) : ¬ p := fun q => by rw [bi_t q] at h; cases h
theorem s_areTwo {pp : Nat} {a b : Int} {M : Mem} {P : Int → Mem → Prop} (hp : M 21 2 = (pp : Int)) (h : P (bi (isTwo pp a b)) M) : CI m10_areTwo 2 [(19, ((0 : Nat) : Int)), (0, a), (0, b)] M P := by
  apply q_10_areTwo
  apply s_isPerson hp
  refine ⟨fun q => ?_, fun q => s_isPerson hp ⟨fun q1 => ?_, fun q1 => ⟨fun q2 => ?_, fun q2 => ?_⟩⟩⟩
  · rwa [bi_f (fun z => bi_eq q z.1)] at h
  · rwa [bi_f (fun z => bi_eq q1 z.2.1)] at h
  · rwa [bi_f (fun z => z.2.2 q2)] at h
  · rwa [bi_t ⟨bi_ne q, bi_ne q1, q2⟩] at h
theorem s_areTwo_r {pp : Nat} {a b : Int} {M : Mem} {P : Int → Mem → Prop} (hp : M 61 0 = (pp : Int)) (h : P (bi (isTwo pp a b)) M) : CI m11_areTwo 2 [(20, ((59 : Nat) : Int)), (0, a), (0, b)] M P := by
  apply q_11_areTwo
  apply s_isPerson_r hp
  refine ⟨fun q => ?_, fun q => s_isPerson_r hp ⟨fun q1 => ?_, fun q1 => ⟨fun q2 => ?_, fun q2 => ?_⟩⟩⟩
  · rwa [bi_f (fun z => bi_eq q z.1)] at h
  · rwa [bi_f (fun z => bi_eq q1 z.2.1)] at h
  · rwa [bi_f (fun z => z.2.2 q2)] at h
  · rwa [bi_t ⟨bi_ne q, bi_ne q1, q2⟩] at h
theorem s_isSaying {pp : Nat} {a b c : Int} {M : Mem} {P : Int → Mem → Prop} (hp : M 21 2 = (pp : Int)) (h : P (bi (isSay pp a b c)) M) : CI m10_isSaying 3 [(19, ((0 : Nat) : Int)), (0, a), (0, b), (0, c)] M P := by
  apply q_10_isSaying
  apply s_areTwo hp
  refine ⟨fun q => ?_, fun q => s_areTwo hp ⟨fun q1 => ?_, fun q1 => ?_⟩⟩
  · rwa [bi_f (fun z => bi_eq q z.1)] at h
  · rwa [bi_f (fun z => bi_eq q1 z.2)] at h
  · rwa [bi_t ⟨bi_ne q, bi_ne q1⟩] at h
theorem s_isSaying_r {pp : Nat} {a b c : Int} {M : Mem} {P : Int → Mem → Prop} (hp : M 61 0 = (pp : Int)) (h : P (bi (isSay pp a b c)) M) : CI m11_isSaying 3 [(20, ((59 : Nat) : Int)), (0, a), (0, b), (0, c)] M P := by
  apply q_11_isSaying
  apply s_areTwo_r hp
  refine ⟨fun q => ?_, fun q => s_areTwo_r hp ⟨fun q1 => ?_, fun q1 => ?_⟩⟩
  · rwa [bi_f (fun z => bi_eq q z.1)] at h
  · rwa [bi_f (fun z => bi_eq q1 z.2)] at h
  · rwa [bi_t ⟨bi_ne q, bi_ne q1⟩] at h
theorem s_isSeason {x : Int} {M : Mem} {P : Int → Mem → Prop} (h : P (bi (0 ≤ x ∧ x < 4)) M) : CI m10_isSeason 1 [(0, x)] M P := by
  apply q_10_isSeason
  refine ⟨fun q => ?_, fun q => ⟨fun q1 => ?_, fun q1 => ?_⟩⟩
  · rwa [bi_f (by omega)] at h
  · rwa [bi_f (by omega)] at h
  · rwa [bi_t (by omega)] at h
theorem s_isSeason_r {x : Int} {M : Mem} {P : Int → Mem → Prop} (h : P (bi (0 ≤ x ∧ x < 4)) M) : CI m11_isSeason 1 [(0, x)] M P := by
  apply q_11_isSeason
  refine ⟨fun q => ?_, fun q => ⟨fun q1 => ?_, fun q1 => ?_⟩⟩
  · rwa [bi_f (by omega)] at h
  · rwa [bi_f (by omega)] at h
  · rwa [bi_t (by omega)] at h
theorem two_nat {pp : Nat} {a b : Int} (h : isTwo pp a b) : ∃ a' b' : Nat, a = (a' : Int) ∧ b = (b' : Int) ∧ a' < pp ∧ b' < pp ∧ a' ≠ b' := by
  obtain ⟨h1, h2, h3⟩ := h
  exact ⟨a.toNat, b.toNat, by omega, by omega, by omega, by omega, by omega⟩
theorem say_nat {pp : Nat} {a b c : Int} (h : isSay pp a b c) : ∃ a' b' c' : Nat, a = (a' : Int) ∧ b = (b' : Int) ∧ c = (c' : Int) ∧ a' < pp ∧ b' < pp ∧ c' < pp ∧ a' ≠ b' ∧ a' ≠ c' := by
  obtain ⟨⟨h1, h2, h3⟩, h4, h5, h6⟩ := h
  exact ⟨a.toNat, b.toNat, c.toNat, by omega, by omega, by omega, by omega, by omega, by omega, by omega, by omega⟩
