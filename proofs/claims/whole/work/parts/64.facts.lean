/-! FACTS: told or not, added, round or not -/
def isF (F : FTab) (a b how sea : Int) (i : Nat) : Bool := decide (F i 4 = 0 ∧ F i 2 = how ∧ F i 3 = sea ∧ ((F i 0 = a ∧ F i 1 = b) ∨ (how = 1 ∧ F i 0 = b ∧ F i 1 = a)))
def hasF (F : FTab) (a b how sea : Int) : Nat → Bool
  | 0 => false
  | k + 1 => hasF F a b how sea k || isF F a b how sea k
theorem hasF_step {F : FTab} {a b how sea : Int} {k : Nat} : hasF F a b how sea (k + 1) = (hasF F a b how sea k || isF F a b how sea k) := rfl
theorem hasF_mono {F : FTab} {a b how sea : Int} {k : Nat} : ∀ {n : Nat}, k ≤ n → hasF F a b how sea k = true → hasF F a b how sea n = true
  | 0, h, q => by have : k = 0 := by omega
                  subst this; exact q
  | n + 1, h, q => by
    by_cases e : k = n + 1
    · subst e; exact q
    · rw [hasF_step, hasF_mono (by omega) q]; rfl
theorem hasF_same {F G : FTab} {n : Nat} (h : SameF F G n) {a b how sea : Int} : ∀ k, k ≤ n → hasF F a b how sea k = hasF G a b how sea k
  | 0, _ => rfl
  | k + 1, hk => by
    have e := h k (by omega)
    rw [hasF_step, hasF_step, hasF_same h k (by omega)]
    unfold isF
    rw [e 0 (by omega), e 1 (by omega), e 2 (by omega), e 3 (by omega), e 4 (by omega)]
theorem s_isOfTwo {o i : Nat} {a b : Int} {M : Mem} {P : Int → Mem → Prop} (ho : aln (o + 1) = 120) (hi : i < 24) (h : P (bi ((FcT M o i 0 = a ∧ FcT M o i 1 = b) ∨ (FcT M o i 2 = 1 ∧ FcT M o i 0 = b ∧ FcT M o i 1 = a))) M) : CI m2_isOfTwo 3 [(12, (o : Int)), (0, (i : Int)), (0, a), (0, b)] M P := by
  have c1 : ((FcT M o i 0 = a ∧ FcT M o i 1 = b) ∨ (FcT M o i 2 = 1 ∧ FcT M o i 0 = b ∧ FcT M o i 1 = a)) → P 1 M := fun q => by rwa [bi_t q] at h
  have c0 : ¬ ((FcT M o i 0 = a ∧ FcT M o i 1 = b) ∨ (FcT M o i 2 = 1 ∧ FcT M o i 0 = b ∧ FcT M o i 1 = a)) → P 0 M := fun q => by rwa [bi_f q] at h
  apply q_2_isOfTwo
  refine s_cell (c := 0) ho hi (by omega) ?_
  refine ⟨fun q => s_isLevel ho hi ⟨fun q1 => c0 ?_, fun q1 => s_cell (c := 0) ho hi (by omega) ⟨fun q2 => c0 (by omega), fun q2 => s_cell (c := 1) ho hi (by omega) ⟨fun q3 => c0 (by omega), fun q3 => c1 (Or.inr ⟨bi_ne q1, q2, q3⟩)⟩⟩⟩, fun q => s_cell (c := 1) ho hi (by omega) ⟨fun q1 => s_isLevel ho hi ⟨fun q2 => c0 ?_, fun q2 => s_cell (c := 0) ho hi (by omega) ⟨fun q3 => c0 (by omega), fun q3 => s_cell (c := 1) ho hi (by omega) ⟨fun q4 => c0 (by omega), fun q4 => c1 (Or.inr ⟨bi_ne q2, q3, q4⟩)⟩⟩⟩, fun q1 => c1 (Or.inl ⟨q, q1⟩)⟩⟩
  · have := bi_eq q1; omega
  · have := bi_eq q2; omega
theorem s_tells {o n : Nat} {a b how sea : Int} {M : Mem} {P : Int → Mem → Prop} (ho : aln (o + 1) = 120) (hn : M o 1 = (n : Int)) (h24 : n ≤ 24) (h : P (bi (hasF (FcT M o) a b how sea n = true)) M) : CI m2_tells 4 [(12, (o : Int)), (0, a), (0, b), (0, how), (0, sea)] M P := by
  apply q_2_tells
  have key : ∀ k j : Nat, j + k = n → hasF (FcT M o) a b how sea j = false → A m2_tells 4 0 3 [(12, (o : Int)), (0, a), (0, b), (0, how), (0, sea), (0, (j : Int))] [] M (Ki P) := by
    intro k
    induction k with
    | zero =>
      intro j hj hf
      have e : j = n := by omega
      subst e
      rw [hf, bi_f (by decide)] at h
      apply r_2_tells_3
      rw [hn]
      exact ⟨fun _ => h, fun q => by omega⟩
    | succ k ih =>
      intro j hj hf
      have nx : isF (FcT M o) a b how sea j = false → A m2_tells 4 0 3 [(12, (o : Int)), (0, a), (0, b), (0, how), (0, sea), (0, ((j + 1 : Nat) : Int))] [] M (Ki P) := fun q => ih (j + 1) (by omega) (by rw [hasF_step, hf, q]; rfl)
      have no : (¬ (FcT M o j 4 = 0 ∧ FcT M o j 2 = how ∧ FcT M o j 3 = sea ∧ ((FcT M o j 0 = a ∧ FcT M o j 1 = b) ∨ (how = 1 ∧ FcT M o j 0 = b ∧ FcT M o j 1 = a)))) → A m2_tells 4 0 3 [(12, (o : Int)), (0, a), (0, b), (0, how), (0, sea), (0, ((j + 1 : Nat) : Int))] [] M (Ki P) := fun q => nx (decide_eq_false q)
      have hi : j < 24 := by omega
      apply r_2_tells_3
      rw [hn, w_1 (by omega)]
      refine ⟨fun q => by omega, fun _ => s_lives ho hi (by rw [hn]; omega) ⟨fun q1 => no (fun z => bi_eq q1 z.1), fun q1 => s_cell (c := 2) ho hi (by omega) ⟨fun q2 => no (fun z => q2 z.2.1), fun q2 => s_cell (c := 3) ho hi (by omega) ⟨fun q3 => no (fun z => q3 z.2.2.1), fun q3 => s_isOfTwo ho hi ⟨fun q4 => no (fun z => ?_), fun q4 => ?_⟩⟩⟩⟩⟩
      · have := bi_eq q4
        have z3 := z.2.2.2
        omega
      · have h4 := bi_ne q4
        have hz : isF (FcT M o) a b how sea j = true := decide_eq_true ⟨bi_ne q1, q2, q3, by omega⟩
        have hh : hasF (FcT M o) a b how sea n = true := hasF_mono (k := j + 1) (by omega) (by rw [hasF_step, hz, Bool.or_true])
        rw [hh, bi_t rfl] at h
        exact h
  exact key n 0 (by omega) rfl
theorem s_hasFact {b n : Nat} {a c how sea : Int} {M : Mem} {P : Int → Mem → Prop} (hb : b + n ≤ 72) (h : P (bi (hasF (FrT M b) a c how sea n = true)) M) : CI m11_hasFact 1 [(20, ((59 : Nat) : Int)), (0, (b : Int)), (0, (n : Int)), (0, a), (0, c), (0, how), (0, sea)] M P := by
  have ew : w32 ((b : Int) + (n : Int)) = ((b + n : Nat) : Int) := by unfold w32; omega
  apply q_11_hasFact
  have key : ∀ k j : Nat, j + k = n → hasF (FrT M b) a c how sea j = false → A m11_hasFact 1 0 3 [(20, ((59 : Nat) : Int)), (0, (b : Int)), (0, (n : Int)), (0, a), (0, c), (0, how), (0, sea), (0, ((b + j : Nat) : Int)), (2, 0)] [] M (Ki P) := by
    intro k
    induction k with
    | zero =>
      intro j hj hf
      have e : j = n := by omega
      subst e
      rw [hf, bi_f (by decide)] at h
      apply r_11_hasFact_3
      rw [ew]
      exact ⟨fun _ => h, fun q => by omega⟩
    | succ k ih =>
      intro j hj hf
      have nx : isF (FrT M b) a c how sea j = false → A m11_hasFact 1 0 3 [(20, ((59 : Nat) : Int)), (0, (b : Int)), (0, (n : Int)), (0, a), (0, c), (0, how), (0, sea), (0, ((b + j + 1 : Nat) : Int)), (2, 0)] [] M (Ki P) := fun q => ih (j + 1) (by omega) (by rw [hasF_step, hf, q]; rfl)
      have c0 : (¬ (M 73 (b + j) = 0 ∧ M 71 (b + j) = how ∧ M 72 (b + j) = sea ∧ ((M 69 (b + j) = a ∧ M 70 (b + j) = c) ∨ (how = 1 ∧ M 69 (b + j) = c ∧ M 70 (b + j) = a)))) → A m11_hasFact 1 0 3 [(20, ((59 : Nat) : Int)), (0, (b : Int)), (0, (n : Int)), (0, a), (0, c), (0, how), (0, sea), (0, ((b + j + 1 : Nat) : Int)), (2, 0)] [] M (Ki P) := fun q => nx (decide_eq_false q)
      have c1 : ((M 73 (b + j) = 0 ∧ M 71 (b + j) = how ∧ M 72 (b + j) = sea ∧ ((M 69 (b + j) = a ∧ M 70 (b + j) = c) ∨ (how = 1 ∧ M 69 (b + j) = c ∧ M 70 (b + j) = a)))) → P 1 M := by
        intro q
        have hz : isF (FrT M b) a c how sea j = true := decide_eq_true q
        have hh : hasF (FrT M b) a c how sea n = true := hasF_mono (k := j + 1) (by omega) (by rw [hasF_step, hz, Bool.or_true])
        rw [hh, bi_t rfl] at h
        exact h
      have hlt : ((0 : Int) ≤ ((b + j : Nat) : Int) ∧ ((b + j : Nat) : Int) < 72) := by omega
      apply r_11_hasFact_3
      rw [ew, w_1 (by omega), Int.toNat_natCast]
      refine ⟨fun q => by omega, fun _ => ⟨hlt, ?_⟩⟩
      generalize M 69 (b + j) = f0 at c0 c1 ⊢
      generalize M 70 (b + j) = f1 at c0 c1 ⊢
      generalize M 71 (b + j) = f2 at c0 c1 ⊢
      generalize M 72 (b + j) = f3 at c0 c1 ⊢
      generalize M 73 (b + j) = f4 at c0 c1 ⊢
      repeat' first
        | exact hlt
        | exact c0 (by omega)
        | exact c1 (by omega)
        | refine And.intro ?_ ?_
        | intro _
  exact key n 0 (by omega) rfl
