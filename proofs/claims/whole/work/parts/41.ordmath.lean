/-! THE ORDER as one mathematical value: masks, levels, what is above what -/
def mk (f : Nat → Bool) : Nat := (f 0).toNat + 2 * (f 1).toNat + 4 * (f 2).toNat + 8 * (f 3).toNat + 16 * (f 4).toNat + 32 * (f 5).toNat + 64 * (f 6).toNat + 128 * (f 7).toNat
theorem mk_bits : ∀ b0 b1 b2 b3 b4 b5 b6 b7 : Bool, ∀ q : Fin 8, ((b0.toNat + 2 * b1.toNat + 4 * b2.toNat + 8 * b3.toNat + 16 * b4.toNat + 32 * b5.toNat + 64 * b6.toNat + 128 * b7.toNat).testBit q.val) = ([b0, b1, b2, b3, b4, b5, b6, b7].getD q.val false) := by decide +kernel
theorem mk_test {f : Nat → Bool} {q : Nat} (h : q < 8) : (mk f).testBit q = f q := by
  have := mk_bits (f 0) (f 1) (f 2) (f 3) (f 4) (f 5) (f 6) (f 7) ⟨q, h⟩
  unfold mk
  rw [this]
  rcases (show q = 0 ∨ q = 1 ∨ q = 2 ∨ q = 3 ∨ q = 4 ∨ q = 5 ∨ q = 6 ∨ q = 7 by omega) with rfl | rfl | rfl | rfl | rfl | rfl | rfl | rfl <;> rfl
theorem mk_lt (f : Nat → Bool) : mk f < 256 := by
  unfold mk
  have := Bool.toNat_le (f 0); have := Bool.toNat_le (f 1); have := Bool.toNat_le (f 2); have := Bool.toNat_le (f 3)
  have := Bool.toNat_le (f 4); have := Bool.toNat_le (f 5); have := Bool.toNat_le (f 6); have := Bool.toNat_le (f 7)
  omega
theorem lt256_bit {m q : Nat} (h : m < 256) (hq : 8 ≤ q) : m.testBit q = false := by
  apply Nat.testBit_lt_two_pow
  have : (2 : Nat) ^ 8 ≤ 2 ^ q := Nat.pow_le_pow_right (by decide) hq
  omega
theorem mk_ext {f : Nat → Bool} {m : Nat} (h : m < 256) (hq : ∀ q, q < 8 → m.testBit q = f q) : m = mk f := by
  apply Nat.eq_of_testBit_eq
  intro i
  by_cases hi : i < 8
  · rw [hq i hi, mk_test hi]
  · rw [lt256_bit h (by omega), lt256_bit (mk_lt f) (by omega)]
theorem mk_congr {f g : Nat → Bool} (h : ∀ q, q < 8 → f q = g q) : mk f = mk g := mk_ext (mk_lt f) (fun q hq => by rw [mk_test hq, h q hq])
theorem mk_or (f g : Nat → Bool) : mk f ||| mk g = mk (fun q => f q || g q) := by
  apply mk_ext
  · exact Nat.or_lt_two_pow (n := 8) (mk_lt f) (mk_lt g)
  · intro q hq
    rw [Nat.testBit_or, mk_test hq, mk_test hq]
theorem mk_one : ∀ p, p < 8 → 1 <<< p = mk (fun q => decide (p = q)) := by decide +kernel
theorem mk_zero : 0 = mk (fun _ => false) := by decide
/-- one bit of a mask, as the code asks for it -/
theorem bit_ask {m q : Nat} (hm : m < 2147483648) (hq : q < 32) : iand (ishr (m : Int) (q : Int)) 1 = ((m.testBit q).toNat : Int) := by
  rw [ishr_n hm hq]
  have h1 : m >>> q < 2147483648 := Nat.lt_of_le_of_lt (Nat.shiftRight_le m q) hm
  have h2 : iand ((m >>> q : Nat) : Int) ((1 : Nat) : Int) = _ := iand_n h1
  rw [show (1 : Int) = ((1 : Nat) : Int) from rfl, h2]
  congr 1
  rw [Nat.testBit, Nat.and_comm]
  rcases Nat.mod_two_eq_zero_or_one (m >>> q) with h | h <;> simp [Nat.one_and_eq_mod_two, h]
theorem bit_1 {m q : Nat} (hm : m < 2147483648) (hq : q < 32) : iand (ishr (m : Int) (q : Int)) 1 = 1 ↔ m.testBit q = true := by
  rw [bit_ask hm hq]
  cases m.testBit q <;> simp
theorem bit_0 {m q : Nat} (hm : m < 2147483648) (hq : q < 32) : iand (ishr (m : Int) (q : Int)) 1 = 0 ↔ m.testBit q = false := by
  rw [bit_ask hm hq]
  cases m.testBit q <;> simp
/-- facts: place i, what c: 0, 1 the two, 2: 1 level, 3 the season (-1), 4: 0 while it isn't struck -/
abbrev FTab : Type := Nat → Nat → Int
/-- who is level with whom by the first k facts -/
def lvl (F : FTab) : Nat → Nat → Nat → Bool
  | 0, p, q => decide (p = q)
  | k + 1, p, q => if F k 4 = 0 ∧ F k 2 = 1 then
      (if lvl F k (F k 0).toNat p || lvl F k (F k 1).toNat p then lvl F k (F k 0).toNat q || lvl F k (F k 1).toNat q else lvl F k p q)
    else lvl F k p q
theorem lvl_refl (F : FTab) : ∀ k p, lvl F k p p = true
  | 0, p => by simp [lvl]
  | k + 1, p => by
    unfold lvl
    split
    · split
      · assumption
      · exact lvl_refl F k p
    · exact lvl_refl F k p
theorem lvl_eqv (F : FTab) : ∀ k, (∀ p q, lvl F k p q = true → lvl F k q p = true) ∧ (∀ p q r, lvl F k p q = true → lvl F k q r = true → lvl F k p r = true)
  | 0 => by
    constructor
    · intro p q h; simp [lvl] at h ⊢; exact h.symm
    · intro p q r h1 h2; simp [lvl] at h1 h2 ⊢; exact h1.trans h2
  | k + 1 => by
    obtain ⟨hs, ht⟩ := lvl_eqv F k
    by_cases hc : F k 4 = 0 ∧ F k 2 = 1
    · generalize ha : (F k 0).toNat = a
      generalize hb : (F k 1).toNat = b
      have key : ∀ p q, lvl F (k + 1) p q = if lvl F k a p || lvl F k b p then lvl F k a q || lvl F k b q else lvl F k p q := by
        intro p q
        rw [show lvl F (k + 1) p q = if F k 4 = 0 ∧ F k 2 = 1 then (if lvl F k (F k 0).toNat p || lvl F k (F k 1).toNat p then lvl F k (F k 0).toNat q || lvl F k (F k 1).toNat q else lvl F k p q) else lvl F k p q from rfl, if_pos hc, ha, hb]
      have inU : ∀ p q, (lvl F k a p || lvl F k b p) = true → lvl F k p q = true → (lvl F k a q || lvl F k b q) = true := by
        intro p q h1 h2
        rcases Bool.or_eq_true _ _ ▸ h1 with h | h
        · simp [ht a p q h h2]
        · simp [ht b p q h h2]
      constructor
      · intro p q h
        rw [key] at h ⊢
        split at h
        · rename_i hp
          rw [if_pos h]; exact hp
        · rename_i hp
          rw [if_neg (fun z => hp (inU q p z (hs p q h)))]
          exact hs p q h
      · intro p q r h1 h2
        rw [key] at h1 h2 ⊢
        split at h1
        · rename_i hp
          rw [if_pos h1] at h2
          rw [if_pos hp]; exact h2
        · rename_i hp
          rw [if_neg (fun z => hp (inU q p z (hs p q h1)))] at h2
          rw [if_neg hp]; exact ht p q r h1 h2
    · have key : ∀ p q, lvl F (k + 1) p q = lvl F k p q := by
        intro p q
        rw [show lvl F (k + 1) p q = if F k 4 = 0 ∧ F k 2 = 1 then (if lvl F k (F k 0).toNat p || lvl F k (F k 1).toNat p then lvl F k (F k 0).toNat q || lvl F k (F k 1).toNat q else lvl F k p q) else lvl F k p q from rfl, if_neg hc]
      exact ⟨fun p q h => by rw [key] at h ⊢; exact hs p q h, fun p q r h1 h2 => by rw [key] at h1 h2 ⊢; exact ht p q r h1 h2⟩
theorem lvl_step (F : FTab) (k p q : Nat) : lvl F (k + 1) p q = if F k 4 = 0 ∧ F k 2 = 1 then (if lvl F k (F k 0).toNat p || lvl F k (F k 1).toNat p then lvl F k (F k 0).toNat q || lvl F k (F k 1).toNat q else lvl F k p q) else lvl F k p q := rfl
theorem lvl_mono (F : FTab) (k p q : Nat) (h : lvl F k p q = true) : lvl F (k + 1) p q = true := by
  obtain ⟨hs, ht⟩ := lvl_eqv F k
  rw [lvl_step]
  split
  · split
    · rename_i hp
      rcases Bool.or_eq_true _ _ ▸ hp with z | z
      · simp [ht _ p q z h]
      · simp [ht _ p q z h]
    · exact h
  · exact h
theorem lvl_mono' (F : FTab) (p q : Nat) : ∀ {k n : Nat}, k ≤ n → lvl F k p q = true → lvl F n p q = true := by
  intro k n h hk
  induction h with
  | refl => exact hk
  | step _ ih => exact lvl_mono F _ p q ih
/-- facts speak of people alone -/
def Fin5 (F : FTab) (n people : Nat) : Prop := ∀ i, i < n → 0 ≤ F i 0 ∧ F i 0 < people ∧ 0 ≤ F i 1 ∧ F i 1 < people
theorem lvl_in {F : FTab} {people : Nat} : ∀ {k : Nat}, Fin5 F k people → ∀ p q, p < people → lvl F k p q = true → q < people
  | 0, _, p, q, hp, h => by simp [lvl] at h; omega
  | k + 1, hF, p, q, hp, h => by
    have ih := @lvl_in F people k (fun i hi => hF i (by omega))
    have := hF k (by omega)
    rw [lvl_step] at h
    split at h
    · split at h
      · rcases Bool.or_eq_true _ _ ▸ h with z | z
        · exact ih _ q (by omega) z
        · exact ih _ q (by omega) z
      · exact ih p q hp h
    · exact ih p q hp h
/-- any equivalence that holds of the level facts holds of lvl -/
theorem lvl_least {F : FTab} {R : Nat → Nat → Prop} (hr : ∀ p, R p p) (hs : ∀ p q, R p q → R q p) (ht : ∀ p q r, R p q → R q r → R p r) : ∀ {k : Nat}, (∀ i, i < k → F i 4 = 0 → F i 2 = 1 → R (F i 0).toNat (F i 1).toNat) → ∀ p q, lvl F k p q = true → R p q
  | 0, _, p, q, h => by simp [lvl] at h; exact h ▸ hr p
  | k + 1, hF, p, q, h => by
    have ih := @lvl_least F R hr hs ht k (fun i hi => hF i (by omega))
    rw [lvl_step] at h
    split at h
    · rename_i hc
      have hab := hF k (by omega) hc.1 hc.2
      split at h
      · rename_i hp
        rcases Bool.or_eq_true _ _ ▸ hp with z | z <;> rcases Bool.or_eq_true _ _ ▸ h with y | y
        · exact ht _ _ _ (hs _ _ (ih _ _ z)) (ih _ _ y)
        · exact ht _ _ _ (hs _ _ (ih _ _ z)) (ht _ _ _ hab (ih _ _ y))
        · exact ht _ _ _ (hs _ _ (ih _ _ z)) (ht _ _ _ (hs _ _ hab) (ih _ _ y))
        · exact ht _ _ _ (hs _ _ (ih _ _ z)) (ih _ _ y)
      · exact ih p q h
    · exact ih p q h
theorem lvl_has {F : FTab} {n i : Nat} (hi : i < n) (h4 : F i 4 = 0) (h2 : F i 2 = 1) : lvl F n (F i 0).toNat (F i 1).toNat = true := by
  apply lvl_mono' F _ _ (show i + 1 ≤ n from hi)
  rw [lvl_step, if_pos ⟨h4, h2⟩, if_pos (by simp [lvl_refl])]
  simp [lvl_refl]
/-- a fact that counts in a season -/
def isAb (F : FTab) (s : Int) (i : Nat) : Bool := decide (F i 4 = 0 ∧ F i 2 ≠ 1 ∧ (F i 3 = -1 ∨ F i 3 = s))
/-- above by one of the first k facts (L: who is level) -/
def ob (F : FTab) (L : Nat → Nat → Bool) (s : Int) : Nat → Nat → Nat → Bool
  | 0, _, _ => false
  | k + 1, p, q => ob F L s k p q || (isAb F s k && L (F k 0).toNat p && L (F k 1).toNat q)
theorem ob_iff {F : FTab} {L : Nat → Nat → Bool} {s : Int} {p q : Nat} : ∀ {k : Nat}, ob F L s k p q = true ↔ ∃ i, i < k ∧ isAb F s i = true ∧ L (F i 0).toNat p = true ∧ L (F i 1).toNat q = true
  | 0 => by simp [ob]
  | k + 1 => by
    have ih := @ob_iff F L s p q k
    unfold ob
    rw [Bool.or_eq_true, ih]
    constructor
    · rintro (⟨i, h1, h2⟩ | h)
      · exact ⟨i, by omega, h2⟩
      · simp at h; exact ⟨k, by omega, h.1.1, h.1.2, h.2⟩
    · rintro ⟨i, h1, h2, h3, h4⟩
      by_cases hi : i < k
      · exact Or.inl ⟨i, hi, h2, h3, h4⟩
      · have : i = k := by omega
        subst this
        exact Or.inr (by simp [h2, h3, h4])
/-- paths whose middles are below m -/
def pth (R : Nat → Nat → Bool) : Nat → Nat → Nat → Bool
  | 0, a, b => R a b
  | m + 1, a, b => pth R m a b || (pth R m a m && pth R m m b)
theorem pth_mono {R : Nat → Nat → Bool} {a b : Nat} : ∀ {m n : Nat}, m ≤ n → pth R m a b = true → pth R n a b = true := by
  intro m n h hm
  induction h with
  | refl => exact hm
  | step _ ih => unfold pth; simp [ih]
theorem pth_tr {R : Nat → Nat → Bool} : ∀ {m : Nat} (a c b : Nat), c < m → pth R m a c = true → pth R m c b = true → pth R m a b = true
  | 0, a, c, b, hc, _, _ => absurd hc (by omega)
  | m + 1, a, c, b, hc, h1, h2 => by
    have ih := @pth_tr R m
    unfold pth at h1 h2 ⊢
    simp only [Bool.or_eq_true, Bool.and_eq_true] at h1 h2 ⊢
    by_cases hcm : c < m
    · rcases h1 with h1 | ⟨h1, h1'⟩ <;> rcases h2 with h2 | ⟨h2, h2'⟩
      · exact Or.inl (ih a c b hcm h1 h2)
      · exact Or.inr ⟨ih a c m hcm h1 h2, h2'⟩
      · exact Or.inr ⟨h1, ih m c b hcm h1' h2⟩
      · exact Or.inr ⟨h1, h2'⟩
    · have : c = m := by omega
      subst this
      refine Or.inr ⟨?_, ?_⟩
      · rcases h1 with h | h
        · exact h
        · exact h.1
      · rcases h2 with h | h
        · exact h
        · exact h.2
/-- whatever holds R and goes on holds the paths -/
theorem pth_least {R : Nat → Nat → Bool} {T : Nat → Nat → Prop} (hR : ∀ a b, R a b = true → T a b) (ht : ∀ a c b, T a c → T c b → T a b) : ∀ (m a b : Nat), pth R m a b = true → T a b
  | 0, a, b, h => hR a b h
  | m + 1, a, b, h => by
    have ih := pth_least hR ht m
    unfold pth at h
    simp only [Bool.or_eq_true, Bool.and_eq_true] at h
    rcases h with h | ⟨h, h'⟩
    · exact ih a b h
    · exact ht a m b (ih _ _ h) (ih _ _ h')
/-- THE ORDER: who is above whom, by n facts among so many people in a season -/
def abv (F : FTab) (n people : Nat) (s : Int) (p q : Nat) : Bool := pth (ob F (lvl F n) s n) people p q
