/-! layers of a walk down -/
theorem php : ∀ (n m : Nat) (f : Nat → Nat), (∀ i, i < m → f i < n) → (∀ i j, i < j → j < m → f i ≠ f j) → m ≤ n
  | 0, m, f, h1, _ => by
    by_cases q : m = 0
    · omega
    · have := h1 0 (by omega); omega
  | n + 1, m, f, h1, h2 => by
    by_cases q : m = 0
    · omega
    · by_cases c : ∃ i, i < m ∧ f i = n
      · obtain ⟨i, hi, hfi⟩ := c
        have := php n (m - 1) (fun j => if j = i then f (m - 1) else f j) (fun j hj => ?_) (fun a b hab hb => ?_)
        · omega
        · show (if j = i then f (m - 1) else f j) < n
          split
          · have h3 := h1 (m - 1) (by omega)
            have h4 := h2 i (m - 1) (by omega) (by omega)
            omega
          · have h3 := h1 j (by omega)
            rename_i hne
            have h4 : f j ≠ n := by
              intro z
              rcases Nat.lt_or_gt_of_ne hne with y | y
              · exact h2 j i y hi (by omega)
              · exact h2 i j y (by omega) (by omega)
            omega
        · show (if a = i then f (m - 1) else f a) ≠ (if b = i then f (m - 1) else f b)
          by_cases ca : a = i
          · rw [if_pos ca, if_neg (by omega)]; exact fun z => h2 b (m - 1) (by omega) (by omega) z.symm
          · rw [if_neg ca]
            by_cases cb : b = i
            · rw [if_pos cb]; exact h2 a (m - 1) (by omega) (by omega)
            · rw [if_neg cb]; exact h2 a b hab (by omega)
      · have := php n m f (fun i hi => by
          have h3 := h1 i hi
          have h4 : f i ≠ n := fun z => c ⟨i, hi, z⟩
          omega) h2
        omega
def nxt (L : Nat → Nat → Bool) (pp : Nat) (st : Nat → Int) (far : Int) : Nat → Int := fun i => if (decide (i < pp) && decide (st i = -1) && anyW (fun x => L i x && decide (st x = far - 1)) pp) = true then far else st i
def lys (L : Nat → Nat → Bool) (pp b : Nat) : Nat → Nat → Int
  | 0 => fun i => if i = b then 0 else -1
  | k + 1 => nxt L pp (lys L pp b k) ((k + 1 : Nat) : Int)
theorem lys_step {L : Nat → Nat → Bool} {pp b k : Nat} : lys L pp b (k + 1) = nxt L pp (lys L pp b k) ((k + 1 : Nat) : Int) := rfl
theorem anyW_ex {f : Nat → Bool} : ∀ {n : Nat}, anyW f n = true ↔ ∃ x, x < n ∧ f x = true
  | 0 => by simp [anyW]
  | n + 1 => by
    rw [anyW_step, Bool.or_eq_true, anyW_ex (n := n)]
    constructor
    · rintro (⟨x, h1, h2⟩ | h)
      · exact ⟨x, by omega, h2⟩
      · exact ⟨n, by omega, h⟩
    · rintro ⟨x, h1, h2⟩
      by_cases e : x = n
      · subst e; exact Or.inr h2
      · exact Or.inl ⟨x, by omega, h2⟩
theorem lys_bd {L : Nat → Nat → Bool} {pp b : Nat} : ∀ k i, -1 ≤ lys L pp b k i ∧ lys L pp b k i ≤ k
  | 0, i => by show -1 ≤ (if i = b then (0 : Int) else -1) ∧ (if i = b then (0 : Int) else -1) ≤ _; split <;> omega
  | k + 1, i => by
    have ih := lys_bd (L := L) (pp := pp) (b := b) k i
    rw [lys_step]
    unfold nxt
    split <;> omega
theorem lys_new {L : Nat → Nat → Bool} {pp b k i : Nat} (h : lys L pp b (k + 1) i = ((k + 1 : Nat) : Int)) : i < pp ∧ ∃ x, x < pp ∧ lys L pp b k x = (k : Int) := by
  rw [lys_step] at h
  unfold nxt at h
  split at h
  · rename_i hc
    simp only [Bool.and_eq_true, decide_eq_true_eq] at hc
    obtain ⟨x, hx, hq⟩ := anyW_ex.mp hc.2
    simp only [Bool.and_eq_true, decide_eq_true_eq] at hq
    exact ⟨hc.1.1, x, hx, by omega⟩
  · have := lys_bd (L := L) (pp := pp) (b := b) k i
    omega
theorem lys_keep {L : Nat → Nat → Bool} {pp b k i : Nat} (h : lys L pp b k i ≠ -1) : lys L pp b (k + 1) i = lys L pp b k i := by
  rw [lys_step]
  unfold nxt
  rw [if_neg]
  simp only [Bool.and_eq_true, decide_eq_true_eq]
  exact fun z => h z.1.2
theorem lys_all {L : Nat → Nat → Bool} {pp b : Nat} (hb : b < pp) : ∀ k, (∃ x, x < pp ∧ lys L pp b k x = (k : Int)) → ∀ j, j ≤ k → ∃ y, y < pp ∧ lys L pp b k y = (j : Int)
  | 0, h, j, hj => by
    have : j = 0 := by omega
    subst this; exact h
  | k + 1, ⟨x, hx, h⟩, j, hj => by
    by_cases e : j = k + 1
    · subst e; exact ⟨x, hx, h⟩
    · obtain ⟨_, y, hy, hyk⟩ := lys_new h
      obtain ⟨z, hz, hzj⟩ := lys_all hb k ⟨y, hy, hyk⟩ j (by omega)
      exact ⟨z, hz, by rw [lys_keep (by omega)]; exact hzj⟩
