/-! the way down -/
theorem lys_next {L : Nat → Nat → Bool} {pp b x f : Nat} : ∀ m, lys L pp b m x = ((f + 1 : Nat) : Int) → ∃ y, y < pp ∧ L x y = true ∧ lys L pp b m y = (f : Int)
  | 0, h => by
    have z0 : lys L pp b 0 x = if x = b then 0 else -1 := rfl
    rw [z0] at h
    split at h <;> omega
  | m + 1, h => by
    by_cases c : lys L pp b m x = -1
    · have h2 := h
      rw [lys_step] at h2
      unfold nxt at h2
      split at h2
      · rename_i hc
        simp only [Bool.and_eq_true, decide_eq_true_eq] at hc
        obtain ⟨y, hy, hq⟩ := anyW_ex.mp hc.2
        simp only [Bool.and_eq_true, decide_eq_true_eq] at hq
        refine ⟨y, hy, hq.1, ?_⟩
        rw [lys_keep (by omega)]
        omega
      · omega
    · rw [lys_keep c] at h
      obtain ⟨y, hy, hl, hv⟩ := lys_next m h
      exact ⟨y, hy, hl, by rw [lys_keep (by omega)]; exact hv⟩
/-- k steps down from x, always to the first that may be next -/
def wlk (L : Nat → Nat → Bool) (st : Nat → Int) (pp : Nat) : Nat → Nat → Nat
  | 0, x => x
  | k + 1, x => wlk L st pp k (fsb (fun y => L x y && decide (st y = st x - 1)) pp 0).toNat
theorem fsb_in {q : Nat → Bool} : ∀ (k i : Nat), fsb q k i ≠ -1 → ∃ y : Nat, fsb q k i = (y : Int) ∧ i ≤ y ∧ y < i + k ∧ q y = true ∧ ∀ x, i ≤ x → x < y → q x = false
  | 0, i, h => absurd rfl h
  | k + 1, i, h => by
    rw [fsb_step] at h ⊢
    by_cases c : q i = true
    · rw [if_pos c]
      exact ⟨i, rfl, Nat.le_refl i, by omega, c, fun x h1 h2 => by omega⟩
    · rw [if_neg c] at h ⊢
      obtain ⟨y, h1, h2, h3, h4, h5⟩ := fsb_in k (i + 1) h
      refine ⟨y, h1, by omega, by omega, h4, fun x hx1 hx2 => ?_⟩
      by_cases e : x = i
      · subst e; simpa using c
      · exact h5 x (by omega) hx2
