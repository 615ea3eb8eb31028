/-! there are at most as many layers as people -/
theorem lys_top {L : Nat → Nat → Bool} {pp b k : Nat} (hb : b < pp) (h : ∃ x, x < pp ∧ lys L pp b k x = (k : Int)) : k + 1 ≤ pp := by
  have ha := lys_all hb k h
  refine php pp (k + 1) (fun j => if hj : j ≤ k then Classical.choose (ha j hj) else 0) (fun i hi => ?_) (fun i j hij hj => ?_)
  · have hi2 : i ≤ k := by omega
    show (if hj : i ≤ k then Classical.choose (ha i hj) else 0) < pp
    rw [dif_pos hi2]
    exact (Classical.choose_spec (ha i hi2)).1
  · have hi2 : i ≤ k := by omega
    have hj2 : j ≤ k := by omega
    show (if hj : i ≤ k then Classical.choose (ha i hj) else 0) ≠ (if hj : j ≤ k then Classical.choose (ha j hj) else 0)
    rw [dif_pos hi2, dif_pos hj2]
    intro e
    have e1 := (Classical.choose_spec (ha i hi2)).2
    have e2 := (Classical.choose_spec (ha j hj2)).2
    rw [e, e2] at e1
    omega
theorem lys_stop {L : Nat → Nat → Bool} {pp b k : Nat} (hb : b < pp) (hk : pp ≤ k + 1) : lys L pp b (k + 1) = lys L pp b k := by
  funext i
  by_cases c : lys L pp b (k + 1) i = ((k + 1 : Nat) : Int)
  · obtain ⟨hi, _⟩ := lys_new c
    have := lys_top hb ⟨i, hi, c⟩
    omega
  · rw [lys_step] at c ⊢
    unfold nxt at c ⊢
    split
    · rename_i hc
      rw [if_pos hc] at c
      exact absurd rfl c
    · rfl
theorem lys_end {L : Nat → Nat → Bool} {pp b : Nat} (hb : b < pp) : ∀ m, lys L pp b (pp - 1 + m) = lys L pp b (pp - 1)
  | 0 => rfl
  | m + 1 => by
    rw [show pp - 1 + (m + 1) = (pp - 1 + m) + 1 by omega, lys_stop hb (by omega), lys_end hb m]
