/-! feed -/
def byt (x : Int) (i : Nat) : Int := iand (ishr x ((24 - 8 * i : Nat) : Int)) 255
def fedB (x1 x2 x3 x4 x5 : Int) (i : Nat) : Int := if i < 4 then byt x1 (i % 4) else if i < 8 then byt x2 (i % 4) else if i < 12 then byt x3 (i % 4) else if i < 16 then byt x4 (i % 4) else byt x5 (i % 4)
def tset (k j : Nat) : Prop := k = 1 ∨ (k = 0 ∧ j = 1)
theorem s_layBytes {L : Nat} {x : Int} {M : Mem} {P : Mem → Prop} (hL : M 0 1 = (L : Int)) (h7 : L + 4 ≤ 700)
    (h : ∀ M', Fp tset M M' → M' 0 1 = ((L + 4 : Nat) : Int) → (∀ j, j < L → M' 1 j = M 1 j) → (∀ i, i < 4 → M' 1 (L + i) = byt x i) → P M') : CD m10_layBytes 2 [(19, ((0 : Nat) : Int)), (0, x)] M P := by
  have a1 : ((aln 1 : Nat) : Int) = 700 := by decide
  apply q_10_layBytes
  have key : ∀ k i : Nat, i + k = 4 → ∀ (M1 : Mem) (z : Int), z = 24 - 8 * (i : Int) → Fp tset M M1 → M1 0 1 = ((L + i : Nat) : Int) → (∀ j, j < L → M1 1 j = M 1 j) → (∀ i', i' < i → M1 1 (L + i') = byt x i') → A m10_layBytes 2 0 3 [(19, ((0 : Nat) : Int)), (0, x), (0, z)] [] M1 (Kd P) := by
    intro k
    induction k with
    | zero =>
      intro i hi M1 z hz hF h1 h2 h3
      have e : i = 4 := by omega
      subst e
      apply r_10_layBytes_3
      exact ⟨fun _ => h M1 hF h1 h2 h3, fun q => by omega⟩
    | succ k ih =>
      intro i hi M1 z hz hF h1 h2 h3
      have ez : z = ((24 - 8 * i : Nat) : Int) := by omega
      have eb : iand (iushr x z) 255 = byt x i := by
        rw [ez]; exact byte_eq x _ (by omega)
      apply r_10_layBytes_3
      refine ⟨fun q => by omega, fun _ => ?_⟩
      rw [h1, eb]
      apply s_put (by omega) (by omega)
      rw [Int.toNat_natCast, mset_k (by decide), h1, w_1 (by omega)]
      refine ih (i + 1) (by omega) _ _ (by unfold w32; omega) ((hF.set (Or.inl rfl)).set (Or.inr ⟨rfl, rfl⟩)) mset_s (fun j hj => ?_) (fun i' hi' => ?_)
      · rw [mset_k (by decide), mset_j (by omega)]; exact h2 j hj
      · rw [mset_k (by decide)]
        by_cases e : i' = i
        · subst e; exact mset_s
        · rw [mset_j (by omega)]; exact h3 i' (by omega)
  exact key 4 0 rfl M 24 (by omega) Fp.rf hL (fun _ _ => rfl) (fun i' hi' => by omega)
theorem s_feed {L : Nat} {x1 x2 x3 x4 x5 : Int} {M : Mem} {P : Int → Mem → Prop} (hL : M 0 1 = (L : Int)) (h7 : L ≤ 700)
    (hy : L ≤ 680 → ∀ M', Fp tset M M' → M' 0 1 = ((L + 20 : Nat) : Int) → (∀ j, j < L → M' 1 j = M 1 j) → (∀ i, i < 20 → M' 1 (L + i) = fedB x1 x2 x3 x4 x5 i) → P ((L + 20 : Nat) : Int) M') (hno : ¬ L ≤ 680 → P (-1) M) : CI m10_feed 3 [(19, ((0 : Nat) : Int)), (0, x1), (0, x2), (0, x3), (0, x4), (0, x5)] M P := by
  have ew : w32 ((L : Int) + 20) = ((L + 20 : Nat) : Int) := by unfold w32; omega
  apply q_10_feed
  rw [hL, ew]
  refine ⟨fun q => ?_, fun q => hno (by omega)⟩
  have hy := hy (by omega)
  apply s_layBytes hL (by omega)
  intro M1 f1 l1 o1 b1
  apply s_layBytes l1 (by omega)
  intro M2 f2 l2 o2 b2
  apply s_layBytes l2 (by omega)
  intro M3 f3 l3 o3 b3
  apply s_layBytes l3 (by omega)
  intro M4 f4 l4 o4 b4
  apply s_layBytes l4 (by omega)
  intro M5 f5 l5 o5 b5
  have e20 : L + 4 + 4 + 4 + 4 + 4 = L + 20 := by omega
  rw [e20] at l5
  rw [l5]
  refine hy M5 (f1.tr (f2.tr (f3.tr (f4.tr f5)))) l5 (fun j hj => ?_) (fun i hi => ?_)
  · rw [o5 j (by omega), o4 j (by omega), o3 j (by omega), o2 j (by omega), o1 j hj]
  · unfold fedB
    by_cases c1 : i < 4
    · rw [if_pos c1, o5 _ (by omega), o4 _ (by omega), o3 _ (by omega), o2 _ (by omega), b1 i c1, Nat.mod_eq_of_lt c1]
    · rw [if_neg c1]
      by_cases c2 : i < 8
      · have e : L + i = L + 4 + (i - 4) := by omega
        rw [if_pos c2, o5 _ (by omega), o4 _ (by omega), o3 _ (by omega), e, b2 (i - 4) (by omega), show i % 4 = i - 4 by omega]
      · rw [if_neg c2]
        by_cases c3 : i < 12
        · have e : L + i = L + 4 + 4 + (i - 8) := by omega
          rw [if_pos c3, o5 _ (by omega), o4 _ (by omega), e, b3 (i - 8) (by omega), show i % 4 = i - 8 by omega]
        · rw [if_neg c3]
          by_cases c4 : i < 16
          · have e : L + i = L + 4 + 4 + 4 + (i - 12) := by omega
            rw [if_pos c4, o5 _ (by omega), e, b4 (i - 12) (by omega), show i % 4 = i - 12 by omega]
          · have e : L + i = L + 4 + 4 + 4 + 4 + (i - 16) := by omega
            rw [if_neg c4, e, b5 (i - 16) (by omega), show i % 4 = i - 16 by omega]
def trs (k j : Nat) : Prop := k = 60 ∨ (k = 59 ∧ j = 2)
theorem s_feed_r {L : Nat} {x1 x2 x3 x4 x5 : Int} {M : Mem} {P : Int → Mem → Prop} (hL : M 59 2 = (L : Int)) (h7 : L ≤ 700)
    (hy : L ≤ 680 → ∀ M', Fp trs (mset M 59 0 0) M' → M' 59 2 = ((L + 20 : Nat) : Int) → (∀ j, j < L → M' 60 j = M 60 j) → (∀ i, i < 20 → M' 60 (L + i) = fedB x1 x2 x3 x4 x5 i) → P ((L + 20 : Nat) : Int) M') (hno : ¬ L ≤ 680 → P (-1) (mset M 59 0 0)) : CI m11_feed 1 [(20, ((59 : Nat) : Int)), (0, x1), (0, x2), (0, x3), (0, x4), (0, x5)] M P := by
  have hL0 : (mset M 59 0 0) 59 2 = (L : Int) := by rw [mset_j (by decide)]; exact hL
  have h60 : (mset M 59 0 0) 60 = M 60 := funext fun j => mset_k (by decide)
  rw [← h60] at hy
  apply q_11_feed
  generalize mset M 59 0 0 = M0 at hL0 hy hno ⊢
  rw [hL0]
  refine ⟨fun q => ?_, fun q => hno (by omega)⟩
  have hy := hy (by omega)
  have key : ∀ k i : Nat, i + k = 20 → ∀ M1 : Mem, Fp (fun k _ => k = 60) M0 M1 → (∀ j, j < L → M1 60 j = M0 60 j) → (∀ i', i' < i → M1 60 (L + i') = fedB x1 x2 x3 x4 x5 i') → A m11_feed 1 0 20 [(20, ((59 : Nat) : Int)), (0, x1), (0, x2), (0, x3), (0, x4), (0, x5), (0, (i : Int)), (2, 0)] [] M1 (Ki P) := by
    intro k
    induction k with
    | zero =>
      intro i hi M1 hF h2 h3
      have e : i = 20 := by omega
      subst e
      have l1 : M1 59 2 = (L : Int) := by rw [hF 59 2 (by omega)]; exact hL0
      have ew : w32 ((L : Int) + 20) = ((L + 20 : Nat) : Int) := by unfold w32; omega
      apply r_11_feed_20
      refine ⟨fun _ => ?_, fun q => by omega⟩
      rw [l1, ew, mset_s]
      have h0 : Fp trs M0 M1 := hF.mono (fun k j z => Or.inl z)
      refine hy _ (h0.set (Or.inr ⟨rfl, rfl⟩)) mset_s (fun j hj => ?_) (fun i' hi' => ?_)
      · rw [mset_k (by decide)]; exact h2 j hj
      · rw [mset_k (by decide)]; exact h3 i' hi'
    | succ k ih =>
      intro i hi M1 hF h2 h3
      have l1 : M1 59 2 = (L : Int) := by rw [hF 59 2 (by omega)]; exact hL0
      have ew : w32 ((L : Int) + (i : Int)) = ((L + i : Nat) : Int) := by unfold w32; omega
      have es : w32 (24 - w32 (8 * w32 (Int.tmod (i : Int) 4))) = ((24 - 8 * (i % 4) : Nat) : Int) := by
        have hm : Int.tmod (i : Int) 4 = ((i % 4 : Nat) : Int) := by
          rw [Int.tmod_eq_emod_of_nonneg (by omega)]; omega
        have ht : ∀ r : Nat, r < 4 → w32 (24 - w32 (8 * w32 (r : Int))) = ((24 - 8 * r : Nat) : Int) := by decide
        rw [hm]
        exact ht (i % 4) (by omega)
      have go : ∀ x, byt x (i % 4) = fedB x1 x2 x3 x4 x5 i → A m11_feed 1 0 20 [(20, ((59 : Nat) : Int)), (0, x1), (0, x2), (0, x3), (0, x4), (0, x5), (0, ((i + 1 : Nat) : Int)), (2, 0)] [] (mset M1 60 (L + i) (iand (ishr x ((24 - 8 * (i % 4) : Nat) : Int)) 255)) (Ki P) := by
        intro x hx
        refine ih (i + 1) (by omega) _ (hF.set rfl) (fun j hj => ?_) (fun i' hi' => ?_)
        · rw [mset_j (by omega)]; exact h2 j hj
        · by_cases e : i' = i
          · subst e; rw [mset_s]; exact hx
          · rw [mset_j (by omega)]; exact h3 i' (by omega)
      apply r_11_feed_20
      rw [l1, ew, es, w_1 (i := i) (by omega), Int.toNat_natCast]
      refine ⟨fun q => by omega, fun _ => ⟨fun c1 => ⟨fun c2 => ⟨fun c3 => ⟨fun c4 => ⟨by omega, go _ ?_⟩, fun c4 => ⟨by omega, go _ ?_⟩⟩, fun c3 => ⟨by omega, go _ ?_⟩⟩, fun c2 => ⟨by omega, go _ ?_⟩⟩, fun c1 => ⟨by omega, go _ ?_⟩⟩⟩
      · unfold fedB; rw [if_neg (by omega), if_neg (by omega), if_neg (by omega), if_neg (by omega)]
      · unfold fedB; rw [if_neg (by omega), if_neg (by omega), if_neg (by omega), if_pos (by omega)]
      · unfold fedB; rw [if_neg (by omega), if_neg (by omega), if_pos (by omega)]
      · unfold fedB; rw [if_neg (by omega), if_pos (by omega)]
      · unfold fedB; rw [if_pos (by omega)]
  exact key 20 0 rfl M0 Fp.rf (fun _ _ => rfl) (fun i' hi' => by omega)
