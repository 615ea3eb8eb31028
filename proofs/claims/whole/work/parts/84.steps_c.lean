/-! the layers of the class -/
theorem fsb_iff {q : Nat → Bool} : ∀ (k i : Nat), fsb q k i = -1 ↔ ∀ x, i ≤ x → x < i + k → q x = false
  | 0, i => ⟨fun _ x h1 h2 => by omega, fun _ => rfl⟩
  | k + 1, i => by
    rw [fsb_step]
    by_cases c : q i = true
    · rw [if_pos c]
      exact ⟨fun h => by omega, fun h => by rw [h i (Nat.le_refl i) (by omega)] at c; cases c⟩
    · rw [if_neg c, fsb_iff k (i + 1)]
      constructor
      · intro h x h1 h2
        by_cases e : x = i
        · subst e; simpa using c
        · exact h x (by omega) (by omega)
      · exact fun h x h1 h2 => h x (by omega) (by omega)
theorem lys_mix {L : Nat → Nat → Bool} {pp b k x : Nat} : lys L pp b (k + 1) x = (k : Int) ↔ lys L pp b k x = (k : Int) := by
  have hb := lys_bd (L := L) (pp := pp) (b := b) k x
  by_cases c : lys L pp b k x = -1
  · rw [lys_step]
    unfold nxt
    split <;> omega
  · rw [lys_keep c]
theorem s_stepsDown {o pp a b : Nat} {L : Nat → Nat → Bool} {M : Mem} {P : Int → Mem → Prop} (ho : isO o) (h5 : pp ≤ 5) (hp : M o 4 = (pp : Int)) (ha : a < pp) (hb : b < pp) (hL : rows M (o + 2) L)
    (h : ∀ M', Fr (· = o + 4) M M' → (∀ i, i < 8 → M' (o + 4) i = lys L pp b (pp - 1) i) → P (lys L pp b (pp - 1) a) M') : CI m5_stepsDown 3 [(15, (o : Int)), (0, (a : Int)), (0, (b : Int))] M P := by
  have a4 : ((aln (o + 4) : Nat) : Int) = 8 := by rw [ho.2.2.2]; rfl
  apply q_5_stepsDown
  refine loop_up (Inv := fun i M1 => Fr (· = o + 4) M M1 ∧ ∀ j, j < i → M1 (o + 4) j = lys L pp b 0 j) (G := fun i M1 => A m5_stepsDown 3 0 2 [(15, (o : Int)), (0, (a : Int)), (0, (b : Int)), (0, (i : Int)), (2, 0)] [] M1 (Ki P)) 8 ?_ ?_ 0 M (Nat.zero_le _) ⟨Fr.rf, fun j hj => by omega⟩
  · rintro M1 ⟨hF, hs⟩
    apply r_5_stepsDown_2
    refine ⟨fun _ => ?_, fun q => by omega⟩
    have key : ∀ k f : Nat, f + k = pp - 1 → ∀ M2, Fr (· = o + 4) M M2 → (∀ j, j < 8 → M2 (o + 4) j = lys L pp b f j) → A m5_stepsDown 3 0 34 [(15, (o : Int)), (0, (a : Int)), (2, 0), (0, ((f + 1 : Nat) : Int)), (2, 0)] [] M2 (Ki P) := by
      intro k
      induction k with
      | zero =>
        intro f hf M2 hF2 hs2
        have e : f = pp - 1 := by omega
        subst e
        apply r_5_stepsDown_34
        rw [hF2 o (by omega), hp]
        refine ⟨fun _ => s_at (by omega) (by omega) ?_, fun q => by omega⟩
        rw [Int.toNat_natCast, hs2 a (by omega)]
        exact h M2 hF2 hs2
      | succ k ih =>
        intro f hf M2 hF2 hs2
        apply r_5_stepsDown_34
        rw [hF2 o (by omega), hp]
        refine ⟨fun q => by omega, fun _ => ?_⟩
        refine loop_up (Inv := fun i M3 => Fr (· = o + 4) M M3 ∧ (∀ j, j < i → M3 (o + 4) j = lys L pp b (f + 1) j) ∧ ∀ j, i ≤ j → j < 8 → M3 (o + 4) j = lys L pp b f j) (G := fun i M3 => A m5_stepsDown 3 0 45 [(15, (o : Int)), (0, (a : Int)), (2, 0), (0, ((f + 1 : Nat) : Int)), (0, (i : Int))] [] M3 (Ki P)) pp ?_ ?_ 0 M2 (Nat.zero_le _) ⟨hF2, fun j hj => by omega, fun j _ hj => hs2 j hj⟩
        · rintro M3 ⟨hF3, s1, s2⟩
          apply r_5_stepsDown_45
          rw [hF3 o (by omega), hp, w_1 (i := f + 1) (by omega)]
          refine ⟨fun _ => ih (f + 1) (by omega) M3 hF3 (fun j hj => ?_), fun q => by omega⟩
          by_cases c : j < pp
          · exact s1 j c
          · rw [s2 j (by omega) hj, lys_step]
            unfold nxt
            rw [if_neg (by rw [decide_eq_false c]; simp)]
        · rintro i M3 hi ⟨hF3, s1, s2⟩ nx
          apply r_5_stepsDown_45
          rw [hF3 o (by omega), hp, w_1 (i := i) (by omega)]
          refine ⟨fun q => by omega, fun _ => s_at (by omega) (by omega) ?_⟩
          rw [Int.toNat_natCast, s2 i (Nat.le_refl i) (by omega)]
          have same : lys L pp b (f + 1) i = lys L pp b f i → A m5_stepsDown 3 0 45 [(15, (o : Int)), (0, (a : Int)), (2, 0), (0, ((f + 1 : Nat) : Int)), (0, ((i + 1 : Nat) : Int))] [] M3 (Ki P) := fun e => nx M3 ⟨hF3, fun j hj => by
            by_cases c : j = i
            · subst c; rw [s2 j (Nat.le_refl j) (by omega), e]
            · exact s1 j (by omega), fun j h1 h2 => s2 j (by omega) h2⟩
          refine ⟨fun q => same (lys_keep q), fun q => ?_⟩
          have ef : w32 (((f + 1 : Nat) : Int) - 1) = (f : Int) := by unfold w32; omega
          rw [ef]
          apply s_firstBelowAt ho h5 (by rw [hF3 o (by omega)]; exact hp) (by omega) (L := L) (fun p hp' => by rw [hF3 (o + 2) (by omega)]; exact hL p hp')
          have hst : ∀ x, x < pp → (M3 (o + 4) x = (f : Int) ↔ lys L pp b f x = (f : Int)) := fun x hx => by
            by_cases c : x < i
            · rw [s1 x c, lys_mix]
            · rw [s2 x (by omega) (by omega)]
          have e1 : lys L pp b (f + 1) i = if anyW (fun x => L i x && decide (lys L pp b f x = ((f + 1 : Nat) : Int) - 1)) pp = true then ((f + 1 : Nat) : Int) else lys L pp b f i := by
            rw [lys_step]
            unfold nxt
            rw [decide_eq_true hi, decide_eq_true q]
            rfl
          refine ⟨fun q2 => same ?_, fun q2 => ?_⟩
          · rw [e1, if_neg]
            intro z
            obtain ⟨x, hx, hq⟩ := anyW_ex.mp z
            have := (fsb_iff pp 0).mp q2 x (Nat.zero_le x) (by omega)
            simp only [Bool.and_eq_true, decide_eq_true_eq] at hq
            have hxx := (hst x hx).mpr (by omega)
            rw [hq.1, decide_eq_true hxx] at this
            cases this
          · apply s_put (by omega) (by omega)
            rw [Int.toNat_natCast]
            have hex : anyW (fun x => L i x && decide (lys L pp b f x = ((f + 1 : Nat) : Int) - 1)) pp = true := by
              apply Classical.byContradiction
              intro z
              apply q2
              refine (fsb_iff pp 0).mpr (fun x h1 h2 => ?_)
              cases hc : (L i x && decide (M3 (o + 4) x = (f : Int))) with
              | false => rfl
              | true =>
                simp only [Bool.and_eq_true, decide_eq_true_eq] at hc
                have hxx := (hst x (by omega)).mp hc.2
                exact absurd (anyW_ex.mpr ⟨x, by omega, by rw [hc.1, decide_eq_true (by omega)]; rfl⟩) z
            rw [if_pos hex] at e1
            refine nx _ ⟨hF3.set rfl, fun j hj => ?_, fun j h1 h2 => ?_⟩
            · by_cases c : j = i
              · subst c; rw [mset_s, e1]
              · rw [mset_j c]; exact s1 j (by omega)
            · rw [mset_j (by omega)]; exact s2 j (by omega) h2
    exact key (pp - 1) 0 (by omega) M1 hF hs
  · rintro i M1 hi ⟨hF, hs⟩ ih
    have z0 : lys L pp b 0 i = if i = b then 0 else -1 := rfl
    apply r_5_stepsDown_2
    rw [w_1 (i := i) (by omega)]
    refine ⟨fun q => by omega, fun _ => ⟨fun q => s_put (by omega) (by omega) ?_, fun q => s_put (by omega) (by omega) ?_⟩⟩
    · rw [Int.toNat_natCast]
      refine ih _ ⟨hF.set rfl, fun j hj => ?_⟩
      by_cases c : j = i
      · subst c; rw [mset_s, z0, if_neg (by omega)]
      · rw [mset_j c]; exact hs j (by omega)
    · rw [Int.toNat_natCast]
      refine ih _ ⟨hF.set rfl, fun j hj => ?_⟩
      by_cases c : j = i
      · subst c; rw [mset_s, z0, if_pos (by omega)]
      · rw [mset_j c]; exact hs j (by omega)
