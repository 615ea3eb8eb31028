/-! the reference: layOrder -/
theorem tn_pos {b : Bool} : ((b.toNat : Int) = 0) ↔ b = false := by cases b <;> simp
theorem tn_ne {b : Bool} : ((b.toNat : Int) ≠ 0) ↔ b = true := by cases b <;> simp
theorem s_layOrder {b n people : Nat} {s : Int} {M : Mem} {P : Mem → Prop} (hb : b + n ≤ 72) (hp5 : people ≤ 5) (hg : Fgood (FrT M b) n people)
    (h : ∀ M', Fr m45 M M' → mat M' 74 (abv (FrT M b) n people s) → mat M' 75 (lvl (FrT M b) n) → P M') : CD m11_layOrder 2 [(20, ((59 : Nat) : Int)), (0, (b : Int)), (0, (n : Int)), (0, (people : Int)), (0, s)] M P := by
  obtain ⟨hF, hgd⟩ := hg
  apply q_11_layOrder
  have n74 : m45 74 := Or.inl rfl
  have n75 : m45 75 := Or.inr rfl
  have hfr : ∀ M1, Fr m45 M M1 → FrT M1 b = FrT M b := by
    intro M1 h1
    funext i c
    unfold FrT
    split <;> rw [h1 _ (by unfold m45; omega)]
  have hfa : ∀ i, M 69 (b + i) = FrT M b i 0 ∧ M 70 (b + i) = FrT M b i 1 ∧ M 71 (b + i) = FrT M b i 2 ∧ M 72 (b + i) = FrT M b i 3 ∧ M 73 (b + i) = FrT M b i 4 := fun i => ⟨rfl, rfl, rfl, rfl, rfl⟩
  generalize hFe : FrT M b = F at h hF hgd hfr hfa
  have wbn : w32 ((b : Int) + (n : Int)) = ((b + n : Nat) : Int) := by unfold w32; omega
  -- the last loop: until nothing is new
  have stepW : ∀ (w : Nat) (M1 : Mem) (X : Nat → Nat → Bool), msr X < w → Fr m45 M M1 → mat M1 75 (lvl F n) → mat M1 74 X → (∀ a b, ar F s n a b = true → X a b = true) → (∀ a b, X a b = true → abv F n people s a b = true) → A m11_layOrder 2 0 271 [(20, ((59 : Nat) : Int)), (2, 0), (2, 0), (0, (people : Int)), (2, 0), (0, 1), (2, 0), (2, 0), (2, 0), (2, 0)] [] M1 (Kd P) := by
    intro w
    induction w with
    | zero => intro M1 X hm; omega
    | succ w ihw =>
      intro M1 X hm hF1 hL1 hX1 hA1 hS1
      apply r_11_layOrder_271
      refine ⟨fun q => by omega, fun _ => ?_⟩
      -- a pass: (more, matrix)
      have fin : ∀ (σ : Int × (Nat → Nat → Bool)) (M2 : Mem), (Fr m45 M M2 ∧ mat M2 75 (lvl F n) ∧ mat M2 74 σ.2 ∧ (∀ a b, ar F s n a b = true → σ.2 a b = true) ∧ (∀ a b, σ.2 a b = true → abv F n people s a b = true) ∧ (∀ a b, X a b = true → σ.2 a b = true) ∧ (σ.1 = 0 ∧ σ.2 = X ∨ σ.1 = 1 ∧ msr σ.2 < msr X)) ∧ (σ.1 = 0 → cls (lvl F n) X people) → A m11_layOrder 2 0 271 [(20, ((59 : Nat) : Int)), (2, 0), (2, 0), (0, (people : Int)), (2, 0), (0, σ.1), (2, 0), (2, 0), (2, 0), (2, 0)] [] M2 (Kd P) := by
        rintro ⟨mo, Y⟩ M2 ⟨⟨hF2, hL2, hX2, hA2, hS2, hXY, hmo⟩, hcl⟩
        rcases hmo with ⟨e, e2⟩ | ⟨e, e2⟩
        · dsimp only at e e2 hcl hX2 hA2 hS2
          subst e2
          rw [e]
          apply r_11_layOrder_271
          refine ⟨fun _ => ?_, fun q => absurd rfl q⟩
          exact h M2 hF2 (mat_congr hX2 (fun a b _ _ => (abv_cls hF hA2 hS2 (hcl e) a b).symm)) hL2
        · dsimp only at e e2
          rw [e]
          exact ihw M2 Y (by omega) hF2 hL2 hX2 hA2 hS2
      refine loop_upS (σ := Int × (Nat → Nat → Bool)) (Inv := fun a σ M2 => (Fr m45 M M2 ∧ mat M2 75 (lvl F n) ∧ mat M2 74 σ.2 ∧ (∀ a b, ar F s n a b = true → σ.2 a b = true) ∧ (∀ a b, σ.2 a b = true → abv F n people s a b = true) ∧ (∀ a b, X a b = true → σ.2 a b = true) ∧ (σ.1 = 0 ∧ σ.2 = X ∨ σ.1 = 1 ∧ msr σ.2 < msr X)) ∧ (σ.1 = 0 → ∀ a' y b, a' < a → y < people → b < people → (lvl F n a' y = true ∧ X y b = true) ∨ (X a' y = true ∧ (lvl F n y b = true ∨ X y b = true)) → X a' b = true))
        (G := fun a σ M2 => A m11_layOrder 2 0 282 [(20, ((59 : Nat) : Int)), (2, 0), (2, 0), (0, (people : Int)), (2, 0), (0, σ.1), (0, (a : Int)), (2, 0), (2, 0), (2, 0)] [] M2 (Kd P)) people ?_ ?_ 0 (0, X) M1 (by omega) ⟨⟨hF1, hL1, hX1, hA1, hS1, fun _ _ z => z, Or.inl ⟨rfl, rfl⟩⟩, fun _ a' y b ha' => by omega⟩
      · rintro σ M2 hI
        apply r_11_layOrder_282
        refine ⟨fun _ => fin σ M2 ⟨hI.1, fun e a y b ha => hI.2 e a y b ha⟩, fun q => by omega⟩
      · rintro a σ M2 ha hI iha
        apply r_11_layOrder_282
        refine ⟨fun _ => by omega, fun _ => ?_⟩
        refine loop_upS (σ := Int × (Nat → Nat → Bool)) (Inv := fun y0 σ M2 => (Fr m45 M M2 ∧ mat M2 75 (lvl F n) ∧ mat M2 74 σ.2 ∧ (∀ a b, ar F s n a b = true → σ.2 a b = true) ∧ (∀ a b, σ.2 a b = true → abv F n people s a b = true) ∧ (∀ a b, X a b = true → σ.2 a b = true) ∧ (σ.1 = 0 ∧ σ.2 = X ∨ σ.1 = 1 ∧ msr σ.2 < msr X)) ∧ (σ.1 = 0 → ∀ a' y b, (a' < a ∨ (a' = a ∧ y < y0)) → y < people → b < people → (lvl F n a' y = true ∧ X y b = true) ∨ (X a' y = true ∧ (lvl F n y b = true ∨ X y b = true)) → X a' b = true))
          (G := fun y0 σ M2 => A m11_layOrder 2 0 291 [(20, ((59 : Nat) : Int)), (2, 0), (2, 0), (0, (people : Int)), (2, 0), (0, σ.1), (0, (a : Int)), (0, (y0 : Int)), (2, 0), (2, 0)] [] M2 (Kd P)) people ?_ ?_ 0 σ M2 (by omega) ⟨hI.1, fun e a' y b h1 h2 h3 h4 => hI.2 e a' y b (by omega) h2 h3 h4⟩
        · rintro σ M3 hI3
          apply r_11_layOrder_291
          refine ⟨fun _ => ?_, fun q => by omega⟩
          rw [w_1 (by omega)]
          exact iha σ M3 ⟨hI3.1, fun e a' y b h1 h2 h3 h4 => hI3.2 e a' y b (by omega) h2 h3 h4⟩
        · rintro y0 σ M3 hy0 hI3 ihy
          apply r_11_layOrder_291
          refine ⟨fun _ => by omega, fun _ => ?_⟩
          refine loop_upS (σ := Int × (Nat → Nat → Bool)) (Inv := fun b0 σ M2 => (Fr m45 M M2 ∧ mat M2 75 (lvl F n) ∧ mat M2 74 σ.2 ∧ (∀ a b, ar F s n a b = true → σ.2 a b = true) ∧ (∀ a b, σ.2 a b = true → abv F n people s a b = true) ∧ (∀ a b, X a b = true → σ.2 a b = true) ∧ (σ.1 = 0 ∧ σ.2 = X ∨ σ.1 = 1 ∧ msr σ.2 < msr X)) ∧ (σ.1 = 0 → ∀ a' y b, (a' < a ∨ (a' = a ∧ (y < y0 ∨ (y = y0 ∧ b < b0)))) → y < people → b < people → (lvl F n a' y = true ∧ X y b = true) ∨ (X a' y = true ∧ (lvl F n y b = true ∨ X y b = true)) → X a' b = true))
            (G := fun b0 σ M2 => A m11_layOrder 2 0 300 [(20, ((59 : Nat) : Int)), (2, 0), (2, 0), (0, (people : Int)), (2, 0), (0, σ.1), (0, (a : Int)), (0, (y0 : Int)), (0, (b0 : Int)), (2, 0)] [] M2 (Kd P)) people ?_ ?_ 0 σ M3 (by omega) ⟨hI3.1, fun e a' y b h1 h2 h3 h4 => hI3.2 e a' y b (by omega) h2 h3 h4⟩
          · rintro σ M4 hI4
            apply r_11_layOrder_300
            refine ⟨fun _ => ?_, fun q => by omega⟩
            rw [w_1 (by omega)]
            exact ihy σ M4 ⟨hI4.1, fun e a' y b h1 h2 h3 h4 => hI4.2 e a' y b (by omega) h2 h3 h4⟩
          · rintro b0 ⟨mo, Y⟩ M4 hb0 ⟨⟨hF4, hL4, hX4, hA4, hS4, hXY, hmo⟩, hcl⟩ ihb
            dsimp only at hX4 hA4 hS4 hXY hmo hcl ⊢
            have Lay := hL4 a y0 (by omega) (by omega)
            have Lyb := hL4 y0 b0 (by omega) (by omega)
            have Xay := hX4 a y0 (by omega) (by omega)
            have Xyb := hX4 y0 b0 (by omega) (by omega)
            have Xab := hX4 a b0 (by omega) (by omega)
            -- what is new, and what is not
            have no : ¬ ((lvl F n a y0 = true ∧ Y y0 b0 = true) ∨ (Y a y0 = true ∧ (lvl F n y0 b0 = true ∨ Y y0 b0 = true))) → A m11_layOrder 2 0 385 [(20, ((59 : Nat) : Int)), (2, 0), (2, 0), (0, (people : Int)), (2, 0), (0, mo), (0, (a : Int)), (0, (y0 : Int)), (0, (b0 : Int)), (2, 0)] [] M4 (Kd P) := by
              intro hn
              apply r_11_layOrder_385
              apply r_11_layOrder_427
              rw [w_1 (by omega)]
              refine ihb (mo, Y) M4 ⟨⟨hF4, hL4, hX4, hA4, hS4, hXY, hmo⟩, fun e a' y b h1 h2 h3 h4 => ?_⟩
              dsimp only at e
              have hYX : Y = X := by rcases hmo with z | z; exact z.2; omega
              by_cases hlt : a' < a ∨ (a' = a ∧ (y < y0 ∨ (y = y0 ∧ b < b0)))
              · exact hcl e a' y b hlt h2 h3 h4
              · have e1 : a' = a := by omega
                have e2 : y = y0 := by omega
                have e3 : b = b0 := by omega
                subst e1; subst e2; subst e3
                rw [← hYX] at h4
                exact absurd h4 hn
            have yes : ((lvl F n a y0 = true ∧ Y y0 b0 = true) ∨ (Y a y0 = true ∧ (lvl F n y0 b0 = true ∨ Y y0 b0 = true))) → A m11_layOrder 2 0 381 [(20, ((59 : Nat) : Int)), (2, 0), (2, 0), (0, (people : Int)), (2, 0), (0, mo), (0, (a : Int)), (0, (y0 : Int)), (0, (b0 : Int)), (2, 0)] [] M4 (Kd P) := by
              intro hy
              apply r_11_layOrder_381
              apply s_pair (by omega) (by omega)
              refine ⟨by omega, ?_⟩
              rw [Int.toNat_natCast, Xab]
              refine ⟨fun q => ?_, fun q => ?_⟩
              · have hf := tn_pos.mp q
                apply s_pair (by omega) (by omega)
                refine ⟨by omega, ?_⟩
                rw [Int.toNat_natCast]
                apply r_11_layOrder_427
                rw [w_1 (by omega)]
                have hab : abv F n people s a b0 = true := by
                  refine abv_step hF (y := y0) ha hy0 hb0 ?_
                  rcases hy with ⟨z1, z2⟩ | ⟨z1, z2 | z2⟩
                  · exact Or.inl ⟨z1, hS4 _ _ z2⟩
                  · exact Or.inr ⟨hS4 _ _ z1, Or.inl z2⟩
                  · exact Or.inr ⟨hS4 _ _ z1, Or.inr (hS4 _ _ z2)⟩
                generalize hY' : (fun a' b' => Y a' b' || decide (a' = a ∧ b' = b0)) = Y'
                have hYY : ∀ a' b', Y a' b' = true → Y' a' b' = true := fun a' b' z => by rw [← hY']; simp [z]
                have hms : msr Y' < msr Y := msr_lt (a := a) (b := b0) (by omega) (by omega) hf (by rw [← hY']; simp) hYY
                refine ihb (1, Y') _ ⟨⟨hF4.set n74, mat_fr hL4 (s := fun k => k = 74) (fun k hk => by funext j; exact mset_k hk) (by omega), ?_, fun a' b' z => hYY _ _ (hA4 a' b' z), fun a' b' z => ?_, fun a' b' z => hYY _ _ (hXY a' b' z), Or.inr ⟨rfl, ?_⟩⟩, fun e => by simp at e⟩
                · exact mat_set (v := true) hX4 (by omega) rfl (by rw [← hY']; simp) (fun a' b' _ _ e => by rw [← hY']; simp [e])
                · rw [← hY'] at z
                  simp only [Bool.or_eq_true, decide_eq_true_eq] at z
                  rcases z with z | ⟨rfl, rfl⟩
                  · exact hS4 _ _ z
                  · exact hab
                · show msr Y' < msr X
                  rcases hmo with ⟨-, z⟩ | ⟨-, z⟩
                  · rw [← z]; exact hms
                  · omega
              · have ht := tn_ne.mp q
                apply r_11_layOrder_427
                rw [w_1 (by omega)]
                refine ihb (mo, Y) M4 ⟨⟨hF4, hL4, hX4, hA4, hS4, hXY, hmo⟩, fun e a' y b h1 h2 h3 h4 => ?_⟩
                dsimp only at e
                have hYX : Y = X := by rcases hmo with z | z; exact z.2; omega
                by_cases hlt : a' < a ∨ (a' = a ∧ (y < y0 ∨ (y = y0 ∧ b < b0)))
                · exact hcl e a' y b hlt h2 h3 h4
                · have e1 : a' = a := by omega
                  have e3 : b = b0 := by omega
                  subst e1; subst e3
                  rw [← hYX]; exact ht
            have second : (lvl F n a y0 = false ∨ Y y0 b0 = false) → A m11_layOrder 2 0 336 [(20, ((59 : Nat) : Int)), (2, 0), (2, 0), (0, (people : Int)), (2, 0), (0, mo), (0, (a : Int)), (0, (y0 : Int)), (0, (b0 : Int)), (2, 0)] [] M4 (Kd P) := by
              intro hno
              apply r_11_layOrder_336
              apply s_pair (by omega) (by omega)
              refine ⟨by omega, ?_⟩
              rw [Int.toNat_natCast, Xay]
              refine ⟨fun q => no (fun z => ?_), fun q => ?_⟩
              · have q := tn_pos.mp q
                rcases z with ⟨z1, z2⟩ | ⟨z1, -⟩
                · rcases hno with y | y
                  · rw [z1] at y; cases y
                  · rw [z2] at y; cases y
                · rw [q] at z1; cases z1
              · have q := tn_ne.mp q
                apply s_pair (by omega) (by omega)
                refine ⟨by omega, ?_⟩
                rw [Int.toNat_natCast, Lyb]
                refine ⟨fun q2 => yes (Or.inr ⟨q, Or.inl (tn_ne.mp q2)⟩), fun q2 => ?_⟩
                have q2 := tn_pos.mp q2
                apply s_pair (by omega) (by omega)
                refine ⟨by omega, ?_⟩
                rw [Int.toNat_natCast, Xyb]
                refine ⟨fun q3 => no (fun z => ?_), fun q3 => yes (Or.inr ⟨q, Or.inr (tn_ne.mp q3)⟩)⟩
                have q3 := tn_pos.mp q3
                rcases z with ⟨-, z2⟩ | ⟨-, z2 | z2⟩
                · rw [q3] at z2; cases z2
                · rw [q2] at z2; cases z2
                · rw [q3] at z2; cases z2
            apply r_11_layOrder_300
            refine ⟨fun _ => by omega, fun _ => ?_⟩
            apply s_pair (by omega) (by omega)
            refine ⟨by omega, ?_⟩
            rw [Int.toNat_natCast, Lay]
            refine ⟨fun q => second (Or.inl (tn_pos.mp q)), fun q => ?_⟩
            apply s_pair (by omega) (by omega)
            refine ⟨by omega, ?_⟩
            rw [Int.toNat_natCast, Xyb]
            exact ⟨fun q2 => yes (Or.inl ⟨tn_ne.mp q, tn_ne.mp q2⟩), fun q2 => second (Or.inr (tn_pos.mp q2))⟩
  -- who is level
  have stepL : ∀ M1, Fr m45 M M1 → mat M1 75 (lb F n) → mat M1 74 (ar F s n) → A m11_layOrder 2 0 183 [(20, ((59 : Nat) : Int)), (2, 0), (2, 0), (0, (people : Int)), (2, 0), (0, 0), (2, 0), (2, 0), (2, 0), (2, 0)] [] M1 (Kd P) := by
    intro M1 hF1 hL1 hX1
    refine loop_up (Inv := fun m M2 => Fr m45 M M2 ∧ mat M2 75 (pth (lb F n) m) ∧ mat M2 74 (ar F s n)) (G := fun m M2 => A m11_layOrder 2 0 183 [(20, ((59 : Nat) : Int)), (2, 0), (2, 0), (0, (people : Int)), (2, 0), (0, (m : Int)), (2, 0), (2, 0), (2, 0), (2, 0)] [] M2 (Kd P)) people ?_ ?_ 0 M1 (by omega) ⟨hF1, hL1, hX1⟩
    · rintro M2 ⟨hF2, hL2, hX2⟩
      apply r_11_layOrder_183
      refine ⟨fun _ => ?_, fun q => by omega⟩
      refine stepW (msr (ar F s n) + 1) M2 (ar F s n) (by omega) hF2 (mat_congr hL2 (fun a b _ _ => (pth_lb hF a b).symm)) hX2 (fun _ _ z => z) (fun a b z => ?_)
      obtain ⟨i, hi, hab, rfl, rfl⟩ := ar_iff.mp z
      exact pth_mono (Nat.zero_le _) (ob_iff.mpr ⟨i, hi, hab, lvl_refl F n _, lvl_refl F n _⟩)
    · rintro m M2 hm ⟨hF2, hL2, hX2⟩ ihm
      apply r_11_layOrder_183
      refine ⟨fun _ => by omega, fun _ => ?_⟩
      refine loop_up (Inv := fun i M3 => Fr m45 M M3 ∧ mat M3 75 (wmt (pth (lb F n) m) m i 0) ∧ mat M3 74 (ar F s n)) (G := fun i M3 => A m11_layOrder 2 0 192 [(20, ((59 : Nat) : Int)), (2, 0), (2, 0), (0, (people : Int)), (2, 0), (0, (m : Int)), (0, (i : Int)), (2, 0), (2, 0), (2, 0)] [] M3 (Kd P)) people ?_ ?_ 0 M2 (by omega) ⟨hF2, mat_congr hL2 (fun a b _ _ => by simp [wmt]), hX2⟩
      · rintro M3 ⟨hF3, hL3, hX3⟩
        apply r_11_layOrder_192
        refine ⟨fun _ => ?_, fun q => by omega⟩
        rw [w_1 (by omega)]
        refine ihm M3 ⟨hF3, mat_congr hL3 (fun a b _ _ => ?_), hX3⟩
        unfold wmt
        show (pth (lb F n) m a b || (pth (lb F n) m a m && pth (lb F n) m m b)) = _
        by_cases e : a < people
        · rw [if_pos (Or.inl e)]
        · rw [if_neg (by omega)]
          have : pth (lb F n) m a m = false := by
            cases hz : pth (lb F n) m a m with
            | false => rfl
            | true =>
              have h1 := pth_mono (show m ≤ people by omega) hz
              rw [pth_lb hF] at h1
              have := lvl_in hF m a hm ((lvl_eqv F n).1 _ _ h1)
              omega
          rw [this]; simp
      · rintro i M3 hi ⟨hF3, hL3, hX3⟩ ihi
        apply r_11_layOrder_192
        refine ⟨fun _ => by omega, fun _ => ?_⟩
        refine loop_up (Inv := fun j M4 => Fr m45 M M4 ∧ mat M4 75 (wmt (pth (lb F n) m) m i j) ∧ mat M4 74 (ar F s n)) (G := fun j M4 => A m11_layOrder 2 0 201 [(20, ((59 : Nat) : Int)), (2, 0), (2, 0), (0, (people : Int)), (2, 0), (0, (m : Int)), (0, (i : Int)), (0, (j : Int)), (2, 0), (2, 0)] [] M4 (Kd P)) people ?_ ?_ 0 M3 (by omega) ⟨hF3, hL3, hX3⟩
        · rintro M4 ⟨hF4, hL4, hX4⟩
          apply r_11_layOrder_201
          refine ⟨fun _ => ?_, fun q => by omega⟩
          rw [w_1 (by omega)]
          refine ihi M4 ⟨hF4, mat_congr hL4 (fun a b _ hb => ?_), hX4⟩
          unfold wmt
          by_cases e : a < i
          · rw [if_pos (by omega), if_pos (by omega)]
          · by_cases e2 : a = i
            · by_cases e3 : b < people
              · rw [if_pos (by omega), if_pos (by omega)]
              · rw [if_pos (by omega), if_neg (by omega)]
                have : pth (lb F n) m m b = false := by
                  cases hz : pth (lb F n) m m b with
                  | false => rfl
                  | true =>
                    have h1 := pth_mono (show m ≤ people by omega) hz
                    rw [pth_lb hF] at h1
                    have := lvl_in hF m b hm h1
                    omega
                rw [this]; simp
            · rw [if_neg (by omega), if_neg (by omega)]
        · rintro j M4 hj ⟨hF4, hL4, hX4⟩ ihj
          have wim : wmt (pth (lb F n) m) m i j i m = pth (lb F n) m i m := by
            unfold wmt
            split
            · cases h1 : pth (lb F n) m i m <;> simp
            · rfl
          have wmj : wmt (pth (lb F n) m) m i j m j = pth (lb F n) m m j := by
            unfold wmt
            split
            · cases h1 : pth (lb F n) m m m <;> cases h2 : pth (lb F n) m m j <;> rfl
            · rfl
          have Lim := hL4 i m (by omega) (by omega)
          have Lmj := hL4 m j (by omega) (by omega)
          rw [wim] at Lim
          rw [wmj] at Lmj
          have next : ∀ M5, Fr m45 M M5 → mat M5 75 (wmt (pth (lb F n) m) m i (j + 1)) → mat M5 74 (ar F s n) → A m11_layOrder 2 0 250 [(20, ((59 : Nat) : Int)), (2, 0), (2, 0), (0, (people : Int)), (2, 0), (0, (m : Int)), (0, (i : Int)), (0, (j : Int)), (2, 0), (2, 0)] [] M5 (Kd P) := by
            intro M5 h1 h2 h3
            apply r_11_layOrder_250
            rw [w_1 (by omega)]
            exact ihj M5 ⟨h1, h2, h3⟩
          have same : (pth (lb F n) m i m && pth (lb F n) m m j) = false → mat M4 75 (wmt (pth (lb F n) m) m i (j + 1)) := by
            intro hz
            refine mat_congr hL4 (fun a b _ _ => ?_)
            unfold wmt
            by_cases e : a = i ∧ b = j
            · obtain ⟨rfl, rfl⟩ := e
              rw [if_pos (by omega), if_neg (by omega), hz]; simp
            · by_cases e2 : a < i ∨ (a = i ∧ b < j)
              · rw [if_pos e2, if_pos (by omega)]
              · rw [if_neg e2, if_neg (by omega)]
          apply r_11_layOrder_201
          refine ⟨fun _ => by omega, fun _ => ?_⟩
          apply s_pair (by omega) (by omega)
          refine ⟨by omega, ?_⟩
          rw [Int.toNat_natCast, Lim]
          refine ⟨fun q => next M4 hF4 (same (by rw [tn_pos.mp q]; rfl)) hX4, fun q => ?_⟩
          apply s_pair (by omega) (by omega)
          refine ⟨by omega, ?_⟩
          rw [Int.toNat_natCast, Lmj]
          refine ⟨fun q2 => next M4 hF4 (same (by rw [tn_pos.mp q2, Bool.and_false])) hX4, fun q2 => ?_⟩
          apply s_pair (by omega) (by omega)
          refine ⟨by omega, ?_⟩
          rw [Int.toNat_natCast]
          refine next _ (hF4.set n75) ?_ (mat_fr hX4 (s := fun k => k = 75) (fun k hk => by funext j; exact mset_k hk) (by omega))
          refine mat_set (v := true) hL4 (by omega) rfl ?_ (fun a b _ _ e => ?_)
          · unfold wmt
            rw [if_pos (by omega), tn_ne.mp q, tn_ne.mp q2]; simp
          · unfold wmt
            by_cases e2 : a < i ∨ (a = i ∧ b < j)
            · rw [if_pos e2, if_pos (by omega)]
            · rw [if_neg e2, if_neg (by omega)]
  -- the facts
  have stepF : ∀ M1, Fr m45 M M1 → mat M1 75 (lb F 0) → mat M1 74 (ar F s 0) → A m11_layOrder 2 0 70 [(20, ((59 : Nat) : Int)), (0, (b : Int)), (0, (n : Int)), (0, (people : Int)), (0, s), (0, (b : Int)), (2, 0), (2, 0), (2, 0), (2, 0)] [] M1 (Kd P) := by
    intro M1 hF1 hL1 hX1
    refine loop_up (Inv := fun k M2 => Fr m45 M M2 ∧ mat M2 75 (lb F k) ∧ mat M2 74 (ar F s k)) (G := fun k M2 => A m11_layOrder 2 0 70 [(20, ((59 : Nat) : Int)), (0, (b : Int)), (0, (n : Int)), (0, (people : Int)), (0, s), (0, ((b + k : Nat) : Int)), (2, 0), (2, 0), (2, 0), (2, 0)] [] M2 (Kd P)) n ?_ ?_ 0 M1 (by omega) ⟨hF1, hL1, hX1⟩
    · rintro M2 ⟨hF2, hL2, hX2⟩
      apply r_11_layOrder_70
      rw [wbn]
      exact ⟨fun _ => stepL M2 hF2 hL2 hX2, fun q => by omega⟩
    · rintro k M2 hk ⟨hF2, hL2, hX2⟩ ih
      have hFk := hF k hk
      obtain ⟨g1, g2, g3⟩ := hgd k hk
      obtain ⟨f0, f1, f2, f3, f4⟩ := hfa k
      rw [← hF2 69 (by unfold m45; omega)] at f0
      rw [← hF2 70 (by unfold m45; omega)] at f1
      rw [← hF2 71 (by unfold m45; omega)] at f2
      rw [← hF2 72 (by unfold m45; omega)] at f3
      rw [← hF2 73 (by unfold m45; omega)] at f4
      have next : ∀ M5, Fr m45 M M5 → mat M5 75 (lb F (k + 1)) → mat M5 74 (ar F s (k + 1)) → A m11_layOrder 2 0 174 [(20, ((59 : Nat) : Int)), (0, (b : Int)), (0, (n : Int)), (0, (people : Int)), (0, s), (0, ((b + k : Nat) : Int)), (2, 0), (2, 0), (2, 0), (2, 0)] [] M5 (Kd P) := by
        intro M5 h1 h2 h3
        apply r_11_layOrder_174
        rw [w_1 (by omega)]
        exact ih M5 ⟨h1, h2, h3⟩
      apply r_11_layOrder_70
      rw [wbn]
      refine ⟨fun q => by omega, fun _ => ?_⟩
      apply s_risOf (by omega)
      rw [f4, f3, Int.toNat_natCast]
      obtain ⟨a0, ha0⟩ : ∃ a : Nat, F k 0 = (a : Int) := ⟨_, (Int.toNat_of_nonneg hFk.1).symm⟩
      obtain ⟨a1, ha1⟩ : ∃ a : Nat, F k 1 = (a : Int) := ⟨_, (Int.toNat_of_nonneg hFk.2.2.1).symm⟩
      rw [ha0, ha1] at hFk
      by_cases hc : F k 4 = 0 ∧ (F k 3 = -1 ∨ F k 3 = s)
      · rw [bi_t hc]
        refine ⟨fun _ => ⟨by omega, fun q => ?_, fun q => ?_⟩, fun q => absurd q (by omega)⟩
        · rw [f2] at q
          have h2 : F k 2 = 1 := by omega
          refine ⟨by omega, by omega, ?_⟩
          rw [f0, f1, ha0, ha1]
          apply s_pair (by omega) (by omega)
          refine ⟨by omega, by omega, by omega, ?_⟩
          rw [mset_k (by omega), mset_k (by omega), f0, f1, ha0, ha1]
          apply s_pair (by omega) (by omega)
          refine ⟨by omega, ?_⟩
          rw [Int.toNat_natCast, Int.toNat_natCast]
          refine next _ ((hF2.set n75).set n75) ?_ (mat_congr (mat_fr hX2 (s := fun k => k = 75) (fun k hk => by funext j; rw [mset_k hk, mset_k hk]) (by omega)) (fun a b _ _ => by rw [ar_step]; simp [isAb, h2]))
          refine mat_set (v := true) (mat_set (v := true) (L' := fun x y => lb F k x y || decide (x = a0 ∧ y = a1)) hL2 (by omega) rfl (by simp) (fun x y _ _ e => by simp [e])) (by omega) rfl ?_ (fun x y _ _ e => ?_)
          · rw [lb_step]; simp [hc.1, h2, ha0, ha1]
          · rw [lb_step]; simp [hc.1, h2, ha0, ha1, e]
        · rw [f2] at q
          refine ⟨by omega, by omega, ?_⟩
          rw [f0, f1, ha0, ha1]
          apply s_pair (by omega) (by omega)
          refine ⟨by omega, ?_⟩
          rw [Int.toNat_natCast]
          have hab : isAb F s k = true := by simp [isAb, hc.1, q, hc.2]
          refine next _ (hF2.set n74) (mat_congr (mat_fr hL2 (s := fun k => k = 74) (fun k hk => by funext j; rw [mset_k hk]) (by omega)) (fun a b _ _ => by rw [lb_step]; simp [q])) ?_
          refine mat_set (v := true) hX2 (by omega) rfl ?_ (fun x y _ _ e => ?_)
          · rw [ar_step, hab]; simp [ha0, ha1]
          · rw [ar_step, hab]; simp [ha0, ha1, e]
      · rw [bi_f hc]
        refine ⟨fun q => absurd rfl q, fun _ => ?_⟩
        refine next M2 hF2 (mat_congr hL2 (fun a b _ _ => ?_)) (mat_congr hX2 (fun a b _ _ => ?_))
        · rw [lb_step]
          by_cases h2 : F k 4 = 0 ∧ F k 2 = 1
          · exact absurd ⟨h2.1, Or.inl (g2 h2.2)⟩ hc
          · simp [h2]
        · rw [ar_step]
          have hab : isAb F s k = false := by
            unfold isAb
            apply decide_eq_false
            rintro ⟨z1, -, z2⟩
            exact hc ⟨z1, z2⟩
          simp [hab]
  -- from nothing
  refine loop_up (Inv := fun i M2 => Fr m45 M M2 ∧ ∀ a b, a < i → b < 5 → M2 74 (5 * a + b) = 0 ∧ M2 75 (5 * a + b) = ((decide (a = b)).toNat : Int)) (G := fun i M2 => A m11_layOrder 2 0 3 [(20, ((59 : Nat) : Int)), (0, (b : Int)), (0, (n : Int)), (0, (people : Int)), (0, s), (0, (i : Int)), (2, 0), (2, 0), (2, 0), (2, 0)] [] M2 (Kd P)) 5 ?_ ?_ 0 M (by omega) ⟨Fr.rf, fun a b ha => by omega⟩
  · rintro M2 ⟨hF2, hz⟩
    apply r_11_layOrder_3
    exact ⟨fun _ => stepF M2 hF2 (fun a b ha hb => (hz a b ha hb).2) (fun a b ha hb => (hz a b ha hb).1), fun q => by omega⟩
  · rintro i M2 hi ⟨hF2, hz⟩ ih
    apply r_11_layOrder_3
    refine ⟨fun _ => by omega, fun _ => ?_⟩
    refine loop_up (Inv := fun j M3 => Fr m45 M M3 ∧ ∀ a b, (a < i ∨ (a = i ∧ b < j)) → b < 5 → M3 74 (5 * a + b) = 0 ∧ M3 75 (5 * a + b) = ((decide (a = b)).toNat : Int)) (G := fun j M3 => A m11_layOrder 2 0 12 [(20, ((59 : Nat) : Int)), (0, (b : Int)), (0, (n : Int)), (0, (people : Int)), (0, s), (0, (i : Int)), (0, (j : Int)), (2, 0), (2, 0), (2, 0)] [] M3 (Kd P)) 5 ?_ ?_ 0 M2 (by omega) ⟨hF2, fun a b h1 h2 => hz a b (by omega) h2⟩
    · rintro M3 ⟨hF3, hz3⟩
      apply r_11_layOrder_12
      refine ⟨fun _ => ?_, fun q => by omega⟩
      rw [w_1 (by omega)]
      exact ih M3 ⟨hF3, fun a b h1 h2 => hz3 a b (by omega) h2⟩
    · rintro j M3 hj ⟨hF3, hz3⟩ ihj
      apply r_11_layOrder_12
      refine ⟨fun _ => by omega, fun _ => ?_⟩
      apply s_pair (by omega) (by omega)
      refine ⟨by omega, ?_⟩
      apply s_pair (by omega) (by omega)
      rw [Int.toNat_natCast, w_1 (by omega)]
      have put : ∀ x : Int, x = ((decide (i = j)).toNat : Int) → A m11_layOrder 2 0 12 [(20, ((59 : Nat) : Int)), (0, (b : Int)), (0, (n : Int)), (0, (people : Int)), (0, s), (0, (i : Int)), (0, ((j + 1 : Nat) : Int)), (2, 0), (2, 0), (2, 0)] [] (mset (mset M3 74 (5 * i + j) 0) 75 (5 * i + j) x) (Kd P) := by
        intro x hx
        refine ihj _ ⟨(hF3.set n74).set n75, fun a b h1 h2 => ?_⟩
        by_cases e : a = i ∧ b = j
        · obtain ⟨rfl, rfl⟩ := e
          rw [mset_s, mset_k (by omega), mset_s]
          exact ⟨rfl, hx⟩
        · have ne : 5 * a + b ≠ 5 * i + j := by omega
          rw [mset_k (show 74 ≠ 75 by omega), mset_j ne, mset_j ne, mset_k (show 75 ≠ 74 by omega)]
          exact hz3 a b (by omega) h2
      exact ⟨fun q => ⟨by omega, put 0 (by rw [decide_eq_false (by omega)]; rfl)⟩, fun q => ⟨by omega, put 1 (by rw [decide_eq_true (by omega)]; rfl)⟩⟩
