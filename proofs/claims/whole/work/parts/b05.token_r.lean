/-! the reference: its TOKENS -/
def TRm (M : Mem) (t : Nat → Int) (n : Nat) : Prop := M 59 18 = (n : Int) ∧ n ≤ 700 ∧ (∀ j, j < n → M 60 j = t j) ∧ bys t n
theorem TRm.fp {M M' : Mem} {t : Nat → Int} {n : Nat} {q : Nat → Nat → Prop} (h : TRm M t n) (hF : Fp q M M') (hq : ∀ k j, q k j → k ≠ 60 ∧ ¬ (k = 59 ∧ j = 18)) : TRm M' t n := by
  unfold TRm
  rw [hF 59 18 (fun hc => (hq _ _ hc).2 ⟨rfl, rfl⟩), hF.row (k := 60) (fun j hc => (hq _ _ hc).1 rfl)]
  exact h
def hrb (t : Nat → Int) (n c : Nat) : Int := if c < n then t c else -1
theorem s_here {t : Nat → Int} {n c : Nat} {M : Mem} {P : Int → Mem → Prop} (hT : TRm M t n) (h19 : M 59 19 = (c : Int)) (h : P (hrb t n c) M) : CI m11_here 1 [(20, ((59 : Nat) : Int))] M P := by
  have h700 := hT.2.1
  unfold hrb at h
  apply q_11_here
  rw [hT.1, h19]
  refine ⟨fun q => ?_, fun q => ?_⟩
  · rwa [if_neg (by omega)] at h
  · rw [if_pos (by omega)] at h
    rw [Int.toNat_natCast, hT.2.2.1 c (by omega)]
    exact ⟨by omega, h⟩
theorem s_isSmall {x : Int} {M : Mem} {P : Int → Mem → Prop} (h : P (bi (isL x = true)) M) : CI m11_isSmall 1 [(0, x)] M P := by
  apply q_11_isSmall
  refine ⟨fun q => ?_, fun q => ⟨fun q1 => ?_, fun q1 => ?_⟩⟩
  · rwa [bi_f (fun z => by have := isL_of.mp z; omega)] at h
  · rwa [bi_f (fun z => by have := isL_of.mp z; omega)] at h
  · rwa [bi_t (isL_of.mpr (by omega))] at h
theorem s_isDigit_r {x : Int} {M : Mem} {P : Int → Mem → Prop} (h : P (bi (isD x = true)) M) : CI m11_isDigit 1 [(0, x)] M P := by
  apply q_11_isDigit
  refine ⟨fun q => ?_, fun q => ⟨fun q1 => ?_, fun q1 => ?_⟩⟩
  · rwa [bi_f (fun z => by have := isD_of.mp z; omega)] at h
  · rwa [bi_f (fun z => by have := isD_of.mp z; omega)] at h
  · rwa [bi_t (isD_of.mpr (by omega))] at h
def tkset (k j : Nat) : Prop := k = 59 ∧ 19 ≤ j ∧ j ≤ 22
/-- the sign at p -/
theorem s_sign {t : Nat → Int} {n p : Nat} {M : Mem} {P : Mem → Prop} (hT : TRm M t n) (hp : p < n) (h19 : M 59 19 = (p : Int))
    (h : ∀ M', Fp (fun k j => k = 59 ∧ (j = 19 ∨ j = 21 ∨ j = 22)) M M' → M' 59 19 = ((if 256 ≤ sgV (t p) (nxb t n p) then p + 2 else p + 1 : Nat) : Int) → M' 59 21 = (if isS (t p) = true then 3 else 5) → (isS (t p) = true → M' 59 22 = sgV (t p) (nxb t n p)) → P M') : CD m11_sign 2 [(20, ((59 : Nat) : Int)), (0, t p)] M P := by
  have h700 := hT.2.1
  have hbx := hT.2.2.2 p hp
  have hy : hrb t n (p + 1) = nxb t n p := rfl
  -- from the middle on
  have F106 : ∀ M1, Fp (fun k j => k = 59 ∧ (j = 19 ∨ j = 21 ∨ j = 22)) M M1 → M1 59 19 = ((p + 1 : Nat) : Int) → M1 59 21 = (if isS (t p) = true then 3 else 5) → M1 59 22 = (if t p = 60 ∧ nxb t n p = 61 then 256 else t p) → A m11_sign 2 0 106 [(20, ((59 : Nat) : Int)), (0, t p)] [] M1 (Kd P) := by
    intro M1 hF1 g19 g21 g22
    have F150 : ∀ M2, Fp (fun k j => k = 59 ∧ (j = 19 ∨ j = 21 ∨ j = 22)) M M2 → M2 59 19 = ((p + 1 : Nat) : Int) → M2 59 21 = (if isS (t p) = true then 3 else 5) → M2 59 22 = sgV (t p) (nxb t n p) → A m11_sign 2 0 150 [(20, ((59 : Nat) : Int)), (2, 0)] [] M2 (Kd P) := by
      intro M2 hF2 k19 k21 k22
      apply r_11_sign_150
      rw [k22, k19]
      refine ⟨fun q => ?_, fun q => ?_⟩
      · apply r_11_sign_170
        exact h M2 hF2 (by rw [k19, if_neg (by omega)]) k21 (fun _ => k22)
      · apply r_11_sign_170
        rw [w_1 (i := p + 1) (by omega)]
        refine h _ (hF2.set ⟨rfl, Or.inl rfl⟩) (by rw [mset_s, if_pos q]) ?_ (fun _ => ?_)
        · rw [mset_j (by decide)]; exact k21
        · rw [mset_j (by decide)]; exact k22
    have F128 : ∀ M2, Fp (fun k j => k = 59 ∧ (j = 19 ∨ j = 21 ∨ j = 22)) M M2 → M2 59 19 = ((p + 1 : Nat) : Int) → M2 59 21 = (if isS (t p) = true then 3 else 5) → M2 59 22 = (if t p = 60 ∧ nxb t n p = 61 then 256 else if t p = 60 ∧ nxb t n p = 62 then 257 else t p) → A m11_sign 2 0 128 [(20, ((59 : Nat) : Int)), (0, t p)] [] M2 (Kd P) := by
      intro M2 hF2 k19 k21 k22
      have hT2 := hT.fp hF2 (fun k j q => by omega)
      apply r_11_sign_128
      refine ⟨fun q => F150 M2 hF2 k19 k21 ?_, fun q => s_here hT2 k19 ⟨fun q1 => F150 M2 hF2 k19 k21 ?_, fun q1 => F150 _ (hF2.set ⟨rfl, Or.inr (Or.inr rfl)⟩) ?_ ?_ ?_⟩⟩
      · rw [k22]; unfold sgV
        by_cases z1 : t p = 60 ∧ nxb t n p = 61
        · rw [if_pos z1, if_pos z1]
        · rw [if_neg z1, if_neg z1]
          by_cases z2 : t p = 60 ∧ nxb t n p = 62
          · rw [if_pos z2, if_pos z2]
          · rw [if_neg z2, if_neg z2, if_neg (by omega)]
      · rw [hy] at q1
        rw [k22]; unfold sgV
        rw [if_neg (by omega), if_neg (by omega), if_neg (by omega), if_neg (by omega), if_neg (by omega)]
      · rw [mset_j (by decide)]; exact k19
      · rw [mset_j (by decide)]; exact k21
      · rw [hy] at q1
        rw [mset_s]; unfold sgV
        rw [if_neg (by omega), if_neg (by omega), if_pos ⟨q, q1⟩]
    have hT1 := hT.fp hF1 (fun k j q => by omega)
    apply r_11_sign_106
    refine ⟨fun q => F128 M1 hF1 g19 g21 ?_, fun q => s_here hT1 g19 ⟨fun q1 => F128 M1 hF1 g19 g21 ?_, fun q1 => F128 _ (hF1.set ⟨rfl, Or.inr (Or.inr rfl)⟩) ?_ ?_ ?_⟩⟩
    · rw [g22, if_neg (by omega), if_neg (by omega), if_neg (by omega)]
    · rw [hy] at q1
      rw [g22]
      by_cases z1 : t p = 60 ∧ nxb t n p = 61
      · rw [if_pos z1, if_pos z1]
      · rw [if_neg z1, if_neg z1, if_neg (by omega)]
    · rw [mset_j (by decide)]; exact g19
    · rw [mset_j (by decide)]; exact g21
    · rw [hy] at q1
      rw [mset_s, if_neg (by omega), if_pos ⟨q, q1⟩]
  have f0 : Fp (fun k j => k = 59 ∧ (j = 19 ∨ j = 21 ∨ j = 22)) M M := Fp.rf
  have hS3 : ∀ v : Int, Fp (fun k j => k = 59 ∧ (j = 19 ∨ j = 21 ∨ j = 22)) M (mset (mset (mset M 59 19 ((p + 1 : Nat) : Int)) 59 21 v) 59 22 (t p)) := fun v => ((f0.set ⟨rfl, Or.inl rfl⟩).set ⟨rfl, Or.inr (Or.inl rfl)⟩).set ⟨rfl, Or.inr (Or.inr rfl)⟩
  have hs19 : ∀ v : Int, mset (mset (mset M 59 19 ((p + 1 : Nat) : Int)) 59 21 v) 59 22 (t p) 59 19 = ((p + 1 : Nat) : Int) := fun v => by rw [mset_j (by decide), mset_j (by decide), mset_s]
  have hs21 : ∀ v : Int, mset (mset (mset M 59 19 ((p + 1 : Nat) : Int)) 59 21 v) 59 22 (t p) 59 21 = v := fun v => by rw [mset_j (by decide), mset_s]
  have go : ∀ v : Int, v = (if isS (t p) = true then 3 else 5) → (t p ≠ 60 → A m11_sign 2 0 106 [(20, ((59 : Nat) : Int)), (0, t p)] [] (mset (mset (mset M 59 19 ((p + 1 : Nat) : Int)) 59 21 v) 59 22 (t p)) (Kd P)) ∧ (t p = 60 → CI m11_here 1 [(20, ((59 : Nat) : Int))] (mset (mset (mset M 59 19 ((p + 1 : Nat) : Int)) 59 21 v) 59 22 (t p)) (fun r7 M8 => (r7 ≠ 61 → A m11_sign 2 0 106 [(20, ((59 : Nat) : Int)), (0, t p)] [] M8 (Kd P)) ∧ (r7 = 61 → A m11_sign 2 0 106 [(20, ((59 : Nat) : Int)), (0, t p)] [] (mset M8 59 22 256) (Kd P)))) := fun v hv => by
    have hT1 := hT.fp (hS3 v) (fun k j q => by omega)
    refine ⟨fun q => F106 _ (hS3 v) (hs19 v) ((hs21 v).trans hv) ?_, fun q => s_here hT1 (hs19 v) ⟨fun q1 => F106 _ (hS3 v) (hs19 v) ((hs21 v).trans hv) ?_, fun q1 => F106 _ ((hS3 v).set ⟨rfl, Or.inr (Or.inr rfl)⟩) ?_ ?_ ?_⟩⟩
    · rw [mset_s, if_neg (by omega)]
    · rw [hy] at q1; rw [mset_s, if_neg (by omega)]
    · rw [mset_j (by decide)]; exact hs19 v
    · rw [mset_j (by decide)]; exact (hs21 v).trans hv
    · rw [hy] at q1; rw [mset_s, if_pos ⟨q, q1⟩]
  have is3 : (t p = 59 ∨ t p = 40 ∨ t p = 41 ∨ t p = 43 ∨ t p = 45 ∨ t p = 42 ∨ t p = 47 ∨ t p = 60 ∨ t p = 61 ∨ t p = 62) → (3 : Int) = (if isS (t p) = true then 3 else 5) := fun q => by
    rw [if_pos (by unfold isS; rw [decide_eq_true_eq]; exact q)]
  have is5 : ¬ (t p = 59 ∨ t p = 40 ∨ t p = 41 ∨ t p = 43 ∨ t p = 45 ∨ t p = 42 ∨ t p = 47 ∨ t p = 60 ∨ t p = 61 ∨ t p = 62) → (5 : Int) = (if isS (t p) = true then 3 else 5) := fun q => by
    rw [if_neg (by unfold isS; rw [decide_eq_true_eq]; exact q)]
  apply q_11_sign
  rw [h19, w_1 (i := p) (by omega)]
  exact ⟨fun _ => go 3 (is3 (by omega)), fun q1 => ⟨fun _ => go 3 (is3 (by omega)), fun q2 => ⟨fun _ => go 3 (is3 (by omega)), fun q3 => ⟨fun _ => go 3 (is3 (by omega)), fun q4 => ⟨fun _ => go 3 (is3 (by omega)), fun q5 => ⟨fun _ => go 3 (is3 (by omega)), fun q6 => ⟨fun _ => go 3 (is3 (by omega)), fun q7 => ⟨fun _ => go 3 (is3 (by omega)), fun q8 => ⟨fun _ => go 3 (is3 (by omega)), fun q9 => ⟨fun q10 => go 5 (is5 (by omega)), fun _ => go 3 (is3 (by omega))⟩⟩⟩⟩⟩⟩⟩⟩⟩⟩
