/-! RISE in the class: the whole of it -/
def r0 (w : Nat) : Nat := kR (fun p => p) w
def X0 (w : Nat) : Xs := adX (0, fun _ => 0, fun _ => 0, fun _ => 0) (r0 w) 0 0
theorem vR_0 {w : Nat} (hw : w < 4) : vR (r0 w) := by
  obtain ⟨h1, h2, h3⟩ := kR_of (pl := fun p => p) (w := w) (fun p hp => hp) hw
  refine ⟨h3, fun p q hp hq e => ?_⟩
  unfold r0 at e
  rwa [h1 p hp, h1 q hq] at e
theorem X0_ok {w : Nat} (hw : w < 4) : okX (X0 w) := by
  have e : X0 w = (1, udg (fun _ => 0) 0 (r0 w), udg (fun _ => 0) 0 0, udg (fun _ => 0) 0 0) := rfl
  rw [e]
  refine ⟨Nat.le_refl 1, fun i hi => ?_, fun i j hi hj _ => ?_, fun i h0 hi => ?_⟩
  · have hi : i < 1 := hi
    have : i = 0 := by omega
    subst this
    exact vR_0 hw
  · have hi : i < 1 := hi
    have hj : j < 1 := hj
    omega
  · have hi : i < 1 := hi
    omega
theorem fs_1 : ∀ w : Nat, w < 4 → ∀ p : Nat, p < 5 → ior ((w <<< 15 ||| orow (fun p => p) p : Nat) : Int) (ishl (p : Int) (w32 (3 * (p : Int)))) = ((w <<< 15 ||| orow (fun p => p) (p + 1) : Nat) : Int) := by decide +kernel
theorem fs_0 : ∀ w : Nat, w < 4 → ishl (w : Int) 15 = ((w <<< 15 ||| orow (fun p => p) 0 : Nat) : Int) ∧ w <<< 15 ||| orow (fun p => p) 5 = sC (r0 w) := by decide +kernel
theorem s_firstState {w : Nat} {M : Mem} {P : Int → Mem → Prop} (hw : w < 4) (h : P (sC (r0 w) : Int) M) : CI m1_firstState 1 [(0, (w : Int))] M P := by
  obtain ⟨e0, e5⟩ := fs_0 w hw
  apply q_1_firstState
  rw [e0]
  refine loop_up (Inv := fun k M1 => M1 = M) (G := fun p M1 => A m1_firstState 1 0 7 [(2, 0), (0, ((w <<< 15 ||| orow (fun p => p) p : Nat) : Int)), (0, (p : Int))] [] M1 (Ki P)) 5 ?_ ?_ 0 M (by omega) rfl
  · rintro M1 rfl
    apply r_1_firstState_7
    rw [e5]
    exact ⟨fun _ => h, fun q => by omega⟩
  · rintro p M1 hp rfl ih
    apply r_1_firstState_7
    rw [fs_1 w hw p hp, w_1 (i := p) (by omega)]
    exact ⟨fun q => by omega, fun _ => ih M1 rfl⟩
theorem RC.fp {M M' : Mem} {X : Xs} {t : Nat → Nat → Prop} (h : RC M X) (hF : Fp t M M') (ht : ∀ k j, t k j → (k < 54 ∨ 58 ≤ k) ∧ ¬ (k = 52 ∧ j = 6)) : RC M' X := by
  have e : ∀ k, 54 ≤ k → k < 58 → M' k = M k := fun k h1 h2 => hF.row (fun j hc => by have := ht k j hc; omega)
  have e6 : M' 52 6 = M 52 6 := hF 52 6 (fun hc => (ht _ _ hc).2 ⟨rfl, rfl⟩)
  unfold RC
  rw [e6, e 54 (by omega) (by omega), e 55 (by omega) (by omega), e 56 (by omega) (by omega), e 57 (by omega) (by omega)]
  exact h
/-- what the search doesn't touch -/
def cx (M : Mem) (pp n : Nat) (s : Int) (nf : Nat) (F : FTab) (ag C : Nat → Int) (Bg E : Nat → Nat) (rt : Bool) (O : Nat → Nat → Nat → Bool) (c : Nat) : Prop := SC M pp n s nf F ag C Bg E ∧ RTC M rt C Bg E ∧ CK M O c
theorem cx.fp {M M' : Mem} {pp n nf : Nat} {s : Int} {F : FTab} {ag C : Nat → Int} {Bg E : Nat → Nat} {rt : Bool} {O : Nat → Nat → Nat → Bool} {c : Nat} (h : cx M pp n s nf F ag C Bg E rt O c) (hF : Fp clset M M') : cx M' pp n s nf F ag C Bg E rt O c := by
  obtain ⟨h1, h2, h3⟩ := h
  refine ⟨h1.fp hF (fun k j q => by unfold clset at q; unfold cs; omega), ?_, ?_⟩
  · unfold RTC
    rw [hF.row (k := 21) (fun j => by unfold clset; omega), hF.row (k := 27) (fun j => by unfold clset; omega), hF.row (k := 28) (fun j => by unfold clset; omega)]
    exact h2
  · unfold CK
    rw [hF.row (k := 53) (fun j => by unfold clset; omega), hF 52 9 (by unfold clset; omega)]
    exact h3
theorem s_spread {pp n nf : Nat} {s : Int} {F : FTab} {ag C : Nat → Int} {Bg E : Nat → Nat} {rt : Bool} {O : Nat → Nat → Nat → Bool} {c i : Nat} {X : Xs} {M : Mem} {P : Mem → Prop} (hp : pp ≤ 5) (hx : cx M pp n s nf F ag C Bg E rt O c) (hc : c < pp) (hX : okX X) (hR : RC M X) (hi : i < X.1)
    (h : ∀ M', Fp clset M M' → RC M' (spX (mayR rt O ag pp C Bg E c) c i X pp) → P M') : CD m1_spread 6 [(11, ((52 : Nat) : Int)), (10, ((21 : Nat) : Int)), (0, (i : Int))] M P := by
  have a54 : ((aln 54 : Nat) : Int) = 480 := by decide
  have hle := okX_le hX
  apply q_1_spread
  apply s_at (by omega) (by omega)
  rw [Int.toNat_natCast, (hR.2.1 i hi).1]
  refine loop_up (Inv := fun h M1 => Fp clset M M1 ∧ RC M1 (spX (mayR rt O ag pp C Bg E c) c i X h)) (G := fun h M1 => A m1_spread 6 0 12 [(11, ((52 : Nat) : Int)), (10, ((21 : Nat) : Int)), (0, (i : Int)), (0, (sC (X.2.1 i) : Int)), (0, (h : Int))] [] M1 (Kd P)) pp ?_ ?_ 0 M (by omega) ⟨Fp.rf, hR⟩
  · rintro M1 ⟨hF1, hR1⟩
    have hx1 := hx.fp hF1
    apply r_1_spread_12
    rw [hx1.1.1]
    exact ⟨fun _ => h M1 hF1 hR1, fun q => by omega⟩
  · rintro y M1 hy ⟨hF1, hR1⟩ ih
    have hx1 := hx.fp hF1
    obtain ⟨g1, g2, g3⟩ := okX_sp (may := mayR rt O ag pp C Bg E c) hX (show c < 5 by omega) hi y (by omega)
    rw [spX_step, g3] at ih
    apply r_1_spread_12
    rw [hx1.1.1, hx1.2.2.1, w_1 (i := y) (by omega)]
    refine ⟨fun q => by omega, fun _ => ⟨fun q => ?_, fun q => ?_⟩⟩
    · rw [if_neg (by unfold may0; rw [decide_eq_false (by omega)]; simp)] at ih
      exact ih M1 ⟨hF1, hR1⟩
    · have hne : y ≠ c := by omega
      apply s_mayChange hx1.1 hp hx1.2.1 hx1.2.2 hc hy
      intro M2 hF2
      have hF3 : Fp clset M M2 := hF1.tr (hF2.mono (fun k j q => by unfold n58 at q; unfold clset; omega))
      have hR2 : RC M2 _ := hR1.fp hF2 (fun k j q => by unfold n58 at q; omega)
      have hx2 := hx.fp hF3
      refine ⟨fun q1 => ?_, fun q1 => ?_⟩
      · rw [if_neg (by
          unfold may0
          rw [decide_eq_true hne, Bool.true_and]
          exact bi_eq q1)] at ih
        exact ih M2 ⟨hF3, hR2⟩
      · rw [if_pos (by unfold may0; rw [decide_eq_true hne, bi_ne q1]; rfl)] at ih
        apply s_changed hx2.2.2.1 (by omega) (by omega) hne
        have hv : vR (chg (X.2.1 i) c y) := vR_chg (hX.2.1 i hi) (by omega) (by omega)
        refine s_addC (o := i) (h := y) hR2 g1.2.1 hv (okX_le (okX_ad (o := i) (h := y) g1 hv (by omega) (by omega))) (by rw [if_neg (by omega)]) (by rw [if_neg (by omega)]) ?_
        intro M3 hF4 hR3
        exact ih M3 ⟨hF3.tr hF4, hR3⟩
/-- how many STEPS, and the way back, in the class's tables -/
theorem s_countSteps {X : Xs} {g : Nat} {M : Mem} {P : Int → Mem → Prop} (hX : okX X) (hR : RC M X) (hg : g < X.1) (h7 : M 52 7 = (g : Int)) (h : P (dpt X.2.2.1 g g : Int) M) : CI m1_countSteps 2 [(11, ((52 : Nat) : Int))] M P := by
  have a55 : ((aln 55 : Nat) : Int) = 480 := by decide
  have hle := okX_le hX
  obtain ⟨d1, d2, d3, d4⟩ := dpt_of (o := X.2.2.1) (m := X.1) (fun i h0 hi => (hX.2.2.2 i h0 hi).1) g g hg (Nat.le_refl g)
  have at_o : ∀ i, i < X.1 → M 55 i = (if i = 0 then -1 else (X.2.2.1 i : Int)) := fun i hi => (hR.2.1 i hi).2.1
  apply q_1_countSteps
  rw [h7]
  apply s_at (by omega) (by omega)
  rw [Int.toNat_natCast, at_o g hg]
  generalize dpt X.2.2.1 g g = N at d1 d2 d3 d4 h
  refine loop_up (Inv := fun j M1 => M1 = M) (G := fun j M1 => A m1_countSteps 2 0 16 [(11, ((52 : Nat) : Int)), (0, (j : Int)), (0, (if itr X.2.2.1 g j = 0 then -1 else (X.2.2.1 (itr X.2.2.1 g j) : Int))), (0, (j : Int))] [] M1 (Ki P)) N ?_ ?_ 0 M (by omega) rfl
  · rintro M1 rfl
    apply r_1_countSteps_16
    rw [if_pos d1]
    exact ⟨fun _ => h, fun _ => ⟨fun _ => h, fun q => absurd rfl q⟩⟩
  · rintro j M1 hj rfl ih
    have h0 := d2 j hj
    have hlt := d4 j (by omega)
    have hlt2 := d4 (j + 1) (by omega)
    rw [itr_step] at hlt2
    apply r_1_countSteps_16
    rw [if_neg (by omega), w_1 (i := j) (by omega)]
    refine ⟨fun q => by omega, fun _ => ⟨fun q => by omega, fun _ => ?_⟩⟩
    apply s_at (by omega) (by omega)
    rw [Int.toNat_natCast, at_o _ hlt2]
    exact ih M1 rfl
theorem s_hearerOfStep {X : Xs} {g k : Nat} {M : Mem} {P : Int → Mem → Prop} (hX : okX X) (hR : RC M X) (hg : g < X.1) (h7 : M 52 7 = (g : Int)) (hk : k < dpt X.2.2.1 g g) (h : P (X.2.2.2 (itr X.2.2.1 g (dpt X.2.2.1 g g - 1 - k)) : Int) M) : CI m1_hearerOfStep 2 [(11, ((52 : Nat) : Int)), (0, (k : Int)), (0, (dpt X.2.2.1 g g : Int))] M P := by
  have a55 : ((aln 55 : Nat) : Int) = 480 ∧ ((aln 56 : Nat) : Int) = 480 := by decide
  have hle := okX_le hX
  obtain ⟨d1, d2, d3, d4⟩ := dpt_of (o := X.2.2.1) (m := X.1) (fun i h0 hi => (hX.2.2.2 i h0 hi).1) g g hg (Nat.le_refl g)
  apply q_1_hearerOfStep
  rw [h7]
  generalize dpt X.2.2.1 g g = N at d1 d2 d3 d4 h hk
  suffices key : ∀ j M1, j ≤ N - 1 - k → M1 = M → A m1_hearerOfStep 2 0 10 [(11, ((52 : Nat) : Int)), (0, (k : Int)), (2, 0), (0, (itr X.2.2.1 g j : Int)), (0, w32 ((N - j : Nat) - 1 : Int))] [] M1 (Ki P) by
    exact key 0 M (by omega) rfl
  refine loop_up (Inv := fun j M1 => M1 = M) (G := fun j M1 => A m1_hearerOfStep 2 0 10 [(11, ((52 : Nat) : Int)), (0, (k : Int)), (2, 0), (0, (itr X.2.2.1 g j : Int)), (0, w32 ((N - j : Nat) - 1 : Int))] [] M1 (Ki P)) (N - 1 - k) ?_ ?_
  · rintro M1 rfl
    have hlt := d4 (N - 1 - k) (by omega)
    have h0 := d2 (N - 1 - k) (by omega)
    apply r_1_hearerOfStep_10
    have e : w32 ((N - (N - 1 - k) : Nat) - 1 : Int) = (k : Int) := by rw [w32_id (by omega) (by omega)]; omega
    rw [e]
    refine ⟨fun _ => ?_, fun q => by omega⟩
    apply s_at (by omega) (by omega)
    rw [Int.toNat_natCast, (hR.2.1 _ hlt).2.2, if_neg (by omega)]
    exact h
  · rintro j M1 hj rfl ih
    have hlt := d4 j (by omega)
    have h0 := d2 j (by omega)
    have e : w32 ((N - j : Nat) - 1 : Int) = ((N - j - 1 : Nat) : Int) := by rw [w32_id (by omega) (by omega)]; omega
    have e2 : w32 (((N - j - 1 : Nat) : Int) + -1) = w32 ((N - (j + 1) : Nat) - 1 : Int) := by rw [w32_id (by omega) (by omega), w32_id (by omega) (by omega)]; omega
    apply r_1_hearerOfStep_10
    rw [e, e2]
    refine ⟨fun q => by omega, fun _ => ?_⟩
    apply s_at (by omega) (by omega)
    rw [Int.toNat_natCast, (hR.2.1 _ hlt).2.1, if_neg (by omega)]
    exact ih M1 rfl
def srset (k j : Nat) : Prop := clset k j ∨ (k = 52 ∧ (j = 7 ∨ j = 9))
theorem s_search {pp n nf w p : Nat} {s : Int} {F : FTab} {ag C : Nat → Int} {Bg E : Nat → Nat} {rt : Bool} {O : Nat → Nat → Nat → Bool} {c : Nat} {M : Mem} {P : Int → Mem → Prop} (hp : pp ≤ 5) (hS : SC M pp n s nf F ag C Bg E) (hRt : RTC M rt C Bg E) (hO : ∀ s p, s < 4 → p < 5 → M 53 (8 * s + p) = (mk (O s p) : Int)) (hw : w < 4) (hc : c < pp) (hpa : p < pp)
    (hn : bfs (mayR rt O ag pp C Bg E c) (fun r => ovR O r c p) pp c 480 0 (X0 w) = none → ∀ M', Fp srset M M' → P (-1) M')
    (hy : ∀ X g, bfs (mayR rt O ag pp C Bg E c) (fun r => ovR O r c p) pp c 480 0 (X0 w) = some (X, g) → okX X → g < X.1 → ∀ M', Fp srset M M' → RC M' X → M' 52 7 = (g : Int) → P (dpt X.2.2.1 g g : Int) M') : CI m1_search 7 [(11, ((52 : Nat) : Int)), (10, ((21 : Nat) : Int)), (0, (c : Int)), (0, (p : Int)), (0, (w : Int))] M P := by
  have a54 : ((aln 54 : Nat) : Int) = 480 := by decide
  apply q_1_search
  have hF0 : Fp srset M (mset (mset (mset M 52 9 (c : Int)) 52 6 0) 52 7 (-1)) := ((Fp.rf.set (Or.inr ⟨rfl, Or.inr rfl⟩)).set (Or.inl (Or.inl ⟨rfl, rfl⟩))).set (Or.inr ⟨rfl, Or.inl rfl⟩)
  have hx0 : cx (mset (mset (mset M 52 9 (c : Int)) 52 6 0) 52 7 (-1)) pp n s nf F ag C Bg E rt O c := by
    refine ⟨hS.fp hF0 (fun k j q => by unfold srset clset at q; unfold cs; omega), ?_, ?_⟩
    · unfold RTC
      rw [hF0.row (k := 21) (fun j => by unfold srset clset; omega), hF0.row (k := 27) (fun j => by unfold srset clset; omega), hF0.row (k := 28) (fun j => by unfold srset clset; omega)]
      exact hRt
    · unfold CK
      rw [hF0.row (k := 53) (fun j => by unfold srset clset; omega)]
      refine ⟨?_, hO⟩
      simp [mset]
  have h6 : mset (mset (mset M 52 9 (c : Int)) 52 6 0) 52 7 (-1) 52 6 = 0 := by simp [mset]
  have h7 : mset (mset (mset M 52 9 (c : Int)) 52 6 0) 52 7 (-1) 52 7 = -1 := by simp [mset]
  generalize mset (mset (mset M 52 9 (c : Int)) 52 6 0) 52 7 (-1) = Ma at hF0 hx0 h6 h7
  generalize hres : bfs (mayR rt O ag pp C Bg E c) (fun r => ovR O r c p) pp c 480 0 (X0 w) = res at hn hy
  -- the way out once the goal is there
  have out : ∀ X g, res = some (X, g) → okX X → g < X.1 → ∀ M1 (x : Int), Fp srset M M1 → RC M1 X → M1 52 7 = (g : Int) → A m1_search 7 0 56 [(11, ((52 : Nat) : Int)), (10, ((21 : Nat) : Int)), (2, 0), (0, (p : Int)), (2, 0), (0, x)] [] M1 (Ki P) := by
    intro X g e hX hg M1 x hF1 hR1 h71
    have go : CI m1_countSteps 2 [(11, ((52 : Nat) : Int))] M1 P := s_countSteps hX hR1 hg h71 (hy X g e hX hg M1 hF1 hR1 h71)
    apply r_1_search_56
    rw [h71]
    exact ⟨fun _ => ⟨fun _ => go, fun q => by omega⟩, fun _ => ⟨fun _ => ⟨fun _ => go, fun q => by omega⟩, fun _ => ⟨fun _ => ⟨fun _ => go, fun q => by omega⟩, fun q => by omega⟩⟩⟩
  have walk : ∀ i X M1, i ≤ 480 → (Fp clset Ma M1 ∧ RC M1 X ∧ okX X ∧ M1 52 7 = -1 ∧ bfs (mayR rt O ag pp C Bg E c) (fun r => ovR O r c p) pp c (480 - i) i X = res) → A m1_search 7 0 56 [(11, ((52 : Nat) : Int)), (10, ((21 : Nat) : Int)), (2, 0), (0, (p : Int)), (2, 0), (0, (i : Int))] [] M1 (Ki P) := by
    refine loop_upS (σ := Xs) (Inv := fun i X M1 => Fp clset Ma M1 ∧ RC M1 X ∧ okX X ∧ M1 52 7 = -1 ∧ bfs (mayR rt O ag pp C Bg E c) (fun r => ovR O r c p) pp c (480 - i) i X = res) (G := fun i X M1 => A m1_search 7 0 56 [(11, ((52 : Nat) : Int)), (10, ((21 : Nat) : Int)), (2, 0), (0, (p : Int)), (2, 0), (0, (i : Int))] [] M1 (Ki P)) 480 ?_ ?_
    · rintro X M1 ⟨hF1, hR1, hX, h71, e⟩
      have hle := okX_le hX
      rw [Nat.sub_self] at e
      have e : none = res := e
      apply r_1_search_56
      rw [hR1.1, h71]
      exact ⟨fun _ => ⟨fun q => absurd rfl q, fun _ => hn e.symm M1 (hF0.tr (hF1.mono (fun k j q => Or.inl q)))⟩, fun q => by omega⟩
    · rintro i X M1 hi ⟨hF1, hR1, hX, h71, e⟩ ih
      have hFs := hF0.tr (hF1.mono (fun k j q => Or.inl q) : Fp srset Ma M1)
      have hx1 := hx0.fp hF1
      have hle := okX_le hX
      rw [show 480 - i = (480 - (i + 1)) + 1 by omega] at e
      unfold bfs at e
      apply r_1_search_56
      rw [hR1.1, h71, w_1 (i := i) (by omega)]
      refine ⟨fun q => ⟨fun q1 => absurd rfl q1, fun _ => ?_⟩, fun q => ⟨fun q1 => by omega, fun _ => ⟨fun q1 => absurd rfl q1, fun _ => ?_⟩⟩⟩
      · rw [if_pos (by omega)] at e
        exact hn e.symm M1 hFs
      · have hiX : i < X.1 := by omega
        rw [if_neg (by omega)] at e
        apply s_at (by omega) (by omega)
        rw [Int.toNat_natCast, (hR1.2.1 i hiX).1]
        rw [hx1.2.2.1]
        apply s_isAboveC hx1.2.2 (by omega) (by omega)
        refine ⟨fun q1 => ?_, fun q1 => ?_⟩
        · rw [if_neg (bi_eq q1)] at e
          apply s_spread hp hx1 hc hX hR1 hiX
          intro M2 hF2 hR2
          exact ih _ M2 ⟨hF1.tr hF2, hR2, (okX_sp hX (by omega) hiX pp hp).1, by rw [hF2 52 7 (by unfold clset; omega)]; exact h71, e⟩
        · rw [if_pos (bi_ne q1)] at e
          exact out X i e.symm hX hiX _ _ (hFs.set (Or.inr ⟨rfl, Or.inl rfl⟩)) (hR1.fp (t := fun k j => k = 52 ∧ j = 7) (Fp.rf.set ⟨rfl, rfl⟩) (fun k j q => by omega)) mset_s
  refine loop_up (Inv := fun k M1 => Fp clset Ma M1 ∧ M1 52 6 = 0 ∧ M1 52 7 = -1 ∧ ∀ j, j < k → M1 57 j = 0) (G := fun k M1 => A m1_search 7 0 18 [(11, ((52 : Nat) : Int)), (10, ((21 : Nat) : Int)), (2, 0), (0, (p : Int)), (0, (w : Int)), (0, (k : Int))] [] M1 (Ki P)) 480 ?_ ?_ 0 Ma (by omega) ⟨Fp.rf, h6, h7, fun j hj => by omega⟩
  · rintro M1 ⟨hF1, h61, h71, hall⟩
    apply r_1_search_18
    refine ⟨fun _ => ?_, fun q => by omega⟩
    apply s_firstState hw
    refine s_addC (X := (0, fun _ => 0, fun _ => 0, fun _ => 0)) (o := 0) (h := 0) ⟨h61, fun i hi => by exact absurd hi (Nat.not_lt_zero i), fun j hj => by rw [hall j hj]; rfl⟩ (fun i hi => absurd hi (Nat.not_lt_zero i)) (vR_0 hw) (okX_le (X0_ok hw)) (by rw [if_pos rfl]) (by rw [if_pos rfl]) ?_
    intro M2 hF2 hR2
    exact walk 0 (X0 w) M2 (by omega) ⟨hF1.tr hF2, hR2, X0_ok hw, by rw [hF2 52 7 (by unfold clset; omega)]; exact h71, hres⟩
  · rintro k M1 hk ⟨hF1, h61, h71, hall⟩ ih
    apply r_1_search_18
    rw [w_1 (i := k) (by omega), Int.toNat_natCast]
    refine ⟨fun q => by omega, fun _ => ⟨by omega, ih _ ⟨hF1.set (by unfold clset; omega), by rw [mset_k (by decide)]; exact h61, by rw [mset_k (by decide)]; exact h71, fun j hj => ?_⟩⟩⟩
    by_cases z : j = k
    · subst z; exact mset_s
    · rw [mset_j z]; exact hall j (by omega)
