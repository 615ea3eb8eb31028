/-! what word() answers -/
def WO : List Nat := [0, 7, 13, 19, 24, 31, 36, 39, 42, 46, 50, 57, 63, 68, 74, 78, 83, 88]
def WLn : List Nat := [6, 5, 5, 4, 6, 4, 2, 2, 3, 3, 6, 5, 4, 5, 3, 4, 4, 3]
def wo (n : Nat) : Nat := WO.getD n 92
def wl' (n : Nat) : Nat := WLn.getD n 0
def tW (j : Nat) : Int := chW (j : Int)
theorem w_tab : ∀ n, n < 18 → wo n + wl' n < 92 ∧ wo (n + 1) = wo n + wl' n + 1 ∧ tW (wo n + wl' n) = 32 ∧ (∀ j, j < wl' n → 97 ≤ tW (wo n + j) ∧ tW (wo n + j) ≤ 122) ∧ wl' n ≤ 6 ∧ lgw.getD n 0 = nmN tW (wo n) (wo n + wl' n) := by decide +kernel
def mtW (t : Nat → Int) (p e n : Nat) : Bool := decide (e - p = wl' n) && (List.range (wl' n)).all (fun j => t (p + j) == tW (wo n + j))
theorem mtW_iff {t : Nat → Int} {p e n : Nat} : mtW t p e n = true ↔ e - p = wl' n ∧ ∀ j, j < wl' n → t (p + j) = tW (wo n + j) := by
  unfold mtW
  rw [Bool.and_eq_true, decide_eq_true_eq, List.all_eq_true]
  refine and_congr Iff.rfl ⟨fun h j hj => ?_, fun h j hj => ?_⟩
  · exact of_decide_eq_true (h j (List.mem_range.mpr hj))
  · exact decide_eq_true (h j (List.mem_range.mp hj))
/-- the six digits of a name -/
def dg6 (t : Nat → Int) (p m j : Nat) : Nat := if j < m then (t (p + j) - 96).toNat else 0
def pk6 (d : Nat → Nat) : Nat := ((((d 0 * 32 + d 1) * 32 + d 2) * 32 + d 3) * 32 + d 4) * 32 + d 5
theorem nm_pk6 {t : Nat → Int} {p m : Nat} (h : m ≤ 6) : pkN t p m * 32 ^ (6 - m) = pk6 (dg6 t p m) := by
  rcases (show m = 0 ∨ m = 1 ∨ m = 2 ∨ m = 3 ∨ m = 4 ∨ m = 5 ∨ m = 6 by omega) with rfl | rfl | rfl | rfl | rfl | rfl | rfl <;> simp [pkN, pk6, dg6] <;> omega
theorem dig_inj {a b a' b' : Nat} (hb : b < 32) (hb' : b' < 32) (h : a * 32 + b = a' * 32 + b') : a = a' ∧ b = b' := by omega
theorem pk6_inj {d d' : Nat → Nat} (h : pk6 d = pk6 d') (h1 : ∀ j, d j < 32) (h2 : ∀ j, d' j < 32) : ∀ j, j < 6 → d j = d' j := by
  unfold pk6 at h
  obtain ⟨h, e5⟩ := dig_inj (h1 5) (h2 5) h
  obtain ⟨h, e4⟩ := dig_inj (h1 4) (h2 4) h
  obtain ⟨h, e3⟩ := dig_inj (h1 3) (h2 3) h
  obtain ⟨h, e2⟩ := dig_inj (h1 2) (h2 2) h
  obtain ⟨e0, e1⟩ := dig_inj (h1 1) (h2 1) h
  intro j hj
  rcases (show j = 0 ∨ j = 1 ∨ j = 2 ∨ j = 3 ∨ j = 4 ∨ j = 5 by omega) with rfl | rfl | rfl | rfl | rfl | rfl <;> assumption
theorem dg6_lt {t : Nat → Int} {p m : Nat} (h : ∀ j, j < m → 97 ≤ t (p + j) ∧ t (p + j) ≤ 122) (j : Nat) : dg6 t p m j < 32 := by
  unfold dg6
  split
  · next q => have := h j q; omega
  · omega
theorem pkN_congr2 {t u : Nat → Int} {p q : Nat} : ∀ m, (∀ j, j < m → t (p + j) = u (q + j)) → pkN t p m = pkN u q m
  | 0, _ => rfl
  | m + 1, h => by
    show pkN t p m * 32 + _ = pkN u q m * 32 + _
    rw [pkN_congr2 m (fun j hj => h j (by omega)), h m (by omega)]
theorem word_math {t : Nat → Int} {p e n : Nat} (hn : n < 18) (hm : e - p ≤ 6) (hl : ∀ j, j < e - p → 97 ≤ t (p + j) ∧ t (p + j) ≤ 122) : mtW t p e n = (lgw.getD n 0 == nmN t p e) := by
  obtain ⟨-, -, -, w4, w5, w6⟩ := w_tab n hn
  have e6 : lgw.getD n 0 = pkN tW (wo n) (wl' n) * 32 ^ (6 - wl' n) := by
    rw [w6]; unfold nmN; rw [Nat.add_sub_cancel_left]
  have key : mtW t p e n = true ↔ (lgw.getD n 0 == nmN t p e) = true := by
    rw [mtW_iff, beq_iff_eq, e6]
    unfold nmN
    constructor
    · rintro ⟨h1, h2⟩
      rw [h1, pkN_congr2 (wl' n) (fun j hj => h2 j hj)]
    · intro h
      rw [nm_pk6 w5, nm_pk6 hm] at h
      have hj := pk6_inj h (dg6_lt w4) (dg6_lt hl)
      have hlen : e - p = wl' n := by
        rcases Nat.lt_trichotomy (e - p) (wl' n) with q | q | q
        · have h1 := hj (e - p) (by omega)
          have h2 := w4 (e - p) q
          unfold dg6 at h1
          rw [if_pos q, if_neg (Nat.lt_irrefl _)] at h1
          omega
        · exact q
        · have h1 := hj (wl' n) (by omega)
          have h2 := hl (wl' n) q
          unfold dg6 at h1
          rw [if_pos q, if_neg (Nat.lt_irrefl _)] at h1
          omega
      refine ⟨hlen, fun j hjl => ?_⟩
      have h1 := hj j (by omega)
      have h2 := w4 j hjl
      have h3 := hl j (by omega)
      unfold dg6 at h1
      rw [if_pos hjl, if_pos (by omega)] at h1
      omega
  cases h1 : mtW t p e n <;> cases h2 : (lgw.getD n 0 == nmN t p e)
  · rfl
  · rw [h1, h2] at key; exact absurd (key.mpr rfl) (by decide)
  · rw [h1, h2] at key; exact absurd (key.mp rfl) (by decide)
  · rfl
theorem word_R : WordR := by
  intro t n p e M P hT h20 h19 hpe hen hl hP
  obtain ⟨t1, t2, t3, t4⟩ := hT
  have hl' : ∀ j, j < e - p → 97 ≤ t (p + j) ∧ t (p + j) ≤ 122 := fun j hj => isL_of.mp (hl (p + j) (by omega) (by omega))
  have hr : P (fst1 (mtW t p e) 18 0) M := by
    by_cases hm : e - p ≤ 6
    · rw [if_pos hm] at hP
      unfold wdx at hP
      rwa [fst1_congr 18 0 (fun j _ hj => word_math (by omega) hm hl')]
    · rw [if_neg hm] at hP
      rwa [fst1_off 18 0 (fun j _ hj => by
        have := (w_tab j (by omega)).2.2.2.2.1
        cases q : mtW t p e j with
        | false => rfl
        | true => have := (mtW_iff.mp q).1; omega)]
  apply q_11_word
  have key : ∀ r nn, nn + r = 18 → fst1 (mtW t p e) r nn = fst1 (mtW t p e) 18 0 → A m11_word 2 0 4 [(20, ((59 : Nat) : Int)), (0, (nn : Int)), (0, (wo nn : Int)), (2, 0)] [] M (Ki P) := by
    intro r
    induction r with
    | zero =>
      intro nn hn hf
      have e18 : nn = 18 := by omega
      subst e18
      apply r_11_word_4
      refine ⟨fun _ => ?_, fun q => absurd q (by decide)⟩
      rw [← hf] at hr
      exact hr
    | succ r ih =>
      intro nn hn hf
      obtain ⟨w1, w2, w3, w4, w5, -⟩ := w_tab nn (by omega)
      have wadd : ∀ j, j ≤ wl' nn → w32 ((wo nn : Int) + (j : Int)) = ((wo nn + j : Nat) : Int) := fun j hj => by
        rw [w32_id (by omega) (by omega)]; omega
      have wp : ∀ j, p + j ≤ e → w32 ((p : Int) + (j : Int)) = ((p + j : Nat) : Int) := fun j hj => by
        rw [w32_id (by omega) (by omega)]; omega
      have exit97 : mtW t p e nn = false → ∀ k j, j + k = wl' nn → A m11_word 2 0 97 [(20, ((59 : Nat) : Int)), (0, (nn : Int)), (0, ((wo nn + j : Nat) : Int)), (2, 0)] [] M (Ki P) := fun hno k => by
        induction k with
        | zero =>
          intro j hj
          have ej : j = wl' nn := by omega
          subst ej
          have c : chW ((wo nn + wl' nn : Nat) : Int) = 32 := w3
          apply r_11_word_97
          refine ⟨by omega, fun _ => ?_, fun q => absurd c q⟩
          rw [w_1 (i := nn) (by omega), w_1 (i := wo nn + wl' nn) (by omega), ← w2]
          exact ih (nn + 1) (by omega) (by rw [← hf, fst1_n hno])
        | succ k ihk =>
          intro j hj
          have c := w4 j (by omega)
          have c' : chW ((wo nn + j : Nat) : Int) ≠ 32 := by
            have : chW ((wo nn + j : Nat) : Int) = tW (wo nn + j) := rfl
            omega
          apply r_11_word_97
          refine ⟨by omega, fun q => absurd q c', fun _ => ?_⟩
          rw [w_1 (i := wo nn + j) (by omega)]
          exact ihk (j + 1) (by omega)
      have x97 : mtW t p e nn = false → A m11_word 2 0 97 [(20, ((59 : Nat) : Int)), (0, (nn : Int)), (0, (wo nn : Int)), (2, 0)] [] M (Ki P) := fun hno => exit97 hno (wl' nn) 0 (by omega)
      have at69 : ∀ i, i ≤ wl' nn → p + i ≤ e → (∀ j, j < i → t (p + j) = tW (wo nn + j)) → (i < wl' nn → p + i < e → t (p + i) ≠ tW (wo nn + i)) → A m11_word 2 0 69 [(20, ((59 : Nat) : Int)), (0, (nn : Int)), (0, (wo nn : Int)), (0, (i : Int))] [] M (Ki P) := fun i hi hpi hpre hmax => by
        apply r_11_word_69
        rw [wadd i hi, h20, h19, wp i hpi]
        refine ⟨by omega, fun q => x97 ?_, fun q => ⟨fun q1 => x97 ?_, fun q1 => ?_⟩⟩
        · have hlt : i < wl' nn := by
            rcases Nat.lt_or_eq_of_le hi with z | z
            · exact z
            · rw [z] at q; exact absurd w3 q
          cases z : mtW t p e nn with
          | false => rfl
          | true =>
            obtain ⟨z1, z2⟩ := mtW_iff.mp z
            exact absurd (z2 i hlt) (hmax hlt (by omega))
        · cases z : mtW t p e nn with
          | false => rfl
          | true =>
            obtain ⟨z1, z2⟩ := mtW_iff.mp z
            have hiw : i = wl' nn := by
              rcases Nat.lt_or_eq_of_le hi with y | y
              · have c := w4 i y
                have c' : chW ((wo nn + i : Nat) : Int) = tW (wo nn + i) := rfl
                omega
              · exact y
            omega
        · have hiw : i = wl' nn := by
            rcases Nat.lt_or_eq_of_le hi with y | y
            · have c := w4 i y
              have c' : chW ((wo nn + i : Nat) : Int) = tW (wo nn + i) := rfl
              omega
            · exact y
          have z : mtW t p e nn = true := mtW_iff.mpr ⟨by omega, fun j hj => hpre j (by omega)⟩
          rw [← hf, fst1_y z] at hr
          exact hr
      have in15 : ∀ k i, i + k = wl' nn → p + i ≤ e → (∀ j, j < i → t (p + j) = tW (wo nn + j)) → A m11_word 2 0 15 [(20, ((59 : Nat) : Int)), (0, (nn : Int)), (0, (wo nn : Int)), (0, (i : Int))] [] M (Ki P) := fun k => by
        induction k with
        | zero =>
          intro i hik hpi hpre
          have ei : i = wl' nn := by omega
          have c : chW ((wo nn + i : Nat) : Int) = 32 := by rw [ei]; exact w3
          apply r_11_word_15
          rw [wadd i (by omega)]
          exact ⟨by omega, fun _ => at69 i (by omega) hpi hpre (fun q => by omega), fun q => absurd c q⟩
        | succ k ihk =>
          intro i hik hpi hpre
          have c := w4 i (by omega)
          have c' : chW ((wo nn + i : Nat) : Int) = tW (wo nn + i) := rfl
          apply r_11_word_15
          rw [wadd i (by omega), h20, h19, wp i hpi]
          refine ⟨by omega, fun q => by omega, fun _ => ⟨fun q => at69 i (by omega) hpi hpre (fun _ q2 => by omega), fun q => ⟨by omega, by omega, fun q2 => ?_, fun q2 => ?_⟩⟩⟩
          · rw [Int.toNat_natCast, t3 (p + i) (by omega)] at q2
            exact at69 i (by omega) hpi hpre (fun _ _ => q2)
          · rw [Int.toNat_natCast, t3 (p + i) (by omega)] at q2
            rw [w_1 (i := i) (by omega)]
            refine ihk (i + 1) (by omega) (by omega) (fun j hj => ?_)
            rcases Nat.lt_or_eq_of_le (Nat.le_of_lt_succ hj) with y | y
            · exact hpre j y
            · rw [y]; exact q2
      apply r_11_word_4
      refine ⟨fun q => by omega, fun _ => ?_⟩
      exact in15 (wl' nn) 0 (by omega) (by omega) (fun j hj => absurd hj (Nat.not_lt_zero j))
  exact key 18 0 rfl rfl
