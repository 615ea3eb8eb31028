/-! RISE in the reference: the whole of it -/
def n92 (k _j : Nat) : Prop := k = 92
theorem s_takes {r : Nat} {M : Mem} {P : Mem → Prop} (hr : r < 12500) (h : ∀ M', Fp n92 M M' → PLm M' (plR r) → P M') : CD m11_takes 1 [(20, ((59 : Nat) : Int)), (0, (r : Int))] M P := by
  apply q_11_takes
  have td : ∀ x d : Nat, Int.tdiv (x : Int) (d : Int) = ((x / d : Nat) : Int) := fun x d => rfl
  have tm : ∀ x d : Nat, Int.tmod (x : Int) (d : Int) = ((x % d : Nat) : Int) := fun x d => rfl
  have hq : r / 4 < 3125 := by omega
  have e1 : w32 (Int.tdiv (r : Int) 4) = ((r / 4 : Nat) : Int) := by
    rw [show Int.tdiv (r : Int) 4 = ((r / 4 : Nat) : Int) from td r 4, w32_id (by omega) (by omega)]
  rw [e1]
  generalize hz : r / 4 = z at hq
  have hdiv : ∀ j, z / 5 ^ j < 3125 := fun j => Nat.lt_of_le_of_lt (Nat.div_le_self _ _) hq
  have hpl : ∀ p, plR r p = z / 5 ^ (4 - p) % 5 := fun p => by unfold plR; rw [hz]
  suffices key : ∀ j M1, j ≤ 5 → (Fp n92 M M1 ∧ ∀ p, p < 5 → 4 - p < j → M1 92 p = (plR r p : Int)) → A m11_takes 1 0 6 [(20, ((59 : Nat) : Int)), (2, 0), (0, ((z / 5 ^ j : Nat) : Int)), (0, w32 (((5 - j : Nat) : Int) - 1))] [] M1 (Kd P) by
    have := key 0 M (by omega) ⟨Fp.rf, fun p hp hj => by omega⟩
    rw [Nat.pow_zero, Nat.div_one] at this
    exact this
  refine loop_up (Inv := fun j M1 => Fp n92 M M1 ∧ ∀ p, p < 5 → 4 - p < j → M1 92 p = (plR r p : Int)) (G := fun j M1 => A m11_takes 1 0 6 [(20, ((59 : Nat) : Int)), (2, 0), (0, ((z / 5 ^ j : Nat) : Int)), (0, w32 (((5 - j : Nat) : Int) - 1))] [] M1 (Kd P)) 5 ?_ ?_
  · rintro M1 ⟨hF, hall⟩
    apply r_11_takes_6
    rw [show w32 (((5 - 5 : Nat) : Int) - 1) = -1 by decide]
    exact ⟨fun _ => h M1 hF (fun p hp => hall p hp (by omega)), fun q => by omega⟩
  · rintro j M1 hj ⟨hF, hall⟩ ih
    have e : w32 (((5 - j : Nat) : Int) - 1) = ((4 - j : Nat) : Int) := by rw [w32_id (by omega) (by omega)]; omega
    have e2 : w32 (((4 - j : Nat) : Int) + -1) = w32 (((5 - (j + 1) : Nat) : Int) - 1) := by rw [w32_id (by omega) (by omega), w32_id (by omega) (by omega)]; omega
    have hd := hdiv j
    have hd2 := hdiv (j + 1)
    have e3 : z / 5 ^ j / 5 = z / 5 ^ (j + 1) := by rw [Nat.div_div_eq_div_mul, ← Nat.pow_succ]
    have m5 : ∀ u : Nat, u % 5 < 3125 := fun u => by omega
    have w32n : ∀ u : Nat, u < 3125 → w32 (u : Int) = (u : Int) := fun u hu => w32_id (by omega) (by omega)
    have e4 : w32 (Int.tdiv ((z / 5 ^ j : Nat) : Int) 5) = ((z / 5 ^ (j + 1) : Nat) : Int) := by
      rw [show Int.tdiv ((z / 5 ^ j : Nat) : Int) 5 = ((z / 5 ^ j / 5 : Nat) : Int) from td _ 5, e3, w32n _ hd2]
    have e5 : w32 (Int.tmod ((z / 5 ^ j : Nat) : Int) 5) = ((z / 5 ^ j % 5 : Nat) : Int) := by
      rw [show Int.tmod ((z / 5 ^ j : Nat) : Int) 5 = ((z / 5 ^ j % 5 : Nat) : Int) from tm _ 5, w32n _ (m5 _)]
    apply r_11_takes_6
    rw [e, e2, e4, e5, Int.toNat_natCast]
    refine ⟨fun q => by omega, fun _ => ⟨by omega, ih _ ⟨hF.set rfl, fun p hp hpj => ?_⟩⟩⟩
    by_cases y : p = 4 - j
    · subst y
      rw [mset_s, hpl, show 4 - (4 - j) = j by omega]
    · rw [mset_j y]; exact hall p hp (by omega)
def kp (pl : Nat → Nat) : Nat → Nat
  | 0 => 0
  | j + 1 => kp pl j * 5 + pl j
theorem kp_lt {pl : Nat → Nat} (h : ∀ p, p < 5 → pl p < 5) : ∀ j, j ≤ 5 → kp pl j < 5 ^ j
  | 0, _ => by unfold kp; decide
  | j + 1, hj => by
    have := kp_lt h j (by omega)
    have := h j (by omega)
    unfold kp
    rw [Nat.pow_succ]
    omega
theorem s_state {pl : Nat → Nat} {w : Nat} {M : Mem} {P : Int → Mem → Prop} (hP : PLm M pl) (hpl : ∀ p, p < 5 → pl p < 5) (hw : w < 4) (h : P (kR pl w : Int) M) : CI m11_state 1 [(20, ((59 : Nat) : Int)), (0, (w : Int))] M P := by
  apply q_11_state
  refine loop_up (Inv := fun k M1 => M1 = M) (G := fun j M1 => A m11_state 1 0 4 [(20, ((59 : Nat) : Int)), (0, (w : Int)), (0, (kp pl j : Int)), (0, (j : Int))] [] M1 (Ki P)) 5 ?_ ?_ 0 M (by omega) rfl
  · rintro M1 rfl
    have hb := kp_lt hpl 5 (by omega)
    rw [show (5 : Nat) ^ 5 = 3125 from rfl] at hb
    apply r_11_state_4
    have e : w32 (w32 ((kp pl 5 : Int) * 4) + (w : Int)) = (kR pl w : Int) := by
      have : kR pl w = kp pl 5 * 4 + w := by
        show _ = (((((0 * 5 + pl 0) * 5 + pl 1) * 5 + pl 2) * 5 + pl 3) * 5 + pl 4) * 4 + w
        unfold kR; omega
      rw [this, w32_id (z := (kp pl 5 : Int) * 4) (by omega) (by omega), w32_id (by omega) (by omega)]; omega
    rw [e]
    exact ⟨fun _ => h, fun q => by omega⟩
  · rintro j M1 hj rfl ih
    have hb := kp_lt hpl j (by omega)
    have hpj := hpl j hj
    have : 5 ^ j ≤ 5 ^ 4 := Nat.pow_le_pow_right (by decide) (by omega)
    rw [show (5 : Nat) ^ 4 = 625 from rfl] at this
    apply r_11_state_4
    rw [Int.toNat_natCast, hP j hj, w_1 (i := j) (by omega)]
    have e : w32 (w32 ((kp pl j : Int) * 5) + (pl j : Int)) = (kp pl (j + 1) : Int) := by
      show _ = ((kp pl j * 5 + pl j : Nat) : Int)
      rw [w32_id (z := (kp pl j : Int) * 5) (by omega) (by omega), w32_id (by omega) (by omega)]; omega
    rw [e]
    exact ⟨fun q => by omega, fun _ => ⟨by omega, ih M1 rfl⟩⟩
theorem s_changes {pl : Nat → Nat} {c h : Nat} {M : Mem} {P : Mem → Prop} (hP : PLm M pl) (hc : c < 5) (hh : h < 5) (hne : h ≠ c) (hQ : ∀ M', Fp n92 M M' → PLm M' (swp pl c h) → P M') : CD m11_changes 1 [(20, ((59 : Nat) : Int)), (0, (c : Int)), (0, (h : Int))] M P := by
  apply q_11_changes
  rw [Int.toNat_natCast, Int.toNat_natCast]
  have f0 : Fp n92 M M := Fp.rf
  refine ⟨by omega, by omega, by omega, by omega, hQ _ ((f0.set rfl).set rfl) (fun p hp => ?_)⟩
  unfold swp
  by_cases z : p = h
  · subst z
    rw [mset_s, if_neg hne, if_pos rfl]; exact hP c hc
  · rw [mset_j z]
    by_cases y : p = c
    · subst y; rw [mset_s, if_pos rfl]; exact hP h hh
    · rw [mset_j y, if_neg y, if_neg z]; exact hP p hp
theorem swp2 (x : Nat → Nat) {c h : Nat} (hne : h ≠ c) : swp (swp x c h) c h = x := by
  funext p
  unfold swp
  by_cases z : p = c
  · subst z; simp [hne]
  · by_cases y : p = h
    · subst y; simp [hne]
    · simp [z, y]
/-- the reference's tables hold what was met -/
def RR (M : Mem) (X : Xs) : Prop := (∀ i, i < X.1 → M 91 i = (X.2.1 i : Int) ∧ M 90 (X.2.1 i) = (if i = 0 then -1 else (X.2.2.2 i : Int)) ∧ (0 < i → M 89 (X.2.1 i) = (X.2.1 (X.2.2.1 i) : Int))) ∧ ∀ r, r < 12500 → inX X.2.1 X.1 r = false → M 90 r = -2
theorem RR.fp {M M' : Mem} {X : Xs} {t : Nat → Nat → Prop} (h : RR M X) (hF : Fp t M M') (ht : ∀ k j, t k j → k < 89 ∨ 92 ≤ k) : RR M' X := by
  have e : ∀ k, 89 ≤ k → k < 92 → M' k = M k := fun k h1 h2 => hF.row (fun j hc => by have := ht k j hc; omega)
  unfold RR
  rw [e 89 (by omega) (by omega), e 90 (by omega) (by omega), e 91 (by omega) (by omega)]
  exact h
theorem s_path {X : Xs} {g : Nat} {k : Int} {M : Mem} {P : Int → Mem → Prop} (hX : okX X) (hR : RR M X) (hg : g < X.1) (hk : -1 ≤ k) (h : P (rsV (some (X, g)) k) M) : CI m11_path 1 [(20, ((59 : Nat) : Int)), (0, (X.2.1 g : Int)), (0, k)] M P := by
  have hle := okX_le hX
  obtain ⟨d1, d2, d3, d4⟩ := dpt_of (o := X.2.2.1) (m := X.1) (fun i h0 hi => (hX.2.2.2 i h0 hi).1) g g hg (Nat.le_refl g)
  have hv := hX.2.1
  have h' : P (if k = -1 then (dpt X.2.2.1 g g : Int) else if (dpt X.2.2.1 g g : Int) ≤ k then -2 else (X.2.2.2 (itr X.2.2.1 g (dpt X.2.2.1 g g - 1 - k.toNat)) : Int)) M := h
  generalize dpt X.2.2.1 g g = N at d1 d2 d3 d4 h'
  apply q_11_path
  refine loop_up (Inv := fun j M1 => M1 = M) (G := fun j M1 => A m11_path 1 0 5 [(20, ((59 : Nat) : Int)), (0, (X.2.1 g : Int)), (0, k), (0, (j : Int)), (0, (X.2.1 (itr X.2.2.1 g j) : Int)), (2, 0)] [] M1 (Ki P)) N ?_ ?_ 0 M (by omega) rfl
  · rintro M1 rfl
    have hlt := d4 N (Nat.le_refl N)
    have hvl := (hv _ hlt).1
    apply r_11_path_5
    rw [Int.toNat_natCast, (hR.1 _ hlt).2.1, if_pos d1]
    refine ⟨by omega, fun _ => ⟨fun q => ⟨fun q1 => ?_, fun q1 => ?_⟩, fun q => ?_⟩, fun q => absurd rfl q⟩
    · rw [if_neg q, if_neg (by omega)] at h'
      obtain ⟨k', rfl⟩ : ∃ k' : Nat, k = (k' : Int) := ⟨k.toNat, by omega⟩
      rw [Int.toNat_natCast] at h'
      suffices key : ∀ j M2, j ≤ N - 1 - k' → M2 = M1 → A m11_path 1 0 54 [(20, ((59 : Nat) : Int)), (2, 0), (0, (k' : Int)), (2, 0), (0, (X.2.1 (itr X.2.2.1 g j) : Int)), (0, w32 ((N - j : Nat) - 1 : Int))] [] M2 (Ki P) by
        exact key 0 M1 (by omega) rfl
      refine loop_up (Inv := fun j M2 => M2 = M1) (G := fun j M2 => A m11_path 1 0 54 [(20, ((59 : Nat) : Int)), (2, 0), (0, (k' : Int)), (2, 0), (0, (X.2.1 (itr X.2.2.1 g j) : Int)), (0, w32 ((N - j : Nat) - 1 : Int))] [] M2 (Ki P)) (N - 1 - k') ?_ ?_
      · rintro M2 rfl
        have hlt := d4 (N - 1 - k') (by omega)
        have h0 := d2 (N - 1 - k') (by omega)
        have hvl := (hv _ hlt).1
        apply r_11_path_54
        have e : w32 ((N - (N - 1 - k') : Nat) - 1 : Int) = (k' : Int) := by rw [w32_id (by omega) (by omega)]; omega
        rw [e, Int.toNat_natCast, (hR.1 _ hlt).2.1, if_neg (by omega)]
        exact ⟨fun _ => ⟨by omega, h'⟩, fun q => by omega⟩
      · rintro j M2 hj rfl ih
        have hlt := d4 j (by omega)
        have h0 := d2 j (by omega)
        have hvl := (hv _ hlt).1
        have e : w32 ((N - j : Nat) - 1 : Int) = ((N - j - 1 : Nat) : Int) := by rw [w32_id (by omega) (by omega)]; omega
        have e2 : w32 (((N - j - 1 : Nat) : Int) + -1) = w32 ((N - (j + 1) : Nat) - 1 : Int) := by rw [w32_id (by omega) (by omega), w32_id (by omega) (by omega)]; omega
        apply r_11_path_54
        rw [e, e2, Int.toNat_natCast, (hR.1 _ hlt).2.2 h0]
        exact ⟨fun q => by omega, fun _ => ⟨by omega, ih M2 rfl⟩⟩
    · rw [if_neg q, if_pos q1] at h'; exact h'
    · rw [if_pos q] at h'; exact h'
  · rintro j M1 hj rfl ih
    have hlt := d4 j (by omega)
    have h0 := d2 j hj
    have hvl := (hv _ hlt).1
    apply r_11_path_5
    rw [Int.toNat_natCast, (hR.1 _ hlt).2.1, if_neg (by omega), (hR.1 _ hlt).2.2 h0, w_1 (i := j) (by omega)]
    exact ⟨by omega, fun q => by omega, fun _ => ⟨by omega, ih M1 rfl⟩⟩
