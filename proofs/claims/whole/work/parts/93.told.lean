/-! what is KNOWN, and the first saying that isn't RIGHT in an order -/
def ks (H : FTab) (K : Nat) : Nat → Nat × Nat
  | 0 => (0, 0)
  | m + 1 => if (ks H K m).1.testBit (K - 1 - m) = true then ks H K m else if H (K - 1 - m) 0 = -1 then ((ks H K m).1 ||| (1 <<< (H (K - 1 - m) 1).toNat), (ks H K m).2) else ((ks H K m).1, (ks H K m).2 ||| (1 <<< (K - 1 - m)))
theorem ks_step {H : FTab} {K m : Nat} : ks H K (m + 1) = if (ks H K m).1.testBit (K - 1 - m) = true then ks H K m else if H (K - 1 - m) 0 = -1 then ((ks H K m).1 ||| (1 <<< (H (K - 1 - m) 1).toNat), (ks H K m).2) else ((ks H K m).1, (ks H K m).2 ||| (1 <<< (K - 1 - m))) := rfl
def HokK (H : FTab) (K : Nat) : Prop := K ≤ 24 ∧ ∀ i, i < K → H i 0 = -1 → 0 ≤ H i 1 ∧ H i 1 < i
theorem one_lt {k : Nat} (h : k < 24) : 1 <<< k < 2 ^ 24 := by
  rw [Nat.shiftLeft_eq, Nat.one_mul]; exact Nat.pow_lt_pow_right (by decide) h
theorem ks_lt {H : FTab} {K : Nat} (h : HokK H K) : ∀ m, m ≤ K → (ks H K m).1 < 2 ^ 24 ∧ (ks H K m).2 < 2 ^ 24
  | 0, _ => by unfold ks; decide
  | m + 1, hm => by
    have ih := ks_lt h m (by omega)
    have h1 := h.1
    rw [ks_step]
    split
    · exact ih
    · split
      · next q =>
        have := h.2 (K - 1 - m) (by omega) q
        exact ⟨Nat.or_lt_two_pow ih.1 (one_lt (by omega)), ih.2⟩
      · exact ⟨ih.1, Nat.or_lt_two_pow ih.2 (one_lt (by omega))⟩
/-- a told bit: not struck and no strike itself -/
theorem ks_told {H : FTab} {K : Nat} (h : HokK H K) : ∀ m, m ≤ K → ∀ k, (ks H K m).2.testBit k = (decide (K - m ≤ k ∧ k < K) && (!(ks H K m).1.testBit k && decide (H k 0 ≠ -1)))
  | 0, _, k => by
    rw [decide_eq_false (by omega)]
    show (0 : Nat).testBit k = _
    rw [Nat.zero_testBit, Bool.false_and]
  | m + 1, hm, k => by
    have ih := ks_told h m (by omega) k
    have hK := h.1
    rw [ks_step]
    by_cases q1 : (ks H K m).1.testBit (K - 1 - m) = true
    · rw [if_pos q1, ih]
      by_cases e : k = K - 1 - m
      · subst e; rw [q1]; simp
      · congr 1
        by_cases z : K - m ≤ k ∧ k < K
        · rw [decide_eq_true z, decide_eq_true (by omega)]
        · rw [decide_eq_false z, decide_eq_false (by omega)]
    · rw [if_neg q1]
      by_cases q2 : H (K - 1 - m) 0 = -1
      · rw [if_pos q2]
        obtain ⟨t1, t2⟩ := h.2 (K - 1 - m) (by omega) q2
        show (ks H K m).2.testBit k = _
        rw [ih]
        show _ = (_ && (!((ks H K m).1 ||| (1 <<< (H (K - 1 - m) 1).toNat)).testBit k && _))
        by_cases e : k = K - 1 - m
        · subst e
          rw [decide_eq_false (by omega), decide_eq_false (show ¬ (H (K - 1 - m) 0 ≠ -1) by omega)]
          simp
        · by_cases z : K - m ≤ k ∧ k < K
          · rw [decide_eq_true z, decide_eq_true (show K - (m + 1) ≤ k ∧ k < K by omega), Nat.testBit_or, tb_one, decide_eq_false (show ¬ (H (K - 1 - m) 1).toNat = k by omega), Bool.or_false]
          · rw [decide_eq_false z, decide_eq_false (show ¬ (K - (m + 1) ≤ k ∧ k < K) by omega), Bool.false_and, Bool.false_and]
      · rw [if_neg q2]
        show ((ks H K m).2 ||| (1 <<< (K - 1 - m))).testBit k = (_ && (!(ks H K m).1.testBit k && _))
        rw [Nat.testBit_or, tb_one, ih]
        have q1' : (ks H K m).1.testBit (K - 1 - m) = false := by
          cases w : (ks H K m).1.testBit (K - 1 - m) with
          | false => rfl
          | true => exact absurd w q1
        by_cases e : K - 1 - m = k
        · subst e
          rw [decide_eq_true (show K - (m + 1) ≤ K - 1 - m ∧ K - 1 - m < K by omega), q1', decide_eq_true q2]; simp
        · rw [decide_eq_false e, Bool.or_false]
          congr 1
          by_cases z : K - m ≤ k ∧ k < K
          · rw [decide_eq_true z, decide_eq_true (by omega)]
          · rw [decide_eq_false z, decide_eq_false (by omega)]
/-- how many count, of what was heard -/
def kmany (nh : Nat) (kb : Int) : Nat := if kb = -1 then nh else kb.toNat
def told (H : FTab) (nh : Nat) (kb : Int) : Nat := (ks H (kmany nh kb) (kmany nh kb)).2
theorem kmany_le {pp n nh : Nat} {kb : Int} {H : FTab} (h : MH pp n nh kb H) : kmany nh kb ≤ nh := by
  have := h.2.1
  unfold kmany; split <;> omega
theorem HokK_of {pp n nh : Nat} {kb : Int} {H : FTab} (h : MH pp n nh kb H) : HokK H (kmany nh kb) := by
  have h1 := kmany_le h
  refine ⟨by have := h.1; omega, fun i hi q => ?_⟩
  rcases h.2.2 i (by omega) with z | z
  · exact ⟨z.2.1, z.2.2⟩
  · have := z.1.1.1.1; omega
theorem bit_s {u q : Nat} (hu : u < 2 ^ 24) : iand (ishr (u : Int) (q : Int)) 1 = ((u.testBit (q % 32)).toNat : Int) → True := fun _ => trivial
theorem bit_24 {u q : Nat} (hu : u < 2 ^ 30) (hq : q < 32) : iand (ishr (u : Int) (q : Int)) 1 = ((u.testBit q).toNat : Int) := by
  have := bit_full (u := u) (q := q) (by omega) hq
  rwa [w32_id (by omega) (by omega)] at this
theorem or_24 {u q : Nat} (hu : u < 2 ^ 30) (hq : q < 30) : ior (u : Int) (ishl 1 (q : Int)) = ((u ||| (1 <<< q) : Nat) : Int) := by
  have h2 : 1 <<< q < 2 ^ 30 := by rw [Nat.shiftLeft_eq, Nat.one_mul]; exact Nat.pow_lt_pow_right (by decide) hq
  have e : ishl ((1 : Nat) : Int) (q : Int) = ((1 <<< q : Nat) : Int) := ishl_n (by omega) (by rw [Nat.one_mul]; rw [Nat.shiftLeft_eq, Nat.one_mul] at h2; omega)
  have e' : ishl 1 (q : Int) = ((1 <<< q : Nat) : Int) := e
  rw [e', ior_n (by omega) (by omega)]
theorem tn0 {c : Bool} (h : (c.toNat : Int) = 0) : c = false := by revert h; cases c <;> simp
theorem tn1 {c : Bool} (h : (c.toNat : Int) ≠ 0) : c = true := by revert h; cases c <;> simp
theorem s_knownCt {n nh : Nat} {kb : Int} {H : FTab} {ag C : Nat → Int} {Bg E : Nat → Nat} {M : Mem} {P : Int → Mem → Prop} (hM : MC M n ag C Bg E nh kb H) (hk : -1 ≤ kb) (h : P (kmany nh kb : Int) M) : CI m4_knownCount 1 [(14, ((43 : Nat) : Int))] M P := by
  unfold kmany at h
  apply q_4_knownCount
  rw [hM.1, hM.2.1]
  refine ⟨fun q => ?_, fun q => ?_⟩
  · rw [if_neg q] at h
    rwa [Int.toNat_of_nonneg (by omega)] at h
  · rwa [if_pos q] at h
theorem s_knownSayings {pp n nh : Nat} {kb : Int} {H : FTab} {ag C : Nat → Int} {Bg E : Nat → Nat} {M : Mem} {P : Int → Mem → Prop} (hM : MC M n ag C Bg E nh kb H) (hH : MH pp n nh kb H) (h : P (told H nh kb : Int) M) : CI m4_knownSayings 2 [(14, ((43 : Nat) : Int))] M P := by
  have a48 : ((aln 48 : Nat) : Int) = 24 := by decide
  have hK := HokK_of hH
  have hle := kmany_le hH
  have h24 := hH.1
  unfold told at h
  apply q_4_knownSayings
  apply s_knownCt hM hH.2.1.1
  generalize kmany nh kb = K at hK hle h ⊢
  suffices key : ∀ m M1, m ≤ K → M1 = M → A m4_knownSayings 2 0 11 [(14, ((43 : Nat) : Int)), (0, ((ks H K m).1 : Int)), (0, ((ks H K m).2 : Int)), (0, w32 ((K - m : Nat) - 1 : Int)), (2, 0)] [] M1 (Ki P) by
    have := key 0 M (by omega) rfl
    exact this
  refine loop_up (Inv := fun m M1 => M1 = M) (G := fun m M1 => A m4_knownSayings 2 0 11 [(14, ((43 : Nat) : Int)), (0, ((ks H K m).1 : Int)), (0, ((ks H K m).2 : Int)), (0, w32 ((K - m : Nat) - 1 : Int)), (2, 0)] [] M1 (Ki P)) K ?_ ?_
  · rintro M1 rfl
    apply r_4_knownSayings_11
    rw [Nat.sub_self, show w32 (((0 : Nat) : Int) - 1) = -1 by decide]
    exact ⟨fun _ => h, fun q => by omega⟩
  · rintro m M1 hm rfl ih
    obtain ⟨l1, l2⟩ := ks_lt hK m (by omega)
    have e : w32 ((K - m : Nat) - 1 : Int) = ((K - 1 - m : Nat) : Int) := by rw [w32_id (by omega) (by omega)]; omega
    have e2 : w32 (((K - 1 - m : Nat) : Int) + -1) = w32 ((K - (m + 1) : Nat) - 1 : Int) := by rw [w32_id (by omega) (by omega), w32_id (by omega) (by omega)]; omega
    rw [ks_step] at ih
    apply r_4_knownSayings_11
    rw [e, e2, bit_24 (by omega) (by omega)]
    refine ⟨fun q => by omega, fun _ => ⟨fun q1 => ?_, fun q1 => ?_⟩⟩
    · rw [if_pos (tn1 q1)] at ih
      exact ih M1 rfl
    · rw [if_neg (by rw [tn0 q1]; decide)] at ih
      apply s_at (by omega) (by omega)
      rw [Int.toNat_natCast]
      have hi : K - 1 - m < nh := by omega
      have hc := hM.2.2 _ hi
      by_cases q2 : H (K - 1 - m) 0 = -1
      · rw [if_pos q2] at ih
        obtain ⟨t1, t2⟩ := hK.2 (K - 1 - m) (by omega) q2
        rw [hc.1 q2]
        refine ⟨fun _ => ?_, fun q3 => by omega⟩
        have e3 : ior ((ks H K m).1 : Int) (ishl 1 (H (K - 1 - m) 1)) = (((ks H K m).1 ||| (1 <<< (H (K - 1 - m) 1).toNat) : Nat) : Int) := by
          rw [← or_24 (by omega) (by omega), Int.toNat_of_nonneg t1]
        rw [e3]
        exact ih M1 rfl
      · rw [if_neg q2] at ih
        rw [(hc.2 q2).1]
        refine ⟨fun q3 => absurd rfl q3, fun _ => ?_⟩
        rw [or_24 (by omega) (by omega)]
        exact ih M1 rfl
/-- the first that holds, from i on -/
def fst1 (p : Nat → Bool) : Nat → Nat → Int
  | 0, _ => -1
  | m + 1, i => if p i = true then (i : Int) else fst1 p m (i + 1)
theorem fst1_y {p : Nat → Bool} {m i : Nat} (h : p i = true) : fst1 p (m + 1) i = (i : Int) := if_pos h
theorem fst1_n {p : Nat → Bool} {m i : Nat} (h : p i = false) : fst1 p (m + 1) i = fst1 p m (i + 1) := if_neg (by rw [h]; decide)
theorem fst1_off {p : Nat → Bool} : ∀ m i, (∀ j, i ≤ j → j < i + m → p j = false) → fst1 p m i = -1
  | 0, _, _ => rfl
  | m + 1, i, h => by
    rw [fst1_n (h i (by omega) (by omega))]
    exact fst1_off m (i + 1) (fun j h1 h2 => h j (by omega) (by omega))
theorem fst1_cut {p : Nat → Bool} : ∀ m i d, (∀ j, i + m ≤ j → j < i + m + d → p j = false) → fst1 p (m + d) i = fst1 p m i
  | 0, i, d, h => by
    rw [Nat.zero_add]
    exact fst1_off d i (fun j h1 h2 => h j (by omega) (by omega))
  | m + 1, i, d, h => by
    rw [show m + 1 + d = (m + d) + 1 by omega]
    show (if p i = true then (i : Int) else fst1 p (m + d) (i + 1)) = (if p i = true then (i : Int) else fst1 p m (i + 1))
    rw [fst1_cut m (i + 1) d (fun j h1 h2 => h j (by omega) (by omega))]
theorem fst1_congr {p q : Nat → Bool} : ∀ m i, (∀ j, i ≤ j → j < i + m → p j = q j) → fst1 p m i = fst1 q m i
  | 0, _, _ => rfl
  | m + 1, i, h => by
    show (if p i = true then (i : Int) else fst1 p m (i + 1)) = (if q i = true then (i : Int) else fst1 q m (i + 1))
    rw [h i (by omega) (by omega), fst1_congr m (i + 1) (fun j h1 h2 => h j (by omega) (by omega))]
theorem fst1_bd {p : Nat → Bool} : ∀ m i, fst1 p m i = -1 ∨ ((i : Int) ≤ fst1 p m i ∧ fst1 p m i < ((i + m : Nat) : Int))
  | 0, _ => Or.inl rfl
  | m + 1, i => by
    show (if p i = true then (i : Int) else fst1 p m (i + 1)) = -1 ∨ ((i : Int) ≤ (if p i = true then (i : Int) else fst1 p m (i + 1)) ∧ (if p i = true then (i : Int) else fst1 p m (i + 1)) < ((i + (m + 1) : Nat) : Int))
    have := fst1_bd (p := p) m (i + 1)
    split <;> omega
/-- the saying heard as i-th isn't RIGHT where people stand so -/
def wrB (n : Nat) (ag C : Nat → Int) (Bg E : Nat → Nat) (H : FTab) (B : Nat → Nat → Bool) (i : Nat) : Bool :=
  decide ((rgt C Bg E n (nmv ag (H i 0).toNat (H i 1).toNat (H i 2).toNat (H i 3) (btw B (H i 1).toNat (H i 0).toNat) (btw B (H i 2).toNat (H i 0).toNat) (btw B (H i 2).toNat (H i 1).toNat)) : Int) ≠ H i 4)
def fwV (n : Nat) (ag C : Nat → Int) (Bg E : Nat → Nat) (H : FTab) (nh t : Nat) (B : Nat → Nat → Bool) : Int := fst1 (fun i => t.testBit i && wrB n ag C Bg E H B i) nh 0
theorem clm_bit {n : Nat} {s : Int} {ag C : Nat → Int} {Bg E : Nat → Nat} {a b c w : Nat} {row : Int} : ∀ k, (clm n s ag C Bg E a b c row k).testBit w = (decide (w < k) && (canw (decide (c = b)) w && decide ((rgt C Bg E n (nmv ag a b c s (wayH w) (wayT w) (wayB w)) : Int) = row)))
  | 0 => by
    show (0 : Nat).testBit w = _
    rw [Nat.zero_testBit, decide_eq_false (by omega), Bool.false_and]
  | k + 1 => by
    have ih := clm_bit (n := n) (s := s) (ag := ag) (C := C) (Bg := Bg) (E := E) (a := a) (b := b) (c := c) (w := w) (row := row) k
    rw [clm_step]
    by_cases e : w = k
    · subst e
      rw [decide_eq_false (by omega), Bool.false_and] at ih
      rw [decide_eq_true (show w < w + 1 by omega), Bool.true_and]
      split
      · next q => rw [Nat.testBit_or, ih, tb_one, q.1, decide_eq_true q.2]; simp
      · next q =>
        rw [ih]
        by_cases q1 : canw (decide (c = b)) w = true
        · rw [q1, decide_eq_false (fun z => q ⟨q1, z⟩)]; rfl
        · have : canw (decide (c = b)) w = false := by
            cases z : canw (decide (c = b)) w with
            | false => rfl
            | true => exact absurd z q1
          rw [this]; rfl
    · have hd : decide (w < k + 1) = decide (w < k) := by
        by_cases z : w < k
        · rw [decide_eq_true z, decide_eq_true (by omega)]
        · rw [decide_eq_false z, decide_eq_false (by omega)]
      rw [hd]
      split
      · rw [Nat.testBit_or, ih, tb_one, decide_eq_false (show ¬ k = w by omega), Bool.or_false]
      · exact ih
def bt2 (p q : Bool) : Int := if p = true then 1 else if q = true then -1 else 0
theorem canB_b : ∀ p1 p2 p3 p4 p5 p6 : Bool, ((!p1 || !p3 || p5) && (!p5 || !p4 || p1) && (!p2 || !p5 || p3) && (!p3 || !p6 || p2) && (!p6 || !p1 || p4) && (!p4 || !p2 || p6) && !(p1 && p2) && !(p3 && p4) && !(p5 && p6)) = true → canB (bt2 p3 p4) (bt2 p5 p6) (bt2 p1 p2) = true := by decide
theorem canB_tr {n : Nat} {B : Nat → Nat → Bool} {a b c : Nat} (hB : trans n B) (hir : ∀ a, B a a = false) (ha : a < n) (hb : b < n) (hc : c < n) : canB (btw B b a) (btw B c a) (btw B c b) = true := by
  have T : ∀ x y z, x < n → y < n → z < n → (!B x y || !B y z || B x z) = true := fun x y z hx hy hz => by
    cases h1 : B x y
    · rfl
    · cases h2 : B y z
      · rfl
      · rw [hB x hx y hy z hz h1 h2]; rfl
  have N : ∀ x y, x < n → y < n → (!(B x y && B y x)) = true := fun x y hx hy => by
    cases h1 : B x y
    · rfl
    · cases h2 : B y x
      · rfl
      · have := hB x hx y hy x hx h1 h2
        rw [hir] at this; cases this
  have := canB_b (B c b) (B b c) (B b a) (B a b) (B c a) (B a c) (by
    rw [T c b a hc hb ha, T c a b hc ha hb, T b c a hb hc ha, T b a c hb ha hc, T a c b ha hc hb, T a b c ha hb hc, N c b hc hb, N b a hb ha, N c a hc ha]; rfl)
  exact this
def wyN (h t b : Int) : Nat := (9 * (h + 1) + 3 * (t + 1) + b + 1).toNat
theorem wy_of {h t b : Int} (hh : -1 ≤ h ∧ h ≤ 1) (ht : -1 ≤ t ∧ t ≤ 1) (hb : -1 ≤ b ∧ b ≤ 1) : wyN h t b < 27 ∧ wayH (wyN h t b) = h ∧ wayT (wyN h t b) = t ∧ wayB (wyN h t b) = b := by
  unfold wyN wayH wayT wayB
  omega
/-- the bit of the way in which they stand -/
theorem clm_way {n pp : Nat} {s : Int} {ag C : Nat → Int} {Bg E : Nat → Nat} {a b c : Nat} {row : Int} {B : Nat → Nat → Bool} (hB : trans pp B) (hir : ∀ a, B a a = false) (ha : a < pp) (hb : b < pp) (hc : c < pp) :
    (clm n s ag C Bg E a b c row 27).testBit (wyN (btw B b a) (btw B c a) (btw B c b)) = decide ((rgt C Bg E n (nmv ag a b c s (btw B b a) (btw B c a) (btw B c b)) : Int) = row) := by
  obtain ⟨w1, w2, w3, w4⟩ := wy_of (btw_bd B b a) (btw_bd B c a) (btw_bd B c b)
  rw [clm_bit, decide_eq_true w1, Bool.true_and, w2, w3, w4]
  have hcan : canw (decide (c = b)) (wyN (btw B b a) (btw B c a) (btw B c b)) = true := by
    unfold canw
    rw [w2, w3, w4]
    by_cases e : c = b
    · subst e
      rw [decide_eq_true rfl, if_pos rfl, decide_eq_true ⟨rfl, btw_self (hir c)⟩]
    · rw [decide_eq_false e, if_neg (by decide)]
      exact canB_tr hB hir ha hb hc
  rw [hcan, Bool.true_and]
