/-! RISE in the class: the search -/
theorem s_numberOfC {r : Nat} {M : Mem} {P : Int → Mem → Prop} (h : P (lhm r : Int) M) : CI m1_numberOf 2 [(0, (sC r : Int))] M P := by
  have hw := wR_lt r
  apply q_1_numberOf
  apply s_seasonOfC
  unfold lhm at h
  refine loop_up (Inv := fun k M1 => M1 = M) (G := fun p M1 => A m1_numberOf 2 0 7 [(0, (sC r : Int)), (0, (nbR (plR r) (wR r) p : Int)), (0, (p : Int)), (2, 0), (2, 0)] [] M1 (Ki P)) 5 ?_ ?_ 0 M (by omega) rfl
  · rintro M1 rfl
    apply r_1_numberOf_7
    exact ⟨fun _ => h, fun q => by omega⟩
  · rintro p M1 hp rfl ih
    apply r_1_numberOf_7
    refine ⟨fun q => by omega, fun _ => ?_⟩
    rw [w_1 (i := p) (by omega)]
    have hnb := (nb_lt (x := plR r) hw p (by omega)).1
    have key : ∀ k M2, k ≤ 5 → (M2 = M1 ∧ p + 1 ≤ k) → A m1_numberOf 2 0 19 [(0, (sC r : Int)), (0, (nbR (plR r) (wR r) p : Int)), (0, (p : Int)), (0, (lwc (plR r) p k : Int)), (0, (k : Int))] [] M2 (Ki P) := by
      refine loop_up (Inv := fun k M2 => M2 = M1 ∧ p + 1 ≤ k) (G := fun k M2 => A m1_numberOf 2 0 19 [(0, (sC r : Int)), (0, (nbR (plR r) (wR r) p : Int)), (0, (p : Int)), (0, (lwc (plR r) p k : Int)), (0, (k : Int))] [] M2 (Ki P)) 5 ?_ ?_
      · rintro M2 ⟨rfl, _⟩
        have hl := lwc_le (x := plR r) (p := p) 5
        have e : w32 (w32 ((nbR (plR r) (wR r) p : Int) * w32 (5 - (p : Int))) + (lwc (plR r) p 5 : Int)) = (nbR (plR r) (wR r) (p + 1) : Int) := by
          have hmul : nbR (plR r) (wR r) p * (5 - p) ≤ 480 * 5 := Nat.mul_le_mul (by omega) (by omega)
          rw [w32_id (z := 5 - (p : Int)) (by omega) (by omega), show (5 - (p : Int)) = ((5 - p : Nat) : Int) by omega]
          show w32 (w32 ((nbR (plR r) (wR r) p : Int) * ((5 - p : Nat) : Int)) + _) = ((nbR (plR r) (wR r) p * (5 - p) + lwc (plR r) p 5 : Nat) : Int)
          rw [← Int.natCast_mul]
          generalize nbR (plR r) (wR r) p * (5 - p) = z at hmul ⊢
          rw [w32_id (z := (z : Int)) (by omega) (by omega), w32_id (by omega) (by omega)]
          omega
        apply r_1_numberOf_19
        rw [e, w_1 (i := p) (by omega)]
        exact ⟨fun _ => ih M2 rfl, fun q => by omega⟩
      · rintro k M2 hk ⟨rfl, hpk⟩ ih2
        have hl := lwc_le (x := plR r) (p := p) k
        have ih2 := ih2 M2 ⟨rfl, by omega⟩
        rw [lwc_step] at ih2
        apply r_1_numberOf_19
        refine ⟨fun q => by omega, fun _ => ?_⟩
        apply s_placeOfC hk
        apply s_placeOfC hp
        rw [w_1 (i := k) (by omega), w_1 (i := lwc (plR r) p k) (by omega)]
        refine ⟨fun q => ?_, fun q => ?_⟩
        · rw [if_neg (by omega)] at ih2; exact ih2
        · rw [if_pos (by omega)] at ih2; exact ih2
    have := key (p + 1) M1 (by omega) ⟨rfl, by omega⟩
    rw [lwc_0 (p + 1) (by omega)] at this
    exact this
theorem s_changed {c r h : Nat} {M : Mem} {P : Int → Mem → Prop} (hK : M 52 9 = (c : Int)) (hc : c < 5) (hh : h < 5) (hne : h ≠ c) (hP : P (sC (chg r c h) : Int) M) : CI m1_changed 2 [(11, ((52 : Nat) : Int)), (0, (sC r : Int)), (0, (h : Int))] M P := by
  have hs := sC_lt r
  have hw := wR_lt r
  have pc := plR_lt r c
  have ph := plR_lt r h
  have ht : plR r c ^^^ plR r h < 8 := Nat.xor_lt_two_pow (n := 3) (by omega) (by omega)
  apply q_1_changed
  rw [hK]
  apply s_placeOfC hc
  apply s_placeOfC hh
  apply s_seasonOfC
  rw [hK]
  have e1 : iand (sC r : Int) 32767 = ((sC r &&& 32767 : Nat) : Int) := iand_n (b := 32767) (by omega)
  have e2 : ixor (plR r c : Int) (plR r h : Int) = ((plR r c ^^^ plR r h : Nat) : Int) := ixor_n (by omega) (by omega)
  have e3 : ∀ p : Nat, p < 5 → w32 (3 * (p : Int)) = ((3 * p : Nat) : Int) := fun p hp => by rw [w32_id (by omega) (by omega)]; omega
  have e4 : ∀ p : Nat, p < 5 → ishl ((plR r c ^^^ plR r h : Nat) : Int) ((3 * p : Nat) : Int) = (((plR r c ^^^ plR r h) <<< (3 * p) : Nat) : Int) ∧ (plR r c ^^^ plR r h) <<< (3 * p) < 8 ^ 5 := fun p hp => by
    have h1 := sh_lt (p := plR r c ^^^ plR r h) (j := p) (n := 5) ht hp
    refine ⟨ishl_n (by omega) ?_, h1⟩
    rw [← Nat.shiftLeft_eq]
    have : (8 : Nat) ^ 5 = 32768 := by decide
    omega
  obtain ⟨c1, c2⟩ := e4 c hc
  obtain ⟨d1, d2⟩ := e4 h hh
  have e8 : (8 : Nat) ^ 5 = 32768 := by decide
  have e5 : w32 (Int.tmod (w32 ((wR r : Int) + 1)) 4) = (((wR r + 1) % 4 : Nat) : Int) := by
    rw [w_1 (i := wR r) (by omega)]
    show w32 (((wR r + 1) % 4 : Nat) : Int) = _
    rw [w32_id (by omega) (by omega)]
  have w4 : (wR r + 1) % 4 < 4 := Nat.mod_lt _ (by decide)
  have e67 : ∀ u : Nat, u < 4 → ishl (u : Int) 15 = ((u <<< 15 : Nat) : Int) ∧ u <<< 15 < 2147483648 := by decide +kernel
  obtain ⟨e6, h15⟩ := e67 _ w4
  have hor := or_lt8 c2 d2
  have hand : sC r &&& 32767 < 8 ^ 5 := by
    rw [show (32767 : Nat) = 2 ^ 15 - 1 from rfl, Nat.and_two_pow_sub_one_eq_mod]
    show _ % 32768 < 32768
    omega
  have hx : (sC r &&& 32767) ^^^ (((plR r c ^^^ plR r h) <<< (3 * c)) ||| ((plR r c ^^^ plR r h) <<< (3 * h))) < 8 ^ 5 := by
    rw [show (8 : Nat) ^ 5 = 2 ^ 15 from rfl] at hand hor ⊢
    exact Nat.xor_lt_two_pow hand hor
  rw [e1, e2, e3 c hc, e3 h hh, c1, d1, e5, e6, ior_n (by omega) (by omega), ixor_n (by omega) (by omega), ior_n (by omega) h15, sC_chg hc hh hne]
  exact hP
theorem inX_congr {k k' : Nat → Nat} {r : Nat} : ∀ m, (∀ i, i < m → k i = k' i) → inX k m r = inX k' m r
  | 0, _ => rfl
  | m + 1, h => by
    show (inX k m r || decide (k m = r)) = (inX k' m r || decide (k' m = r))
    rw [inX_congr m (fun i hi => h i (by omega)), h m (by omega)]
/-- the class's tables hold what was met -/
def RC (M : Mem) (X : Xs) : Prop := M 52 6 = (X.1 : Int) ∧ (∀ i, i < X.1 → M 54 i = (sC (X.2.1 i) : Int) ∧ M 55 i = (if i = 0 then -1 else (X.2.2.1 i : Int)) ∧ M 56 i = (if i = 0 then -1 else (X.2.2.2 i : Int))) ∧ ∀ j, j < 480 → M 57 j = ((inX (fun i => lhm (X.2.1 i)) X.1 j).toNat : Int)
def clset (k j : Nat) : Prop := (k = 52 ∧ j = 6) ∨ k = 29 ∨ (54 ≤ k ∧ k ≤ 58)
theorem s_addC {X : Xs} {r o h : Nat} {oi hi : Int} {M : Mem} {P : Mem → Prop} (hR : RC M X) (hv : ∀ i, i < X.1 → vR (X.2.1 i)) (hr : vR r) (hle : (adX X r o h).1 ≤ 480) (hoi : oi = if X.1 = 0 then -1 else (o : Int)) (hhi : hi = if X.1 = 0 then -1 else (h : Int))
    (hP : ∀ M', Fp clset M M' → RC M' (adX X r o h) → P M') : CD m1_add 3 [(11, ((52 : Nat) : Int)), (0, (sC r : Int)), (0, oi), (0, hi)] M P := by
  have a5 : ((aln 54 : Nat) : Int) = 480 ∧ ((aln 55 : Nat) : Int) = 480 ∧ ((aln 56 : Nat) : Int) = 480 := by decide
  have hl := lhm_lt r
  obtain ⟨c1, c2, c3⟩ := hR
  have hmet : inX (fun i => lhm (X.2.1 i)) X.1 (lhm r) = inX X.2.1 X.1 r := by
    rw [Bool.eq_iff_iff, inX_iff, inX_iff]
    constructor
    · rintro ⟨i, hi, e⟩
      exact ⟨i, hi, lhm_inj (hv i hi) hr e⟩
    · rintro ⟨i, hi, e⟩
      exact ⟨i, hi, by rw [e]⟩
  apply q_1_add
  apply s_numberOfC
  rw [Int.toNat_natCast, c3 _ hl, hmet]
  refine ⟨fun q => by omega, fun _ => ⟨fun q => by omega, fun _ => ⟨by omega, fun q => ⟨by omega, ?_⟩, fun q => ?_⟩⟩⟩
  · have hno : ¬ inX X.2.1 X.1 r = true := by rw [tn0 q]; decide
    rw [adX_new hno] at hle hP
    have hle : X.1 + 1 ≤ 480 := hle
    rw [mset_k (by decide), c1]
    apply s_put (by omega) (by omega)
    rw [mset_k (by decide), mset_k (by decide), c1]
    apply s_put (by omega) (by omega)
    rw [mset_k (by decide), mset_k (by decide), mset_k (by decide), c1]
    apply s_put (by omega) (by omega)
    rw [mset_k (by decide), mset_k (by decide), mset_k (by decide), mset_k (by decide), c1, w_1 (i := X.1) (by omega), Int.toNat_natCast]
    refine hP _ (((((Fp.rf.set (Or.inr (Or.inr ⟨by omega, by omega⟩))).set (Or.inr (Or.inr ⟨by omega, by omega⟩))).set (Or.inr (Or.inr ⟨by omega, by omega⟩))).set (Or.inr (Or.inr ⟨by omega, by omega⟩))).set (Or.inl ⟨rfl, rfl⟩)) ⟨mset_s, fun i hi' => ?_, fun j hj => ?_⟩
    · have hi' : i < X.1 + 1 := hi'
      show _ = (sC (udg X.2.1 X.1 r i) : Int) ∧ _ = (if i = 0 then -1 else (udg X.2.2.1 X.1 o i : Int)) ∧ _ = (if i = 0 then -1 else (udg X.2.2.2 X.1 h i : Int))
      by_cases z : i = X.1
      · subst z
        rw [udg_s, udg_s, udg_s, ← hoi, ← hhi]
        simp [mset]
      · rw [udg_o z, udg_o z, udg_o z]
        simp [mset, z]
        exact c2 i (by omega)
    · show _ = (((inX (fun i => lhm (udg X.2.1 X.1 r i)) X.1 j || decide (lhm (udg X.2.1 X.1 r X.1) = j)).toNat : Nat) : Int)
      rw [inX_congr (k' := fun i => lhm (X.2.1 i)) X.1 (fun i hi => by show lhm (udg X.2.1 X.1 r i) = _; rw [udg_o (by omega)]), udg_s]
      rw [mset_k (by decide), mset_k (by decide), mset_k (by decide), mset_k (by decide)]
      by_cases z : j = lhm r
      · subst z
        rw [mset_s, decide_eq_true rfl, Bool.or_true]; rfl
      · rw [mset_j z, decide_eq_false (fun e => z e.symm), Bool.or_false]
        exact c3 j hj
  · have hin := tn1 q
    rw [adX_in hin] at hP
    exact hP M Fp.rf ⟨c1, c2, c3⟩
