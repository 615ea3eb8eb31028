/-! what a row claims -/
def clm (n : Nat) (s : Int) (ag C : Nat → Int) (Bg E : Nat → Nat) (a b c : Nat) (row : Int) : Nat → Nat
  | 0 => 0
  | k + 1 => if canw (decide (c = b)) k = true ∧ (rgt C Bg E n (nmv ag a b c s (wayH k) (wayT k) (wayB k)) : Int) = row then clm n s ag C Bg E a b c row k ||| (1 <<< k) else clm n s ag C Bg E a b c row k
theorem clm_step {n : Nat} {s : Int} {ag C : Nat → Int} {Bg E : Nat → Nat} {a b c : Nat} {row : Int} {k : Nat} : clm n s ag C Bg E a b c row (k + 1) = if canw (decide (c = b)) k = true ∧ (rgt C Bg E n (nmv ag a b c s (wayH k) (wayT k) (wayB k)) : Int) = row then clm n s ag C Bg E a b c row k ||| (1 <<< k) else clm n s ag C Bg E a b c row k := rfl
theorem clm_lt {n : Nat} {s : Int} {ag C : Nat → Int} {Bg E : Nat → Nat} {a b c : Nat} {row : Int} : ∀ k, clm n s ag C Bg E a b c row k < 2 ^ k
  | 0 => by unfold clm; decide
  | k + 1 => by
    have ih := clm_lt (n := n) (s := s) (ag := ag) (C := C) (Bg := Bg) (E := E) (a := a) (b := b) (c := c) (row := row) k
    have h2 : 2 ^ k < 2 ^ (k + 1) := Nat.pow_lt_pow_right (by decide) (by omega)
    rw [clm_step]
    split
    · exact Nat.or_lt_two_pow (by omega) (by rw [Nat.shiftLeft_eq, Nat.one_mul]; exact h2)
    · omega
theorem clm_or {n : Nat} {s : Int} {ag C : Nat → Int} {Bg E : Nat → Nat} {a b c : Nat} {row : Int} {k : Nat} (hk : k < 27) : ior (clm n s ag C Bg E a b c row k : Int) (ishl 1 (k : Int)) = ((clm n s ag C Bg E a b c row k ||| (1 <<< k) : Nat) : Int) := by
  have h1 := clm_lt (n := n) (s := s) (ag := ag) (C := C) (Bg := Bg) (E := E) (a := a) (b := b) (c := c) (row := row) k
  have h2 : 2 ^ k < 2 ^ 27 := Nat.pow_lt_pow_right (by decide) hk
  have e : ishl 1 (k : Int) = ((1 <<< k : Nat) : Int) := ishl_n (a := 1) (by omega) (by rw [Nat.one_mul]; omega)
  rw [e, ior_n (by omega) (by rw [Nat.shiftLeft_eq, Nat.one_mul]; omega)]
theorem bi_dec (p : Prop) [Decidable p] : bi (decide p = true) = bi p := by
  by_cases q : p
  · rw [bi_t q, bi_t (decide_eq_true q)]
  · rw [bi_f q, bi_f (by simpa using q)]
theorem s_claimed {n : Nat} {s : Int} {ag C : Nat → Int} {Bg E : Nat → Nat} {a b c : Nat} {row : Int} {M : Mem} {P : Int → Mem → Prop} (hb : Bk M 21 n C Bg E) (hs : -10 ≤ s ∧ s ≤ 10) (hN : ∀ i, 3 ≤ i → i < 8 → M 40 i = nmv ag a b c s 0 0 0 i)
    (h : ∀ M', Fp csp M M' → P (clm n s ag C Bg E a b c row 27 : Int) M') : CI m9_claimed 6 [(18, ((39 : Nat) : Int)), (10, ((21 : Nat) : Int)), (0, row)] M P := by
  apply q_9_claimed
  refine loop_up (Inv := fun _ M1 => Fp csp M M1 ∧ ∀ i, 3 ≤ i → i < 8 → M1 40 i = nmv ag a b c s 0 0 0 i) (G := fun k M1 => A m9_claimed 6 0 5 [(18, ((39 : Nat) : Int)), (10, ((21 : Nat) : Int)), (0, row), (0, (clm n s ag C Bg E a b c row k : Int)), (0, (k : Int))] [] M1 (Ki P)) 27 ?_ ?_ 0 M (Nat.zero_le _) ⟨Fp.rf, hN⟩
  · rintro M1 ⟨hF, _⟩
    apply r_9_claimed_5
    exact ⟨fun _ => h M1 hF, fun q => by omega⟩
  · rintro k M1 hk ⟨hF, hN1⟩ ih
    apply r_9_claimed_5
    refine ⟨fun q => by omega, fun _ => ?_⟩
    rw [w_1 (by omega)]
    rw [clm_step] at ih
    apply s_standByWay (self := decide (c = b)) hk (by rw [hN1 6 (by omega) (by omega), bi_dec]; rfl)
    intro M2 hF2 x0 x1 x2
    have hF3 : Fp csp M M2 := hF.tr (hF2.mono (fun k j q => by unfold wset at q; unfold csp cs; omega))
    have hN2 : ∀ i, 3 ≤ i → i < 8 → M2 40 i = nmv ag a b c s 0 0 0 i := fun i h1 h2 => by rw [hF2 40 i (by unfold wset; omega)]; exact hN1 i h1 h2
    refine ⟨fun q => ?_, fun q => ?_⟩
    · rw [if_neg (fun z => bi_eq q z.1)] at ih
      exact ih M2 ⟨hF3, hN2⟩
    · have hb2 : Bk M2 21 n C Bg E := by
        obtain ⟨y1, y2, y3, y4, y5, y6, y7⟩ := hb
        have e : ∀ k, 21 ≤ k ∧ k ≤ 28 → M2 k = M k := fun k hk => hF3.row (fun j => by unfold csp cs; omega)
        exact ⟨y1, y2, by rw [e 21 (by omega)]; exact y3, by rw [e 26 (by omega)]; exact y4, by rw [e 27 (by omega)]; exact y5, by rw [e 28 (by omega)]; exact y6, y7⟩
      obtain ⟨b1, b2, b3⟩ := way_bd hk
      apply s_rightS hb2 (N := nmv ag a b c s (wayH k) (wayT k) (wayB k)) (fun i hi => ?_) (nmv_ok hs b1 b2 b3)
      · intro M3 hF4
        have hF5 : Fp csp M M3 := hF3.tr (rset_cs hF4)
        have hN3 : ∀ i, 3 ≤ i → i < 8 → M3 40 i = nmv ag a b c s 0 0 0 i := fun i h1 h2 => by rw [hF4 40 (by unfold rset; omega)]; exact hN2 i h1 h2
        refine ⟨fun q1 => ?_, fun q1 => ?_⟩
        · rw [if_neg (fun z => q1 z.2)] at ih
          exact ih M3 ⟨hF5, hN3⟩
        · rw [if_pos ⟨bi_ne q, q1⟩] at ih
          rw [clm_or hk]
          exact ih M3 ⟨hF5, hN3⟩
      · match i, hi with
        | 0, _ => exact x0
        | 1, _ => exact x1
        | 2, _ => exact x2
        | 3, _ => exact hN2 3 (by omega) (by omega)
        | 4, _ => exact hN2 4 (by omega) (by omega)
        | 5, _ => exact hN2 5 (by omega) (by omega)
        | 6, _ => exact hN2 6 (by omega) (by omega)
        | 7, _ => exact hN2 7 (by omega) (by omega)
theorem clm_ag {n : Nat} {s : Int} {ag ag' C : Nat → Int} {Bg E : Nat → Nat} {a b c : Nat} {row : Int} (h1 : ag a = ag' a) (h2 : ag b = ag' b) (h3 : ag c = ag' c) : ∀ k, clm n s ag C Bg E a b c row k = clm n s ag' C Bg E a b c row k
  | 0 => rfl
  | k + 1 => by rw [clm_step, clm_step, clm_ag h1 h2 h3 k, nmv_ag h1 h2 h3]
def clmV (pp n : Nat) (s : Int) (ag C : Nat → Int) (Bg E : Nat → Nat) (a b c row : Int) : Int :=
  if isSay pp a b c ∧ rowB n row = true then (clm n s ag C Bg E a.toNat b.toNat c.toNat row 27 : Int) else -1
theorem s_claims {pp n nf : Nat} {s : Int} {F : FTab} {ag C : Nat → Int} {Bg E : Nat → Nat} {M : Mem} {P : Int → Mem → Prop} {a b c x : Int} (hS : SC M pp n s nf F ag C Bg E) (hf : SF pp s nf F)
    (h : ∀ M', Fp csp M M' → P (clmV pp n s ag C Bg E a b c x) M') : CI m10_claims 7 [(19, ((0 : Nat) : Int)), (0, a), (0, b), (0, c), (0, x)] M P := by
  have hn := hS.2.2.1.2.2.1
  have hn6 := hS.2.2.1.2.1
  unfold clmV at h
  apply q_10_claims
  apply s_isSaying hS.1
  refine ⟨fun q => ?_, fun q => ?_⟩
  · rw [if_neg (fun z => bi_eq q z.1)] at h; exact h M Fp.rf
  · rw [hn]
    apply s_isRow hn6
    refine ⟨fun q1 => ?_, fun q1 => ?_⟩
    · have hb := bi_ne q1
      rw [if_pos ⟨bi_ne q, hb⟩] at h
      obtain ⟨a', b', c', rfl, rfl, rfl, ha, hb, hc, _, _⟩ := say_nat (bi_ne q)
      simp only [Int.toNat_natCast] at h
      apply s_meetNow hS hf ha hb hc
      intro M1 hF hN
      have hS1 := hS.fp hF (fun k j hk => Or.inl hk)
      refine s_claimed (n := n) (C := C) (Bg := Bg) (E := E) (ag := ag) (a := a') (b := b') (c := c') (s := s) hS1.2.2.1 (by have := hf.2.1; omega) (fun i hi1 hi2 => ?_) (fun M2 hF2 => h M2 (hF.tr hF2))
      rw [hN i hi2]
      match i, hi1, hi2 with
      | 3, _, _ => rfl
      | 4, _, _ => rfl
      | 5, _, _ => rfl
      | 6, _, _ => rfl
      | 7, _, _ => rfl
    · rw [if_neg (fun z => bi_eq q1 z.2)] at h; exact h M Fp.rf
theorem s_claims_r {pp n nf : Nat} {s : Int} {F : FTab} {ag C : Nat → Int} {Bg E : Nat → Nat} {M : Mem} {P : Int → Mem → Prop} {a b c x : Int} (hS : SR M pp n s nf F ag C Bg E) (hf : SF pp s nf F)
    (h : ∀ M', Fp rs (mset M 59 0 0) M' → P (clmV pp n s ag C Bg E a b c x) M') : CI m11_claims 6 [(20, ((59 : Nat) : Int)), (0, a), (0, b), (0, c), (0, x)] M P := by
  have h5 := hf.1
  have hS0 := hS.th (v := 0)
  have hn := hS0.2.2.1.2.1
  have hn6 := hS0.2.2.1.1
  unfold clmV at h
  apply q_11_claims
  apply s_isSaid hS0.1 hn6 hn
  refine ⟨fun q => ?_, fun q => ?_⟩
  · have hq := bi_ne q
    rw [if_pos hq] at h
    obtain ⟨a', b', c', rfl, rfl, rfl, ha, hb, hc, _, _⟩ := say_nat hq.1
    simp only [Int.toNat_natCast] at h
    refine loop_up (Inv := fun _ M1 => Fp rs (mset M 59 0 0) M1) (G := fun k M1 => A m11_claims 6 0 25 [(20, ((59 : Nat) : Int)), (0, (a' : Int)), (0, (b' : Int)), (0, (c' : Int)), (0, x), (0, (clm n s ag C Bg E a' b' c' x k : Int)), (0, (k : Int))] [] M1 (Ki P)) 27 ?_ ?_ 0 _ (Nat.zero_le _) Fp.rf
    · intro M1 hF
      apply r_11_claims_25
      exact ⟨fun _ => h M1 hF, fun q => by omega⟩
    · intro k M1 hk hF ih
      have hS1 := hS0.rs hF
      rw [clm_step] at ih
      have hag := hS1.2.2.2.1
      have blk : ∀ x1 : Int, x1 = bi (decide (c' = b') = true) → CI m11_isWay 2 [(0, (k : Int)), (0, x1)] M1 (fun r7 M8 => ((r7 = 0 → A m11_claims 6 0 25 [(20, ((59 : Nat) : Int)), (0, (a' : Int)), (0, (b' : Int)), (0, (c' : Int)), (0, x), (0, (clm n s ag C Bg E a' b' c' x k : Int)), (0, ((k + 1 : Nat) : Int))] [] M8 (Ki P)) ∧ (r7 ≠ 0 → (CI m11_rightBy 5 [(20, ((59 : Nat) : Int)), (0, (a' : Int)), (0, (b' : Int)), (0, (c' : Int)), (0, (k : Int))] M8 (fun r13 M14 => ((r13 ≠ x → A m11_claims 6 0 25 [(20, ((59 : Nat) : Int)), (0, (a' : Int)), (0, (b' : Int)), (0, (c' : Int)), (0, x), (0, (clm n s ag C Bg E a' b' c' x k : Int)), (0, ((k + 1 : Nat) : Int))] [] M14 (Ki P)) ∧ (r13 = x → A m11_claims 6 0 25 [(20, ((59 : Nat) : Int)), (0, (a' : Int)), (0, (b' : Int)), (0, (c' : Int)), (0, x), (0, (ior (clm n s ag C Bg E a' b' c' x k : Int) (ishl 1 (k : Int)))), (0, ((k + 1 : Nat) : Int))] [] M14 (Ki P)))))))) := by
        intro x1 hx1
        apply s_isWay (self := decide (c' = b')) hk hx1
        refine ⟨fun q1 => ?_, fun q1 => ?_⟩
        · rw [if_neg (fun z => bi_eq q1 z.1)] at ih
          exact ih M1 hF
        · apply s_rightBy hS1.2.2.1 (by omega) (by omega) (by omega) (by rw [hS1.2.1]; have := hf.2.1; omega) hk
          intro M2 hF2
          have hF3 := hF.tr (rrset_rs hF2)
          rw [hS1.2.1, nmv_ag (hag a' ha) (hag b' hb) (hag c' hc)]
          refine ⟨fun q2 => ?_, fun q2 => ?_⟩
          · rw [if_neg (fun z => q2 z.2)] at ih
            exact ih M2 hF3
          · rw [if_pos ⟨bi_ne q1, q2⟩] at ih
            rw [clm_or hk]
            exact ih M2 hF3
      apply r_11_claims_25
      rw [w_1 (by omega)]
      refine ⟨fun q => by omega, fun _ => ⟨fun q2 => blk 0 ?_, fun q2 => blk 1 ?_⟩⟩
      · rw [bi_dec, bi_f (by omega)]
      · rw [bi_dec, bi_t (by omega)]
  · rw [if_neg (bi_eq q)] at h; exact h _ Fp.rf
