/-! silence -/
def silV (pp n : Nat) (s : Int) (nf : Nat) (F : FTab) (ag C : Nat → Int) (Bg E : Nat → Nat) (a b c x : Int) : Int :=
  if isSay pp a b c ∧ (0 ≤ x ∧ x ≤ 1) then (if silB pp n s nf F ag C Bg E a.toNat b.toNat c.toNat = -1 then -2 else if x = 0 then (pcn (silB pp n s nf F ag C Bg E a.toNat b.toNat c.toNat).toNat : Int) else silB pp n s nf F ag C Bg E a.toNat b.toNat c.toNat) else -1
theorem s_silence {pp n nf : Nat} {s : Int} {F : FTab} {ag C : Nat → Int} {Bg E : Nat → Nat} {M : Mem} {P : Int → Mem → Prop} {a b c x : Int} (hS : SC M pp n s nf F ag C Bg E) (hf : SF pp s nf F)
    (h : ∀ M', Fp csp M M' → P (silV pp n s nf F ag C Bg E a b c x) M') : CI m10_silence 7 [(19, ((0 : Nat) : Int)), (0, a), (0, b), (0, c), (0, x)] M P := by
  have hn6 := hS.2.2.1.2.1
  have e2 := (shl1 n hn6).2
  unfold silV at h
  have no : ¬ (isSay pp a b c ∧ (0 ≤ x ∧ x ≤ 1)) → P (-1) M := fun q => by have := h M Fp.rf; rwa [if_neg q] at this
  apply q_10_silence
  apply s_isSaying hS.1
  refine ⟨fun q => no (fun z => bi_eq q z.1), fun q => ⟨fun q1 => no (fun z => by omega), fun q1 => ⟨fun q2 => ?_, fun q2 => no (fun z => by omega)⟩⟩⟩
  rw [if_pos ⟨bi_ne q, q1, q2⟩] at h
  obtain ⟨a', b', c', rfl, rfl, rfl, ha, hb, hc, _, _⟩ := say_nat (bi_ne q)
  simp only [Int.toNat_natCast] at h
  apply s_meetNow hS hf ha hb hc
  intro M1 hF1 hN
  have hS1 := hS.fp hF1 (fun k j hk => Or.inl hk)
  apply s_fewestLeft hS1 hf hN
  intro M2 hF2
  have h2 := h M2 (hF1.tr hF2)
  have hbd : -1 ≤ silB pp n s nf F ag C Bg E a' b' c' ∧ silB pp n s nf F ag C Bg E a' b' c' < (2 ^ n : Nat) := bst_bd _
  generalize silB pp n s nf F ag C Bg E a' b' c' = v at h2 hbd ⊢
  refine ⟨fun z => ⟨fun z1 => ?_, fun z1 => ?_⟩, fun z => ?_⟩
  · rwa [if_neg z, if_neg z1] at h2
  · obtain ⟨vn, rfl⟩ : ∃ vn : Nat, v = (vn : Int) := ⟨v.toNat, by omega⟩
    rw [if_neg z, if_pos z1, Int.toNat_natCast] at h2
    exact s_bitCount (by omega) h2
  · rwa [if_pos z] at h2
theorem anyW_mono {f : Nat → Bool} {k : Nat} : ∀ {m : Nat}, k ≤ m → anyW f k = true → anyW f m = true
  | 0, h, q => by have : k = 0 := by omega
                  subst this; exact q
  | m + 1, h, q => by
    by_cases e : k = m + 1
    · subst e; exact q
    · rw [anyW_step, anyW_mono (by omega) q]; rfl
theorem s_isCivil {pp n nf : Nat} {s h t : Int} {F : FTab} {ag C : Nat → Int} {Bg E : Nat → Nat} {M : Mem} {P : Int → Mem → Prop} {a b c right mask : Nat} (hS : SR M pp n s nf F ag C Bg E) (hf : SF pp s nf F) (ha : a < pp) (hb : b < pp) (hc : c < pp) (hr : pm n right) (hm : mask < 2147483648)
    (hp : ∀ M', Fp rs M M' → P (bi (anyW (badW (decide (c = b)) h t n right (rwW n s ag C Bg E a b c) mask) 27 = false)) M') : CI m11_isCivil 6 [(20, ((59 : Nat) : Int)), (0, (mask : Int)), (0, (a : Int)), (0, (b : Int)), (0, (c : Int)), (0, (right : Int)), (0, h), (0, t)] M P := by
  have h5 := hf.1
  apply q_11_isCivil
  refine loop_up (Inv := fun k M1 => Fp rs M M1 ∧ anyW (badW (decide (c = b)) h t n right (rwW n s ag C Bg E a b c) mask) k = false) (G := fun k M1 => A m11_isCivil 6 0 3 [(20, ((59 : Nat) : Int)), (0, (mask : Int)), (0, (a : Int)), (0, (b : Int)), (0, (c : Int)), (0, (right : Int)), (0, h), (0, t), (0, (k : Int))] [] M1 (Ki P)) 27 ?_ ?_ 0 M (Nat.zero_le _) ⟨Fp.rf, rfl⟩
  · rintro M1 ⟨hF, hw⟩
    apply r_11_isCivil_3
    refine ⟨fun _ => ?_, fun q => by omega⟩
    have := hp M1 hF
    rwa [bi_t hw] at this
  · rintro k M1 hk ⟨hF, hw⟩ ih
    have hS1 := hS.rs hF
    have hag := hS1.2.2.2.1
    obtain ⟨w1, w2, _⟩ := way_of k hk
    have good : ∀ M2, Fp rs M M2 → badW (decide (c = b)) h t n right (rwW n s ag C Bg E a b c) mask k = false → A m11_isCivil 6 0 3 [(20, ((59 : Nat) : Int)), (0, (mask : Int)), (0, (a : Int)), (0, (b : Int)), (0, (c : Int)), (0, (right : Int)), (0, h), (0, t), (0, ((k + 1 : Nat) : Int))] [] M2 (Ki P) := fun M2 hM hb => ih M2 ⟨hM, by rw [anyW_step, hw, hb]; rfl⟩
    have bad : ∀ M2, Fp rs M M2 → badW (decide (c = b)) h t n right (rwW n s ag C Bg E a b c) mask k = true → P 0 M2 := fun M2 hM hb => by
      have := hp M2 hM
      have ha : anyW (badW (decide (c = b)) h t n right (rwW n s ag C Bg E a b c) mask) 27 = true := anyW_mono (k := k + 1) (by omega) (by rw [anyW_step, hb, Bool.or_true])
      rw [ha, bi_f (by decide)] at this
      exact this
    -- the way's row and what stays
    have stay : canw (decide (c = b)) k = true → (wayH k < h ∨ wayT k < t) → CI m11_rightBy 5 [(20, ((59 : Nat) : Int)), (0, (a : Int)), (0, (b : Int)), (0, (c : Int)), (0, (k : Int))] M1 (fun r16 M17 => (CI m11_stays 3 [(20, ((59 : Nat) : Int)), (0, (mask : Int)), (0, (right : Int)), (0, r16)] M17 (fun r19 M20 => ((r19 = 0 → A m11_isCivil 6 0 3 [(20, ((59 : Nat) : Int)), (0, (mask : Int)), (0, (a : Int)), (0, (b : Int)), (0, (c : Int)), (0, (right : Int)), (0, h), (0, t), (0, ((k + 1 : Nat) : Int))] [] M20 (Ki P)) ∧ (r19 ≠ 0 → (P 0 M20)))))) := by
      intro hcw hl
      have hlow : low (decide (c = b)) h t k = true := by
        unfold low
        rw [hcw, Bool.and_true]
        simpa using hl
      apply s_rightBy hS1.2.2.1 (by omega) (by omega) (by omega) (by rw [hS1.2.1]; have := hf.2.1; omega) hk
      intro M2 hF2
      have hF3 := hF.tr (rrset_rs hF2)
      rw [hS1.2.1, nmv_ag (hag a ha) (hag b hb) (hag c hc)]
      have hS2 := hS.rs hF3
      apply s_stays hr (rgt_pm hS2.2.2.1.1) hm hS2.2.2.1.2.1
      refine ⟨fun q => good M2 hF3 ?_, fun q => bad M2 hF3 ?_⟩
      · unfold badW
        rw [hlow, Bool.true_and]
        exact decide_eq_false (bi_eq q)
      · unfold badW
        rw [hlow, Bool.true_and]
        exact decide_eq_true (bi_ne q)
    have nolow : ¬ (wayH k < h ∨ wayT k < t) → badW (decide (c = b)) h t n right (rwW n s ag C Bg E a b c) mask k = false := fun q => by
      unfold badW low
      rw [decide_eq_false (fun z => q (Or.inl z)), decide_eq_false (fun z => q (Or.inr z))]; simp
    have nocan : ¬ canw (decide (c = b)) k = true → badW (decide (c = b)) h t n right (rwW n s ag C Bg E a b c) mask k = false := fun q => by
      unfold badW low
      have : canw (decide (c = b)) k = false := by simpa using q
      rw [this]; simp
    apply r_11_isCivil_3
    rw [w1, w2, w_1 (by omega)]
    refine ⟨fun q => by omega, fun _ => ⟨fun q => ?_, fun q => ?_⟩⟩
    · apply s_isWay (self := decide (c = b)) hk (by rw [bi_dec, bi_f (by omega)])
      exact ⟨fun z => good M1 hF (nocan (bi_eq z)), fun z => ⟨fun z1 => stay (bi_ne z) (Or.inl z1), fun z1 => ⟨fun z2 => stay (bi_ne z) (Or.inr z2), fun z2 => good M1 hF (nolow (by omega))⟩⟩⟩
    · apply s_isWay (self := decide (c = b)) hk (by rw [bi_dec, bi_t (by omega)])
      exact ⟨fun z => good M1 hF (nocan (bi_eq z)), fun z => ⟨fun z1 => stay (bi_ne z) (Or.inl z1), fun z1 => ⟨fun z2 => stay (bi_ne z) (Or.inr z2), fun z2 => good M1 hF (nolow (by omega))⟩⟩⟩
theorem s_silence_r {pp n nf : Nat} {s : Int} {F : FTab} {ag C : Nat → Int} {Bg E : Nat → Nat} {M : Mem} {P : Int → Mem → Prop} {a b c x : Int} (hS : SR M pp n s nf F ag C Bg E) (hf : SF pp s nf F)
    (h : ∀ M', Fp rs (mset M 59 0 0) M' → P (silV pp n s nf F ag C Bg E a b c x) M') : CI m11_silence 7 [(20, ((59 : Nat) : Int)), (0, a), (0, b), (0, c), (0, x)] M P := by
  have h5 := hf.1
  have hS0 := hS.th (v := 0)
  have hn6 := hS0.2.2.1.1
  obtain ⟨e1, e2⟩ := shl1 n hn6
  apply q_11_silence
  generalize mset M 59 0 0 = M0 at hS0 h ⊢
  unfold silV at h
  have no : ¬ (isSay pp a b c ∧ (0 ≤ x ∧ x ≤ 1)) → P (-1) M0 := fun q => by have := h M0 Fp.rf; rwa [if_neg q] at this
  apply s_isSaying_r hS0.1
  refine ⟨fun q => no (fun z => bi_eq q z.1), fun q => ⟨fun q1 => no (fun z => by omega), fun q1 => ⟨fun q2 => ?_, fun q2 => no (fun z => by omega)⟩⟩⟩
  rw [if_pos ⟨bi_ne q, q1, q2⟩] at h
  obtain ⟨a', b', c', rfl, rfl, rfl, ha, hb, hc, _, _⟩ := say_nat (bi_ne q)
  simp only [Int.toNat_natCast] at h
  rw [hS0.2.1]
  apply s_layNow hS0 hf
  intro M1 hF1 hm _
  have hS1 := hS0.rs hF1
  have hag := hS1.2.2.2.1
  rw [hS1.2.1]
  apply s_right hS1.2.2.1 (by omega) (by omega) (by omega) (by have := hf.2.1; omega) hm
  intro M2 hF2
  have hF3 := hF1.tr (rrset_rs hF2)
  have hm2 : mat M2 74 (abv F nf pp s) := fun p q hp hq => by rw [hF2 74 _ (by unfold rrset aset gset; omega)]; exact hm p q hp hq
  rw [nmv_ag (hag a' ha) (hag b' hb) (hag c' hc)]
  apply s_over (by omega) (by omega) hm2
  apply s_over (by omega) (by omega) hm2
  unfold silB at h
  have hpr : pm n (rgt C Bg E n (nmS pp nf s F ag a' b' c')) := rgt_pm hn6
  rw [show rgt C Bg E n (nmv ag a' b' c' s (btw (abv F nf pp s) b' a') (btw (abv F nf pp s) c' a') (btw (abv F nf pp s) c' b')) = rgt C Bg E n (nmS pp nf s F ag a' b' c') from rfl]
  generalize rgt C Bg E n (nmS pp nf s F ag a' b' c') = right at h hpr ⊢
  generalize btw (abv F nf pp s) b' a' = hh at h ⊢
  generalize btw (abv F nf pp s) c' a' = tt at h ⊢
  have hciv := fun (M3 : Mem) (hM : Fp rs M0 M3) (q : Nat) (hq : q < 2147483648) (P' : Int → Mem → Prop) (hp : ∀ M', Fp rs M3 M' → P' (bi (anyW (badW (decide (c' = b')) hh tt n right (rwW n s ag C Bg E a' b' c') q) 27 = false)) M') => s_isCivil (M := M3) (P := P') (h := hh) (t := tt) (mask := q) (hS0.rs hM) hf ha hb hc hpr hq hp
  generalize hcv : (fun q => !(anyW (badW (decide (c' = b')) hh tt n right (rwW n s ag C Bg E a' b' c') q) 27)) = civ at h
  have hcq : ∀ q, civ q = !(anyW (badW (decide (c' = b')) hh tt n right (rwW n s ag C Bg E a' b' c') q) 27) := fun q => by rw [← hcv]
  refine loop_up (Inv := fun _ M3 => Fp rs M0 M3) (G := fun k M3 => A m11_silence 7 0 71 [(20, ((59 : Nat) : Int)), (0, (a' : Int)), (0, (b' : Int)), (0, (c' : Int)), (0, x), (0, (right : Int)), (0, hh), (0, tt), (0, bst civ k), (0, (k : Int))] [] M3 (Ki P)) (2 ^ n) ?_ ?_ 0 M2 (Nat.zero_le _) hF3
  · intro M3 hF4
    have hS3 := hS0.rs hF4
    have h2 := h M3 hF4
    have hbd := bst_bd (civ := civ) (2 ^ n)
    apply r_11_silence_71
    rw [hS3.2.2.1.2.1, e1]
    refine ⟨fun _ => ?_, fun q => by omega⟩
    generalize bst civ (2 ^ n) = v at h2 hbd ⊢
    refine ⟨fun z => ⟨fun z1 => ?_, fun z1 => ?_⟩, fun z => ?_⟩
    · rwa [if_neg z, if_neg z1] at h2
    · obtain ⟨vn, rfl⟩ : ∃ vn : Nat, v = (vn : Int) := ⟨v.toNat, by omega⟩
      rw [if_neg z, if_pos z1, Int.toNat_natCast] at h2
      exact s_bitsOf (by omega) h2
    · rwa [if_pos z] at h2
  · intro k M3 hk hF4 ih
    have hS3 := hS0.rs hF4
    have hbd := bst_bd (civ := civ) k
    rw [bst_step, hcq k] at ih
    apply r_11_silence_71
    rw [hS3.2.2.1.2.1, e1, w_1 (by omega)]
    generalize bst civ k = best at ih hbd ⊢
    have civil : (best = -1 ∨ pcn k < pcn best.toNat) → CI m11_isCivil 6 [(20, ((59 : Nat) : Int)), (0, (k : Int)), (0, (a' : Int)), (0, (b' : Int)), (0, (c' : Int)), (0, (right : Int)), (0, hh), (0, tt)] M3 (fun r16 M17 => ((r16 = 0 → A m11_silence 7 0 71 [(20, ((59 : Nat) : Int)), (0, (a' : Int)), (0, (b' : Int)), (0, (c' : Int)), (0, x), (0, (right : Int)), (0, hh), (0, tt), (0, best), (0, ((k + 1 : Nat) : Int))] [] M17 (Ki P)) ∧ (r16 ≠ 0 → A m11_silence 7 0 71 [(20, ((59 : Nat) : Int)), (0, (a' : Int)), (0, (b' : Int)), (0, (c' : Int)), (0, x), (0, (right : Int)), (0, hh), (0, tt), (0, (k : Int)), (0, ((k + 1 : Nat) : Int))] [] M17 (Ki P)))) := by
      intro hbest
      refine hciv M3 hF4 k (by omega) _ (fun M4 hF5 => ?_)
      have i2 := ih M4 (hF4.tr hF5)
      refine ⟨fun z => ?_, fun z => ?_⟩
      · rw [if_neg (fun y => bi_eq z (by simpa using y.2))] at i2; exact i2
      · rw [if_pos ⟨hbest, by rw [bi_ne z]; rfl⟩] at i2; exact i2
    refine ⟨fun q => by omega, fun _ => ⟨fun z => civil (Or.inl z), fun z => ?_⟩⟩
    obtain ⟨bn, rfl⟩ : ∃ bn : Nat, best = (bn : Int) := ⟨best.toNat, by omega⟩
    apply s_bitsOf (by omega)
    apply s_bitsOf (by omega)
    rw [Int.toNat_natCast] at civil ih
    refine ⟨fun z1 => civil (Or.inr (by omega)), fun z1 => ?_⟩
    have i2 := ih M3 hF4
    rw [if_neg (fun y => by rcases y.1 with w | w <;> omega)] at i2
    exact i2
