/-! the reference: strikes, codes, layCode, firstWrong -/
def matn (q : Nat) (M : Mem) (B : Nat → Nat → Bool) : Prop := ∀ a b, a < q → b < q → M 74 (5 * a + b) = ((B a b).toNat : Int)
theorem s_overN {q a b : Nat} {B : Nat → Nat → Bool} {M : Mem} {P : Int → Mem → Prop} (hq : q ≤ 5) (ha : a < q) (hb : b < q) (hB : matn q M B) (h : P (btw B a b) M) : CI m11_over 2 [(20, ((59 : Nat) : Int)), (0, (a : Int)), (0, (b : Int))] M P := by
  apply q_11_over
  apply s_pair (by omega) (by omega)
  refine ⟨by omega, ?_⟩
  rw [Int.toNat_natCast, hB a b ha hb]
  refine ⟨fun q1 => ?_, fun q1 => ?_⟩
  · apply s_pair (by omega) (by omega)
    refine ⟨by omega, ?_⟩
    rw [Int.toNat_natCast, hB b a hb ha]
    refine ⟨fun q2 => ?_, fun q2 => ?_⟩
    · unfold btw at h; rwa [tn0 q1, tn0 q2] at h
    · unfold btw at h; rwa [tn0 q1, tn1 q2] at h
  · unfold btw at h; rwa [tn1 q1] at h
theorem s_standsLaidN {q a b : Nat} {B : Nat → Nat → Bool} {M : Mem} {P : Int → Mem → Prop} (hq : q ≤ 5) (ha : a < q) (hb : b < q) (hB : matn q M B) (h : P (anV (btw B a b)) M) : CI m11_standsLaid 2 [(20, ((59 : Nat) : Int)), (0, (a : Int)), (0, (b : Int))] M P := by
  unfold anV at h
  apply q_11_standsLaid
  apply s_pair (by omega) (by omega)
  refine ⟨by omega, ?_⟩
  rw [Int.toNat_natCast, hB a b ha hb]
  refine ⟨fun q1 => ?_, fun q1 => ?_⟩
  · apply s_pair (by omega) (by omega)
    refine ⟨by omega, ?_⟩
    rw [Int.toNat_natCast, hB b a hb ha]
    refine ⟨fun q2 => ?_, fun q2 => ?_⟩
    · unfold btw at h; rwa [tn0 q1, tn0 q2] at h
    · unfold btw at h; rwa [tn0 q1, tn1 q2] at h
  · unfold btw at h; rwa [tn1 q1] at h
theorem s_rightN {q n sp he th : Nat} {s : Int} {B : Nat → Nat → Bool} {C : Nat → Int} {Bg E : Nat → Nat} {M : Mem} {P : Int → Mem → Prop} (hr : Rk M n C Bg E) (hq : q ≤ 5) (hsp : sp < q) (hhe : he < q) (hth : th < q) (hs : -10 ≤ s ∧ s ≤ 10) (hB : matn q M B)
    (h : ∀ M', Fp rrset M M' → P (rgt C Bg E n (nmv (M 63) sp he th s (btw B he sp) (btw B th sp) (btw B th he)) : Int) M') : CI m11_right 5 [(20, ((59 : Nat) : Int)), (0, (sp : Int)), (0, (he : Int)), (0, (th : Int)), (0, s)] M P := by
  apply q_11_right
  apply q_11_callsLaid
  apply s_overN hq hhe hsp hB
  apply s_overN hq hth hsp hB
  apply s_overN hq hth hhe hB
  apply s_calls (by omega) (by omega) (by omega)
  intro M1 hF hN
  exact s_rightOf hr hF hN (nmv_ok hs (btw_bd _ _ _) (btw_bd _ _ _) (btw_bd _ _ _)) h
theorem s_knownMn {nh : Nat} {kb : Int} {H : FTab} {M : Mem} {P : Int → Mem → Prop} (hM : MRf M nh kb H) (hk : -1 ≤ kb) (h : P (kmany nh kb : Int) M) : CI m11_knownMany 1 [(20, ((59 : Nat) : Int))] M P := by
  unfold kmany at h
  apply q_11_knownMany
  rw [hM.1, hM.2.1]
  refine ⟨fun q => ?_, fun q => ?_⟩
  · rw [if_neg q] at h
    rwa [Int.toNat_of_nonneg (by omega)] at h
  · rwa [if_pos q] at h
def n87 (k _j : Nat) : Prop := k = 87
/-- what is struck, told by the reference's table -/
def SK (M : Mem) (nh : Nat) (kb : Int) (H : FTab) : Prop := ∀ i, i < kmany nh kb → M 87 i = (((ks H (kmany nh kb) (kmany nh kb)).1.testBit i).toNat : Int)
theorem s_strikes {pp n nh : Nat} {kb : Int} {H : FTab} {M : Mem} {P : Mem → Prop} (hM : MRf M nh kb H) (hH : MH pp n nh kb H) (h : ∀ M', Fp n87 M M' → SK M' nh kb H → P M') : CD m11_strikes 2 [(20, ((59 : Nat) : Int))] M P := by
  have hK := HokK_of hH
  have hle := kmany_le hH
  have h24 := hH.1
  unfold SK at h
  apply q_11_strikes
  refine loop_up (Inv := fun k M1 => Fp n87 M M1 ∧ ∀ i, i < k → M1 87 i = 0) (G := fun k M1 => A m11_strikes 2 0 2 [(20, ((59 : Nat) : Int)), (0, (k : Int))] [] M1 (Kd P)) (kmany nh kb) ?_ ?_ 0 M (by omega) ⟨Fp.rf, fun i hi => by omega⟩
  · rintro M1 ⟨hF1, h0⟩
    have hM1 := hM.fp hF1 (fun k j q => by unfold n87 at q; omega)
    apply r_11_strikes_2
    apply s_knownMn hM1 hH.2.1.1
    refine ⟨fun _ => ?_, fun q => by omega⟩
    apply s_knownMn hM1 hH.2.1.1
    generalize kmany nh kb = K at hK hle h h0 ⊢
    suffices key : ∀ m M2, m ≤ K → (Fp n87 M M2 ∧ ∀ i, i < K → M2 87 i = (((ks H K m).1.testBit i).toNat : Int)) → A m11_strikes 2 0 30 [(20, ((59 : Nat) : Int)), (0, w32 ((K - m : Nat) - 1 : Int))] [] M2 (Kd P) by
      exact key 0 M1 (by omega) ⟨hF1, fun i hi => by rw [h0 i hi]; show (0 : Int) = (((0 : Nat).testBit i).toNat : Int); rw [Nat.zero_testBit]; rfl⟩
    refine loop_up (Inv := fun m M2 => Fp n87 M M2 ∧ ∀ i, i < K → M2 87 i = (((ks H K m).1.testBit i).toNat : Int)) (G := fun m M2 => A m11_strikes 2 0 30 [(20, ((59 : Nat) : Int)), (0, w32 ((K - m : Nat) - 1 : Int))] [] M2 (Kd P)) K ?_ ?_
    · rintro M2 ⟨hF2, hs⟩
      apply r_11_strikes_30
      rw [Nat.sub_self, show w32 (((0 : Nat) : Int) - 1) = -1 by decide]
      exact ⟨fun _ => h M2 hF2 hs, fun q => by omega⟩
    · rintro m M2 hm ⟨hF2, hs⟩ ih
      have hM2 := hM.fp hF2 (fun k j q => by unfold n87 at q; omega)
      have e : w32 ((K - m : Nat) - 1 : Int) = ((K - 1 - m : Nat) : Int) := by rw [w32_id (by omega) (by omega)]; omega
      have e2 : w32 (((K - 1 - m : Nat) : Int) + -1) = w32 ((K - (m + 1) : Nat) - 1 : Int) := by rw [w32_id (by omega) (by omega), w32_id (by omega) (by omega)]; omega
      have hi : K - 1 - m < nh := by omega
      obtain ⟨c1, c2, c3⟩ := hM2.2.2 _ hi
      rw [ks_step] at ih
      apply r_11_strikes_30
      rw [e, e2, Int.toNat_natCast, hs _ (by omega), c1, c2]
      refine ⟨fun q => by omega, fun _ => ⟨by omega, fun q1 => ?_, fun q1 => ⟨by omega, fun q2 => ?_, fun q2 => ?_⟩⟩⟩
      · rw [if_pos (tn1 q1)] at ih
        exact ih M2 ⟨hF2, hs⟩
      · rw [if_neg (by rw [tn0 q1]; decide), if_neg q2] at ih
        exact ih M2 ⟨hF2, hs⟩
      · obtain ⟨t1, t2⟩ := hK.2 (K - 1 - m) (by omega) q2
        rw [if_neg (by rw [tn0 q1]; decide), if_pos q2] at ih
        refine ⟨by omega, by omega, ih _ ⟨hF2.set rfl, fun i hi' => ?_⟩⟩
        show _ = (((_ ||| (1 <<< (H (K - 1 - m) 1).toNat)).testBit i).toNat : Int)
        rw [Nat.testBit_or, tb_one]
        by_cases z : i = (H (K - 1 - m) 1).toNat
        · subst z; rw [mset_s, decide_eq_true rfl, Bool.or_true]; rfl
        · rw [mset_j z, hs i hi', decide_eq_false (fun y => z y.symm), Bool.or_false]
  · rintro k M1 hk ⟨hF1, h0⟩ ih
    have hM1 := hM.fp hF1 (fun k j q => by unfold n87 at q; omega)
    apply r_11_strikes_2
    apply s_knownMn hM1 hH.2.1.1
    rw [w_1 (i := k) (by omega), Int.toNat_natCast]
    refine ⟨fun q => by omega, fun _ => ⟨by omega, ih _ ⟨hF1.set rfl, fun i hi => ?_⟩⟩⟩
    by_cases z : i = k
    · subst z; rw [mset_s]
    · rw [mset_j z]; exact h0 i (by omega)
/-- the first wrong among what is KNOWN -/
theorem fwV_r {pp n nh : Nat} {kb : Int} {H : FTab} {ag C : Nat → Int} {Bg E : Nat → Nat} {B : Nat → Nat → Bool} (hH : MH pp n nh kb H) : fwV n ag C Bg E H nh (told H nh kb) B = fst1 (fun i => (!(ks H (kmany nh kb) (kmany nh kb)).1.testBit i && decide (H i 0 ≠ -1)) && wrB n ag C Bg E H B i) (kmany nh kb) 0 := by
  have hK := HokK_of hH
  have hle := kmany_le hH
  have e : ∀ i, (told H nh kb).testBit i = (decide (i < kmany nh kb) && (!(ks H (kmany nh kb) (kmany nh kb)).1.testBit i && decide (H i 0 ≠ -1))) := fun i => by
    unfold told
    rw [ks_told hK _ (Nat.le_refl _)]
    congr 1
    by_cases z : i < kmany nh kb
    · rw [decide_eq_true z, decide_eq_true (by omega)]
    · rw [decide_eq_false z, decide_eq_false (by omega)]
  unfold fwV
  obtain ⟨d, hd⟩ : ∃ d, nh = kmany nh kb + d := ⟨nh - kmany nh kb, by omega⟩
  have h1 : fst1 (fun i => (told H nh kb).testBit i && wrB n ag C Bg E H B i) nh 0 = fst1 (fun i => (told H nh kb).testBit i && wrB n ag C Bg E H B i) (kmany nh kb) 0 := by
    have := fst1_cut (p := fun i => (told H nh kb).testBit i && wrB n ag C Bg E H B i) (kmany nh kb) 0 d (fun j h1 h2 => by
      show ((told H nh kb).testBit j && _) = false
      rw [e j, decide_eq_false (by omega)]; rfl)
    rw [← hd] at this
    exact this
  rw [h1]
  refine fst1_congr _ 0 (fun j h1 h2 => ?_)
  show ((told H nh kb).testBit j && _) = _
  rw [e j, decide_eq_true (by omega), Bool.true_and]
theorem s_firstWrong_r {pp n nf nh : Nat} {s kb : Int} {F H : FTab} {ag C : Nat → Int} {Bg E : Nat → Nat} {B : Nat → Nat → Bool} {M : Mem} {P : Int → Mem → Prop} (hS : SR M pp n s nf F ag C Bg E) (hf : SF pp s nf F) (hM : MRf M nh kb H) (hH : MH pp n nh kb H) (hs : SK M nh kb H) (hB : matn pp M B)
    (h : ∀ M', Fp rrset M M' → P (fwV n ag C Bg E H nh (told H nh kb) B) M') : CI m11_firstWrong 6 [(20, ((59 : Nat) : Int))] M P := by
  have h5 := hf.1
  have h24 := hH.1
  have hle := kmany_le hH
  rw [fwV_r hH] at h
  unfold SK at hs
  apply q_11_firstWrong
  generalize hpd : (fun i => (!(ks H (kmany nh kb) (kmany nh kb)).1.testBit i && decide (H i 0 ≠ -1)) && wrB n ag C Bg E H B i) = p at h
  generalize hKd : (ks H (kmany nh kb) (kmany nh kb)).1 = u at hpd hs
  refine loop_up (Inv := fun k M1 => Fp rrset M M1 ∧ fst1 p (kmany nh kb - k) k = fst1 p (kmany nh kb) 0) (G := fun k M1 => A m11_firstWrong 6 0 2 [(20, ((59 : Nat) : Int)), (0, (k : Int))] [] M1 (Ki P)) (kmany nh kb) ?_ ?_ 0 M (by omega) ⟨Fp.rf, rfl⟩
  · rintro M1 ⟨hF1, e⟩
    have hM1 := hM.fp hF1 (fun k j q => by unfold rrset aset gset at q; omega)
    apply r_11_firstWrong_2
    apply s_knownMn hM1 hH.2.1.1
    have h' := h M1 hF1
    rw [← e, Nat.sub_self] at h'
    exact ⟨fun _ => h', fun q => by omega⟩
  · rintro k M1 hk ⟨hF1, e⟩ ih
    have hM1 := hM.fp hF1 (fun k j q => by unfold rrset aset gset at q; omega)
    have hS1 := hS.rs (rrset_rs hF1)
    have hpk : p k = ((!u.testBit k && decide (H k 0 ≠ -1)) && wrB n ag C Bg E H B k) := by rw [← hpd]
    have hi : k < nh := by omega
    obtain ⟨c1, c2, c3⟩ := hM1.2.2 _ hi
    have h87 : M1 87 k = ((u.testBit k).toNat : Int) := by rw [hF1 87 k (by unfold rrset aset gset; omega)]; exact hs k hk
    rw [show kmany nh kb - k = (kmany nh kb - (k + 1)) + 1 by omega] at e
    apply r_11_firstWrong_2
    apply s_knownMn hM1 hH.2.1.1
    rw [w_1 (i := k) (by omega)]
    refine ⟨fun q => by omega, fun _ => ?_⟩
    apply q_11_isHeard
    rw [Int.toNat_natCast, h87, c1, c2]
    refine ⟨by omega, fun q1 => ⟨fun _ => ?_, fun q => absurd rfl q⟩, fun q1 => ⟨by omega, fun q2 => ⟨fun _ => ?_, fun q => absurd rfl q⟩, fun q2 => ⟨fun q => by omega, fun _ => ?_⟩⟩⟩
    · exact ih M1 ⟨hF1, by rw [← e, fst1_n (by rw [hpk, tn1 q1]; rfl)]⟩
    · exact ih M1 ⟨hF1, by rw [← e, fst1_n (by rw [hpk, decide_eq_false (fun z => z q2), Bool.and_false, Bool.false_and])]⟩
    · obtain ⟨m3, m4, m5⟩ := c3 q2
      rcases hH.2.2 k hi with z | ⟨z1, z2, z3⟩
      · exact absurd z.1 q2
      · obtain ⟨⟨s1, s2, s3⟩, s4, s5, s6⟩ := z1
        rw [m3, m4]
        unfold wrB at hpk
        generalize hsp : (H k 0).toNat = sp at hpk
        generalize hhe : (H k 1).toNat = he at hpk
        generalize hth : (H k 2).toNat = th at hpk
        rw [show H k 0 = (sp : Int) by omega, show H k 1 = (he : Int) by omega, show H k 2 = (th : Int) by omega]
        refine ⟨by omega, by omega, by omega, by omega, ?_⟩
        apply s_rightN hS1.2.2.1 h5 (by omega) (by omega) (by omega) (by omega) (fun a b ha hb => by rw [hF1 74 _ (by unfold rrset aset gset; omega)]; exact hB a b ha hb)
        intro M2 hF2
        have hag := hS1.2.2.2.1
        rw [nmv_ag (hag sp (by omega)) (hag he (by omega)) (hag th (by omega))]
        have e86 : M2 86 k = H k 4 := by rw [hF2 86 k (by unfold rrset aset gset; omega)]; exact m5
        rw [e86]
        refine ⟨by omega, fun q3 => ?_, fun q3 => ?_⟩
        · refine ih M2 ⟨hF1.tr hF2, ?_⟩
          rw [← e, fst1_n]
          rw [hpk]; simp [q3]
        · have h' := h M2 (hF1.tr hF2)
          rw [← e, fst1_y (by rw [hpk, tn0 q1, decide_eq_true q2, decide_eq_true q3]; rfl)] at h'
          exact h'
