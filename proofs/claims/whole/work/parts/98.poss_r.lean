/-! the reference: possible, sure, cannot, order -/
def rs7 (k j : Nat) : Prop := rs k j ∨ k = 87
theorem SR.rs7 {M M' : Mem} {pp n nf : Nat} {s : Int} {F : FTab} {ag C : Nat → Int} {Bg E : Nat → Nat} (h : SR M pp n s nf F ag C Bg E) (hF : Fp rs7 M M') : SR M' pp n s nf F ag C Bg E := h.fp hF (fun k j q => by
  rcases q with q | q
  · exact Or.inr (Or.inl q)
  · exact Or.inr (Or.inr (Or.inl (by omega))))
theorem MRf.rs7 {M M' : Mem} {nh : Nat} {kb : Int} {H : FTab} (h : MRf M nh kb H) (hF : Fp rs7 M M') : MRf M' nh kb H := h.fp hF (fun k j q => by
  rcases q with q | q
  · unfold rs at q; omega
  · omega)
theorem MRf.th {M : Mem} {v : Int} {nh : Nat} {kb : Int} {H : FTab} (h : MRf M nh kb H) : MRf (mset M 59 0 v) nh kb H := h.fp (t := fun k j => k = 59 ∧ j = 0) (Fp.rf.set ⟨rfl, rfl⟩) (fun k j q => Or.inr (Or.inl (by omega)))
theorem s_lay7 {pp n nf nh c : Nat} {s kb : Int} {F H : FTab} {ag C : Nat → Int} {Bg E : Nat → Nat} {M0 M : Mem} {P : Int → Mem → Prop} (hS : SR M0 pp n s nf F ag C Bg E) (hf : SF pp s nf F) (hF : Fp rs7 M0 M) (hs : SK M nh kb H) (hc : c < tot pp)
    (h : ∀ M', Fp rs7 M0 M' → SK M' nh kb H → matn pp M' (bB (dgt pp c)) → P (bi (trb pp c = true)) M') : CI m11_layCode 2 [(20, ((59 : Nat) : Int)), (0, (c : Int))] M P := by
  have h5 := hf.1
  have htot := tot_le h5
  have hS1 := hS.rs7 hF
  apply s_layCode h5 hS1.1 (by omega)
  intro M1 hF1 hB
  exact h M1 (hF.tr (hF1.mono (fun k j q => Or.inl (by unfold n74 at q; unfold rs; omega)))) (fun i hi => by rw [hF1 87 i (by unfold n74; omega)]; exact hs i hi) hB
theorem s_fw7 {pp n nf nh c : Nat} {s kb : Int} {F H : FTab} {ag C : Nat → Int} {Bg E : Nat → Nat} {M0 M : Mem} {P : Int → Mem → Prop} (hS : SR M0 pp n s nf F ag C Bg E) (hf : SF pp s nf F) (hM : MRf M0 nh kb H) (hH : MH pp n nh kb H) (hF : Fp rs7 M0 M) (hs : SK M nh kb H) (hB : matn pp M (bB (dgt pp c)))
    (h : ∀ M', Fp rs7 M0 M' → SK M' nh kb H → matn pp M' (bB (dgt pp c)) → P (WcF pp n nh (told H nh kb) ag C Bg E H c) M') : CI m11_firstWrong 6 [(20, ((59 : Nat) : Int))] M P := by
  have hS1 := hS.rs7 hF
  have hM1 := hM.rs7 hF
  apply s_firstWrong_r hS1 hf hM1 hH hs hB
  intro M1 hF1
  exact h M1 (hF.tr ((rrset_rs hF1).mono (fun k j q => Or.inl q))) (fun i hi => by rw [hF1 87 i (by unfold rrset aset gset; omega)]; exact hs i hi) (fun a b ha hb => by rw [hF1 74 _ (by unfold rrset aset gset; omega)]; exact hB a b ha hb)
theorem n87_rs7 {M M' : Mem} (h : Fp n87 M M') : Fp rs7 M M' := h.mono (fun k j q => Or.inr q)
theorem s_possible_r {pp n nf nh : Nat} {s kb : Int} {F H : FTab} {ag C : Nat → Int} {Bg E : Nat → Nat} {M : Mem} {P : Int → Mem → Prop} (hS : SR M pp n s nf F ag C Bg E) (hf : SF pp s nf F) (hM : MRf M nh kb H) (hH : MH pp n nh kb H)
    (h : ∀ M', Fp rs7 (mset M 59 0 0) M' → P (possV pp n nh (told H nh kb) ag C Bg E H) M') : CI m11_possible 7 [(20, ((59 : Nat) : Int))] M P := by
  have h5 := hf.1
  have htot := tot_le h5
  have hS0 := hS.th (v := 0)
  have hM0 := hM.th (v := 0)
  unfold possV at h
  apply q_11_possible
  generalize mset M 59 0 0 = M0 at hS0 hM0 h ⊢
  apply s_strikes hM0 hH
  intro M1 hF1 hs1
  refine loop_up (Inv := fun c M2 => Fp rs7 M0 M2 ∧ SK M2 nh kb H) (G := fun c M2 => A m11_possible 7 0 13 [(20, ((59 : Nat) : Int)), (0, (cnt (okW (trb pp) (WcF pp n nh (told H nh kb) ag C Bg E H)) c : Int)), (0, (c : Int))] [] M2 (Ki P)) (tot pp) ?_ ?_ 0 M1 (by omega) ⟨n87_rs7 hF1, hs1⟩
  · rintro M2 ⟨hF2, hs2⟩
    have hS2 := hS0.rs7 hF2
    apply r_11_possible_13
    apply s_codes h5 hS2.1
    exact ⟨fun _ => h M2 hF2, fun q => by omega⟩
  · rintro c M2 hc ⟨hF2, hs2⟩ ih
    have hS2 := hS0.rs7 hF2
    have hle := cnt_le (okW (trb pp) (WcF pp n nh (told H nh kb) ag C Bg E H)) c
    apply r_11_possible_13
    apply s_codes h5 hS2.1
    rw [w_1 (i := c) (by omega), w_1 (i := cnt (okW (trb pp) (WcF pp n nh (told H nh kb) ag C Bg E H)) c) (by omega)]
    refine ⟨fun q => by omega, fun _ => ?_⟩
    apply s_lay7 hS0 hf hF2 hs2 hc
    intro M3 hF3 hs3 hB
    refine ⟨fun q => ?_, fun q => ?_⟩
    · have hno : trb pp c = false := by
        cases z : trb pp c with
        | false => rfl
        | true => exact absurd z (bi_eq q)
      rw [cnt_n (okW_n hno)] at ih
      exact ih M3 ⟨hF3, hs3⟩
    · have ht := bi_ne q
      apply s_fw7 hS0 hf hM0 hH hF3 hs3 hB
      intro M4 hF4 hs4 _
      refine ⟨fun q1 => ?_, fun q1 => ?_⟩
      · rw [cnt_n (okW_w q1)] at ih
        exact ih M4 ⟨hF4, hs4⟩
      · rw [cnt_y (okW_y ht q1)] at ih
        exact ih M4 ⟨hF4, hs4⟩
theorem s_cannot_r {pp n nf nh : Nat} {s kb : Int} {F H : FTab} {ag C : Nat → Int} {Bg E : Nat → Nat} {M : Mem} {P : Int → Mem → Prop} (hS : SR M pp n s nf F ag C Bg E) (hf : SF pp s nf F) (hM : MRf M nh kb H) (hH : MH pp n nh kb H)
    (h : ∀ M', Fp rs7 (mset M 59 0 0) M' → P (canV pp n nh (told H nh kb) ag C Bg E H) M') : CI m11_cannot 7 [(20, ((59 : Nat) : Int))] M P := by
  have h5 := hf.1
  have htot := tot_le h5
  have hS0 := hS.th (v := 0)
  have hM0 := hM.th (v := 0)
  unfold canV at h
  apply q_11_cannot
  generalize mset M 59 0 0 = M0 at hS0 hM0 h ⊢
  apply s_strikes hM0 hH
  intro M1 hF1 hs1
  generalize hW : WcF pp n nh (told H nh kb) ag C Bg E H = W at h
  refine loop_upS (σ := Int) (Inv := fun c l M2 => Fp rs7 M0 M2 ∧ SK M2 nh kb H ∧ scn (trb pp) W (tot pp - c) c l = scn (trb pp) W (tot pp) 0 (-1)) (G := fun c l M2 => A m11_cannot 7 0 13 [(20, ((59 : Nat) : Int)), (0, l), (0, (c : Int)), (2, 0)] [] M2 (Ki P)) (tot pp) ?_ ?_ 0 (-1) M1 (by omega) ⟨n87_rs7 hF1, hs1, rfl⟩
  · rintro l M2 ⟨hF2, hs2, e⟩
    have hS2 := hS0.rs7 hF2
    apply r_11_cannot_13
    apply s_codes h5 hS2.1
    have h' := h M2 hF2
    rw [← e, Nat.sub_self] at h'
    exact ⟨fun _ => h', fun q => by omega⟩
  · rintro c l M2 hc ⟨hF2, hs2, e⟩ ih
    have hS2 := hS0.rs7 hF2
    rw [show tot pp - c = (tot pp - (c + 1)) + 1 by omega] at e
    apply r_11_cannot_13
    apply s_codes h5 hS2.1
    rw [w_1 (i := c) (by omega)]
    refine ⟨fun q => by omega, fun _ => ?_⟩
    apply s_lay7 hS0 hf hF2 hs2 hc
    intro M3 hF3 hs3 hB
    refine ⟨fun q => ?_, fun q => ?_⟩
    · have ht := bi_ne q
      apply s_fw7 hS0 hf hM0 hH hF3 hs3 hB
      rw [hW]
      intro M4 hF4 hs4 _
      refine ⟨fun q1 => ?_, fun q1 => ?_⟩
      · exact ih _ M4 ⟨hF4, hs4, by rw [← e, scn_y ht q1]⟩
      · have h' := h M4 hF4
        rw [← e, scn_e ht q1] at h'
        exact h'
    · have hno : trb pp c = false := by
        cases z : trb pp c with
        | false => rfl
        | true => exact absurd z (bi_eq q)
      exact ih l M3 ⟨hF3, hs3, by rw [← e, scn_n hno]⟩
theorem s_order_r {pp n nf nh : Nat} {s kb : Int} {F H : FTab} {ag C : Nat → Int} {Bg E : Nat → Nat} {M : Mem} {P : Int → Mem → Prop} {k a b : Int} (hS : SR M pp n s nf F ag C Bg E) (hf : SF pp s nf F) (hM : MRf M nh kb H) (hH : MH pp n nh kb H)
    (h : ∀ M', Fp rs7 (mset M 59 0 0) M' → P (ordV pp n nh (told H nh kb) ag C Bg E H k a b) M') : CI m11_order 7 [(20, ((59 : Nat) : Int)), (0, k), (0, a), (0, b)] M P := by
  have h5 := hf.1
  have htot := tot_le h5
  have hS0 := hS.th (v := 0)
  have hM0 := hM.th (v := 0)
  unfold ordV at h
  apply q_11_order
  generalize mset M 59 0 0 = M0 at hS0 hM0 h ⊢
  refine ⟨fun q => ?_, fun q => s_areTwo_r hS0.1 ⟨fun q1 => ?_, fun q1 => ?_⟩⟩
  · have := h M0 Fp.rf
    rwa [if_neg (fun z => by omega)] at this
  · rw [if_pos ⟨bi_ne q1, q⟩] at h
    obtain ⟨a', b', rfl, rfl, ha, hb, _⟩ := two_nat (bi_ne q1)
    simp only [Int.toNat_natCast] at h
    apply s_strikes hM0 hH
    intro M1 hF1 hs1
    generalize hW : WcF pp n nh (told H nh kb) ag C Bg E H = W at h
    generalize hA : (fun c => anV (btw (bB (dgt pp c)) a' b')) = an at h
    refine loop_upS (σ := Nat) (Inv := fun c z M2 => Fp rs7 M0 M2 ∧ SK M2 nh kb H ∧ z ≤ c ∧ osc (trb pp) W an k (tot pp - c) c z = osc (trb pp) W an k (tot pp) 0 0) (G := fun c z M2 => A m11_order 7 0 30 [(20, ((59 : Nat) : Int)), (0, k), (0, (a' : Int)), (0, (b' : Int)), (0, (z : Int)), (0, (c : Int))] [] M2 (Ki P)) (tot pp) ?_ ?_ 0 0 M1 (by omega) ⟨n87_rs7 hF1, hs1, by omega, rfl⟩
    · rintro z M2 ⟨hF2, hs2, hz, e⟩
      have hS2 := hS0.rs7 hF2
      apply r_11_order_30
      apply s_codes h5 hS2.1
      have h' := h M2 hF2
      rw [← e, Nat.sub_self] at h'
      exact ⟨fun _ => h', fun q => by omega⟩
    · rintro c z M2 hc ⟨hF2, hs2, hz, e⟩ ih
      have hS2 := hS0.rs7 hF2
      rw [show tot pp - c = (tot pp - (c + 1)) + 1 by omega] at e
      apply r_11_order_30
      apply s_codes h5 hS2.1
      rw [w_1 (i := c) (by omega), w_1 (i := z) (by omega)]
      refine ⟨fun q => by omega, fun _ => ?_⟩
      apply s_lay7 hS0 hf hF2 hs2 hc
      intro M3 hF3 hs3 hB
      refine ⟨fun q => ?_, fun q => ?_⟩
      · have hno : trb pp c = false := by
          cases z : trb pp c with
          | false => rfl
          | true => exact absurd z (bi_eq q)
        exact ih z M3 ⟨hF3, hs3, by omega, by rw [← e, osc_n (okW_n hno)]⟩
      · have ht := bi_ne q
        apply s_fw7 hS0 hf hM0 hH hF3 hs3 hB
        rw [hW]
        intro M4 hF4 hs4 hB4
        refine ⟨fun q1 => ⟨fun q2 => ?_, fun q2 => ?_⟩, fun q1 => ?_⟩
        · exact ih (z + 1) M4 ⟨hF4, hs4, by omega, by rw [← e, osc_y (okW_y ht q1) q2]⟩
        · apply s_standsLaidN h5 ha hb hB4
          have h' := h M4 hF4
          rw [← e, osc_k (okW_y ht q1) q2, ← hA] at h'
          exact h'
        · exact ih z M4 ⟨hF4, hs4, by omega, by rw [← e, osc_n (okW_w q1)]⟩
  · have := h M0 Fp.rf
    rwa [if_neg (fun z => bi_eq q1 z.1)] at this
theorem mt_one : ∀ u : Nat, u < 3 → mtV (1 <<< u) = (u : Int) := by decide +kernel
theorem mt_two : ∀ u : Nat, u < 3 → ∀ v : Nat, v < 3 → u ≠ v → ∀ m : Nat, m < 8 → ((1 <<< u) ||| (1 <<< v)) &&& m = ((1 <<< u) ||| (1 <<< v)) → mtV m = 3 := by decide +kernel
theorem s_sure_r {pp n nf nh : Nat} {s kb : Int} {F H : FTab} {ag C : Nat → Int} {Bg E : Nat → Nat} {M : Mem} {P : Int → Mem → Prop} {a b : Int} (hS : SR M pp n s nf F ag C Bg E) (hf : SF pp s nf F) (hM : MRf M nh kb H) (hH : MH pp n nh kb H)
    (h : ∀ M', Fp rs7 (mset M 59 0 0) M' → P (surV pp n nh (told H nh kb) ag C Bg E H a b) M') : CI m11_sure 7 [(20, ((59 : Nat) : Int)), (0, a), (0, b)] M P := by
  have h5 := hf.1
  have htot := tot_le h5
  have hS0 := hS.th (v := 0)
  have hM0 := hM.th (v := 0)
  unfold surV at h
  apply q_11_sure
  generalize mset M 59 0 0 = M0 at hS0 hM0 h ⊢
  refine s_areTwo_r hS0.1 ⟨fun q1 => ?_, fun q1 => ?_⟩
  · rw [if_pos (bi_ne q1)] at h
    obtain ⟨a', b', rfl, rfl, ha, hb, _⟩ := two_nat (bi_ne q1)
    simp only [Int.toNat_natCast] at h
    apply s_strikes hM0 hH
    intro M1 hF1 hs1
    generalize hW : WcF pp n nh (told H nh kb) ag C Bg E H = W at h
    have han := fun c => (anN_of pp a' b' c).1
    have hlt := mtF_lt (T := trb pp) (W := W) han
    -- seen: nothing, or the one answer met so far
    refine loop_upS (σ := Int) (Inv := fun c z M2 => Fp rs7 M0 M2 ∧ SK M2 nh kb H ∧ ((z = -2 ∧ mtF (trb pp) W (anN pp a' b') c = 0) ∨ ∃ u : Nat, u < 3 ∧ z = (u : Int) ∧ mtF (trb pp) W (anN pp a' b') c = 1 <<< u)) (G := fun c z M2 => A m11_sure 7 0 26 [(20, ((59 : Nat) : Int)), (0, (a' : Int)), (0, (b' : Int)), (0, z), (0, (c : Int)), (2, 0)] [] M2 (Ki P)) (tot pp) ?_ ?_ 0 (-2) M1 (by omega) ⟨n87_rs7 hF1, hs1, Or.inl ⟨rfl, rfl⟩⟩
    · rintro z M2 ⟨hF2, hs2, e⟩
      have hS2 := hS0.rs7 hF2
      apply r_11_sure_26
      apply s_codes h5 hS2.1
      have h' := h M2 hF2
      refine ⟨fun _ => ?_, fun q => by omega⟩
      rcases e with ⟨rfl, e⟩ | ⟨u, hu, rfl, e⟩
      · rw [e] at h'; exact h'
      · rw [e, mt_one u hu] at h'; exact h'
    · rintro c z M2 hc ⟨hF2, hs2, e⟩ ih
      have hS2 := hS0.rs7 hF2
      apply r_11_sure_26
      apply s_codes h5 hS2.1
      rw [w_1 (i := c) (by omega)]
      refine ⟨fun q => by omega, fun _ => ?_⟩
      apply s_lay7 hS0 hf hF2 hs2 hc
      intro M3 hF3 hs3 hB
      refine ⟨fun q => ?_, fun q => ?_⟩
      · have hno : trb pp c = false := by
          cases z : trb pp c with
          | false => rfl
          | true => exact absurd z (bi_eq q)
        exact ih z M3 ⟨hF3, hs3, by rw [mtF_n (okW_n hno)]; exact e⟩
      · have ht := bi_ne q
        apply s_fw7 hS0 hf hM0 hH hF3 hs3 hB
        rw [hW]
        intro M4 hF4 hs4 hB4
        refine ⟨fun q1 => ?_, fun q1 => ?_⟩
        · apply s_standsLaidN h5 ha hb hB4
          obtain ⟨u1, u2⟩ := anN_of pp a' b' c
          rw [u2]
          have hok := okW_y ht q1
          have hm := mtF_y (a := anN pp a' b') hok
          refine ⟨fun q2 => ?_, fun q2 => ⟨fun q3 => ?_, fun q3 => ?_⟩⟩
          · refine ih _ M4 ⟨hF4, hs4, Or.inr ⟨anN pp a' b' c, u1, rfl, ?_⟩⟩
            rcases e with ⟨_, e⟩ | ⟨u, hu, rfl, e⟩
            · rw [hm, e, Nat.zero_or]
            · omega
          · refine ih _ M4 ⟨hF4, hs4, Or.inr ⟨anN pp a' b' c, u1, rfl, ?_⟩⟩
            rcases e with ⟨rfl, e⟩ | ⟨u, hu, rfl, e⟩
            · exact absurd rfl q2
            · have : u = anN pp a' b' c := by omega
              subst this
              rw [hm, e, Nat.or_self]
          · rcases e with ⟨rfl, e⟩ | ⟨u, hu, rfl, e⟩
            · exact absurd rfl q2
            · have hmono := mtF_mono (T := trb pp) (W := W) (a := anN pp a' b') (c := c + 1) (tot pp - (c + 1))
              rw [show c + 1 + (tot pp - (c + 1)) = tot pp by omega, hm, e] at hmono
              have h' := h M4 hF4
              rw [mt_two u hu _ u1 (by omega) _ (hlt (tot pp)) hmono] at h'
              exact h'
        · exact ih z M4 ⟨hF4, hs4, by rw [mtF_n (okW_w q1)]; exact e⟩
  · have := h M0 Fp.rf
    rwa [if_neg (bi_eq q1)] at this
