/-! place, offence, amends, stands -/
theorem rvv_congr {C N N' : Nat → Int} {B E : Nat → Nat} {j : Nat} (hN : ∀ i, i < 8 → N i = N' i) (hf : fok C B E j) : rvv C B E j N = rvv C B E j N' := by
  unfold rvv
  rw [evl_congr hN _ _ [] 1 hf.2.2]
def placeV (pp n : Nat) (s : Int) (nf : Nat) (F : FTab) (ag C : Nat → Int) (Bg E : Nat → Nat) (x a b c : Int) : Int :=
  if (0 ≤ x ∧ x < (n : Int)) ∧ isSay pp a b c then nov (rvv C Bg E x.toNat (nmS pp nf s F ag a.toNat b.toNat c.toNat)) else -9223372036854775808
theorem s_place {pp n nf : Nat} {s : Int} {F : FTab} {ag C : Nat → Int} {Bg E : Nat → Nat} {M : Mem} {P : Int → Mem → Prop} {x a b c : Int} (hS : SC M pp n s nf F ag C Bg E) (hf : SF pp s nf F)
    (h : ∀ M', Fp csp M M' → P (placeV pp n s nf F ag C Bg E x a b c) M') : CL m10_place 6 [(19, ((0 : Nat) : Int)), (0, x), (0, a), (0, b), (0, c)] M P := by
  have hn := hS.2.2.1.2.2.1
  have no : ¬ ((0 ≤ x ∧ x < (n : Int)) ∧ isSay pp a b c) → ∀ M', Fp csp M M' → P (-9223372036854775808) M' := fun q M' hM => by
    have := h M' hM
    unfold placeV at this
    rwa [if_neg q] at this
  apply q_10_place
  rw [hn]
  refine ⟨fun q => no (fun z => by omega) M Fp.rf, fun q => ⟨fun q1 => no (fun z => by omega) M Fp.rf, fun q1 => s_isSaying hS.1 ⟨fun q2 => ?_, fun q2 => no (fun z => bi_eq q2 z.2) M Fp.rf⟩⟩⟩
  have hs := bi_ne q2
  unfold placeV at h
  rw [if_pos ⟨⟨q, q1⟩, hs⟩] at h
  obtain ⟨a', b', c', rfl, rfl, rfl, ha, hb, hc, _, _⟩ := say_nat hs
  obtain ⟨j, rfl⟩ : ∃ j : Nat, x = (j : Int) := ⟨x.toNat, by omega⟩
  simp only [Int.toNat_natCast] at h
  apply s_meetNow hS hf ha hb hc
  intro M1 hF1 hN
  have hS1 := hS.fp hF1 (fun k j hk => Or.inl hk)
  obtain ⟨_, b2, _, b4, b5, b6, b7⟩ := hS1.2.2.1
  have hfk := b7 j (by omega)
  have hNo := nmS_ok (pp := pp) (nf := nf) (F := F) (ag := ag) (a := a') (b := b') (c := c') hf.2.1
  refine s_work (o := 25) (b := Bg j) (e := E j) ⟨by decide, by decide, by decide, by decide⟩ (by decide) (by omega) (by decide) (b5 j (by omega)) (b6 j (by omega)) hfk.1 hfk.2.1 (by rw [show (25 + 1 : Nat) = 21 + 5 from rfl, b4]; exact hfk.2.2) (fun i hi => by rw [hN i hi]; exact hNo i hi) ?_
  intro M2 hF2
  rw [show (25 + 1 : Nat) = 21 + 5 from rfl, b4]
  have e : rv (evl C (M1 40) (Bg j) (E j - Bg j) []) = rvv C Bg E j (nmS pp nf s F ag a' b' c') := rvv_congr hN hfk
  rw [e]
  exact h M2 (hF1.tr (hF2.cs (fun k hk => Or.inl hk)))
theorem s_place_r {pp n nf : Nat} {s : Int} {F : FTab} {ag C : Nat → Int} {Bg E : Nat → Nat} {M : Mem} {P : Int → Mem → Prop} {x a b c : Int} (hS : SR M pp n s nf F ag C Bg E) (hf : SF pp s nf F)
    (h : ∀ M', Fp rs (mset M 59 0 0) M' → P (placeV pp n s nf F ag C Bg E x a b c) M') : CL m11_place 4 [(20, ((59 : Nat) : Int)), (0, x), (0, a), (0, b), (0, c)] M P := by
  have h5 := hf.1
  have hS0 := hS.th (v := 0)
  have hn := hS0.2.2.1.2.1
  have no : ¬ ((0 ≤ x ∧ x < (n : Int)) ∧ isSay pp a b c) → ∀ M', Fp rs (mset M 59 0 0) M' → P (-9223372036854775808) M' := fun q M' hM => by
    have := h M' hM
    unfold placeV at this
    rwa [if_neg q] at this
  apply q_11_place
  rw [hn]
  refine ⟨fun q => no (fun z => by omega) _ Fp.rf, fun q => ⟨fun q1 => no (fun z => by omega) _ Fp.rf, fun q1 => s_isSaying_r hS0.1 ⟨fun q2 => ?_, fun q2 => no (fun z => bi_eq q2 z.2) _ Fp.rf⟩⟩⟩
  have hs := bi_ne q2
  unfold placeV at h
  rw [if_pos ⟨⟨q, q1⟩, hs⟩] at h
  obtain ⟨a', b', c', rfl, rfl, rfl, ha, hb, hc, _, _⟩ := say_nat hs
  obtain ⟨j, rfl⟩ : ∃ j : Nat, x = (j : Int) := ⟨x.toNat, by omega⟩
  simp only [Int.toNat_natCast] at h
  rw [hS0.2.1]
  apply s_layNow hS0 hf
  intro M1 hF1 hm _
  have hS1 := hS0.rs hF1
  rw [hS1.2.1]
  apply s_callsLaid (by omega) (by omega) (by omega) hm
  intro M2 hF2 hN
  have hag := hS1.2.2.2.1
  have hN : ∀ i, i < 8 → M2 77 i = nmS pp nf s F ag a' b' c' i := fun i hi => by
    rw [hN i hi, nmv_ag (hag a' ha) (hag b' hb) (hag c' hc)]; rfl
  obtain ⟨c1, c2, c3, c4, c5, c6⟩ := hS1.2.2.1.f77 hF2
  have hfk := c6 j (by omega)
  have hNo := nmS_ok (pp := pp) (nf := nf) (F := F) (ag := ag) (a := a') (b := b') (c := c') hf.2.1
  have e : rv (evl C (M2 77) (Bg j) (E j - Bg j) []) = rvv C Bg E j (nmS pp nf s F ag a' b' c') := rvv_congr hN hfk
  have fr : ∀ M3, Fp gset M2 M3 → Fp rs (mset M 59 0 0) M3 := fun M3 hM => hF1.tr ((hF2.mono (fun k j q => by unfold n77 at q; unfold rs; omega)).tr (hM.mono (fun k j q => by unfold gset at q; unfold rs; omega)))
  refine s_goes (b := Bg j) (e := E j) (C := C) (by omega) (c3 j (by omega)) (c4 j (by omega)) hfk.1 hfk.2.1 (c5 j (by omega)) hfk.2.2 (fun i hi => by rw [hN i hi]; exact hNo i hi) ?_ ?_
  · rw [e]
    intro v hv M3 hF3 h0
    refine ⟨fun z => absurd z (by decide), fun _ => ?_⟩
    rw [h0]
    have := h M3 (fr M3 hF3)
    rwa [hv] at this
  · rw [e]
    intro hv M3 hF3
    refine ⟨fun _ => ?_, fun z => absurd rfl z⟩
    have := h M3 (fr M3 hF3)
    rwa [hv] at this
theorem rgS_pm {pp n nf : Nat} {s : Int} {F : FTab} {ag C : Nat → Int} {Bg E : Nat → Nat} {a b c : Int} (hn : n < 6) : pm n (rgS pp n s nf F ag C Bg E a b c) := rgt_pm hn
def offV (pp n : Nat) (s : Int) (nf : Nat) (F : FTab) (ag C : Nat → Int) (Bg E : Nat → Nat) (a b c x : Int) : Int :=
  if isSay pp a b c ∧ rowB n x = true then (tcl n (rgS pp n s nf F ag C Bg E a b c) x.toNat : Int) else -1
def amdV (pp n : Nat) (s : Int) (nf : Nat) (F : FTab) (ag C : Nat → Int) (Bg E : Nat → Nat) (a b c x : Int) : Int :=
  if isSay pp a b c ∧ rowB n x = true then w32 ((n : Int) - (mxb (fitB n (rgS pp n s nf F ag C Bg E a b c) x.toNat) (2 ^ n) : Int)) else -1
theorem s_offence {pp n nf : Nat} {s : Int} {F : FTab} {ag C : Nat → Int} {Bg E : Nat → Nat} {M : Mem} {P : Int → Mem → Prop} {a b c x : Int} (hS : SC M pp n s nf F ag C Bg E) (hf : SF pp s nf F)
    (h : ∀ M', Fp csp M M' → P (offV pp n s nf F ag C Bg E a b c x) M') : CI m10_offence 6 [(19, ((0 : Nat) : Int)), (0, a), (0, b), (0, c), (0, x)] M P := by
  have hn := hS.2.2.1.2.2.1
  have hn6 := hS.2.2.1.2.1
  unfold offV at h
  apply q_10_offence
  apply s_isSaying hS.1
  refine ⟨fun q => ?_, fun q => ?_⟩
  · rw [if_neg (fun z => bi_eq q z.1)] at h; exact h M Fp.rf
  · rw [hn]
    apply s_isRow hn6
    refine ⟨fun q1 => ?_, fun q1 => ?_⟩
    · have hb := bi_ne q1
      rw [if_pos ⟨bi_ne q, hb⟩] at h
      obtain ⟨r, rfl, hr⟩ := rowB_pm hn6 hb
      apply s_rightNow hS hf (bi_ne q)
      intro M1 hF
      have hS1 := hS.fp hF (fun k j hk => Or.inl hk)
      rw [hS1.2.2.1.2.2.1]
      exact s_turned (rgS_pm hn6) hr (h M1 hF)
    · rw [if_neg (fun z => bi_eq q1 z.2)] at h; exact h M Fp.rf
theorem s_amends {pp n nf : Nat} {s : Int} {F : FTab} {ag C : Nat → Int} {Bg E : Nat → Nat} {M : Mem} {P : Int → Mem → Prop} {a b c x : Int} (hS : SC M pp n s nf F ag C Bg E) (hf : SF pp s nf F)
    (h : ∀ M', Fp csp M M' → P (amdV pp n s nf F ag C Bg E a b c x) M') : CI m10_amends 6 [(19, ((0 : Nat) : Int)), (0, a), (0, b), (0, c), (0, x)] M P := by
  have hn := hS.2.2.1.2.2.1
  have hn6 := hS.2.2.1.2.1
  unfold amdV at h
  apply q_10_amends
  apply s_isSaying hS.1
  refine ⟨fun q => ?_, fun q => ?_⟩
  · rw [if_neg (fun z => bi_eq q z.1)] at h; exact h M Fp.rf
  · rw [hn]
    apply s_isRow hn6
    refine ⟨fun q1 => ?_, fun q1 => ?_⟩
    · have hb := bi_ne q1
      rw [if_pos ⟨bi_ne q, hb⟩] at h
      obtain ⟨r, rfl, hr⟩ := rowB_pm hn6 hb
      apply s_rightNow hS hf (bi_ne q)
      intro M1 hF
      have hS1 := hS.fp hF (fun k j hk => Or.inl hk)
      rw [hS1.2.2.1.2.2.1]
      exact s_moved (rgS_pm hn6) hr (h M1 hF)
    · rw [if_neg (fun z => bi_eq q1 z.2)] at h; exact h M Fp.rf
theorem s_isSaid {pp n : Nat} {a b c x : Int} {M : Mem} {P : Int → Mem → Prop} (hp : M 61 0 = (pp : Int)) (hn6 : n < 6) (hn : M 61 2 = (n : Int)) (h : P (bi (isSay pp a b c ∧ rowB n x = true)) M) : CI m11_isSaid 4 [(20, ((59 : Nat) : Int)), (0, a), (0, b), (0, c), (0, x)] M P := by
  apply q_11_isSaid
  apply s_isSaying_r hp
  refine ⟨fun q => ?_, fun q => s_isRow_r hn6 hn ⟨fun q1 => ?_, fun q1 => ?_⟩⟩
  · rwa [bi_f (fun z => bi_eq q z.1)] at h
  · rwa [bi_f (fun z => bi_eq q1 z.2)] at h
  · rwa [bi_t ⟨bi_ne q, bi_ne q1⟩] at h
theorem s_offence_r {pp n nf : Nat} {s : Int} {F : FTab} {ag C : Nat → Int} {Bg E : Nat → Nat} {M : Mem} {P : Int → Mem → Prop} {a b c x : Int} (hS : SR M pp n s nf F ag C Bg E) (hf : SF pp s nf F)
    (h : ∀ M', Fp rs (mset M 59 0 0) M' → P (offV pp n s nf F ag C Bg E a b c x) M') : CI m11_offence 6 [(20, ((59 : Nat) : Int)), (0, a), (0, b), (0, c), (0, x)] M P := by
  have hS0 := hS.th (v := 0)
  have hn := hS0.2.2.1.2.1
  have hn6 := hS0.2.2.1.1
  unfold offV at h
  apply q_11_offence
  apply s_isSaid hS0.1 hn6 hn
  refine ⟨fun q => ?_, fun q => ?_⟩
  · have hq := bi_ne q
    rw [if_pos hq] at h
    obtain ⟨r, rfl, hr⟩ := rowB_pm hn6 hq.2
    apply s_rightNow_r hS0 hf hq.1
    intro M1 hF
    have hS1 := hS0.rs hF
    exact s_turned_r (rgS_pm hn6) hr hS1.2.2.1.2.1 (h M1 hF)
  · rw [if_neg (bi_eq q)] at h; exact h _ Fp.rf
theorem s_amends_r {pp n nf : Nat} {s : Int} {F : FTab} {ag C : Nat → Int} {Bg E : Nat → Nat} {M : Mem} {P : Int → Mem → Prop} {a b c x : Int} (hS : SR M pp n s nf F ag C Bg E) (hf : SF pp s nf F)
    (h : ∀ M', Fp rs (mset M 59 0 0) M' → P (amdV pp n s nf F ag C Bg E a b c x) M') : CI m11_amends 6 [(20, ((59 : Nat) : Int)), (0, a), (0, b), (0, c), (0, x)] M P := by
  have hS0 := hS.th (v := 0)
  have hn := hS0.2.2.1.2.1
  have hn6 := hS0.2.2.1.1
  unfold amdV at h
  apply q_11_amends
  apply s_isSaid hS0.1 hn6 hn
  refine ⟨fun q => ?_, fun q => ?_⟩
  · have hq := bi_ne q
    rw [if_pos hq] at h
    obtain ⟨row, rfl, hr⟩ := rowB_pm hn6 hq.2
    apply s_rightNow_r hS0 hf hq.1
    intro M1 hF
    have hS1 := hS0.rs hF
    have h1 : pm n (rgS pp n s nf F ag C Bg E a b c) := rgS_pm hn6
    have hfin := h M1 hF
    rw [Int.toNat_natCast] at hfin
    generalize rgS pp n s nf F ag C Bg E a b c = right at h1 hfin ⊢
    obtain ⟨e1, e2⟩ := shl1 n hn6
    have hn1 := hS1.2.2.1.2.1
    refine loop_up (Inv := fun k M2 => M2 = M1) (G := fun k M2 => A m11_amends 6 0 46 [(20, ((59 : Nat) : Int)), (2, 0), (2, 0), (2, 0), (0, (row : Int)), (0, (right : Int)), (0, (mxb (fitB n right row) k : Int)), (0, (k : Int))] [] M2 (Ki P)) (2 ^ n) ?_ ?_ 0 M1 (Nat.zero_le _) rfl
    · rintro M2 rfl
      apply r_11_amends_46
      rw [hn1, e1]
      exact ⟨fun _ => hfin, fun q => by omega⟩
    · rintro k M2 hk rfl ih
      have := ih M2 rfl
      apply r_11_amends_46
      rw [hn1, e1]
      refine ⟨fun q => by omega, fun _ => ?_⟩
      apply s_stays hr h1 (by omega) hn1
      rw [w_1 (by omega)]
      unfold mxb at this
      refine ⟨fun q => ?_, fun q => ?_⟩
      · rw [if_neg (by unfold fitB; simp only [decide_eq_true_eq]; exact bi_eq q)] at this
        exact this
      · rw [if_pos (by unfold fitB; simp only [decide_eq_true_eq]; exact bi_ne q)] at this
        apply s_bitsOf (by omega)
        have e3 : (if (mxb (fitB n right row) k : Int) < (pcn k : Int) then (pcn k : Int) else (mxb (fitB n right row) k : Int)) = ((if mxb (fitB n right row) k < pcn k then pcn k else mxb (fitB n right row) k : Nat) : Int) := by
          by_cases z : mxb (fitB n right row) k < pcn k
          · rw [if_pos z, if_pos (by omega)]
          · rw [if_neg z, if_neg (by omega)]
        rw [e3]
        exact this
  · rw [if_neg (bi_eq q)] at h; exact h _ Fp.rf
def stdV (pp nf : Nat) (F : FTab) (a b x : Int) : Int :=
  if isTwo pp a b ∧ (0 ≤ x ∧ x < 4) then (if btw (abv F nf pp x) a.toNat b.toNat < 0 then 2 else btw (abv F nf pp x) a.toNat b.toNat) else -1
theorem s_stands {pp n nf : Nat} {s : Int} {F : FTab} {ag C : Nat → Int} {Bg E : Nat → Nat} {M : Mem} {P : Int → Mem → Prop} {a b x : Int} (hS : SC M pp n s nf F ag C Bg E) (hf : SF pp s nf F)
    (h : ∀ M', Fp csp M M' → P (stdV pp nf F a b x) M') : CI m10_stands 4 [(19, ((0 : Nat) : Int)), (0, a), (0, b), (0, x)] M P := by
  have h5 := hf.1
  unfold stdV at h
  apply q_10_stands
  apply s_areTwo hS.1
  refine ⟨fun q => ?_, fun q => s_isSeason ⟨fun q1 => ?_, fun q1 => ?_⟩⟩
  · rw [if_neg (fun z => bi_eq q z.1)] at h; exact h M Fp.rf
  · rw [if_pos ⟨bi_ne q, bi_ne q1⟩] at h
    obtain ⟨a', b', rfl, rfl, ha, hb, _⟩ := two_nat (bi_ne q)
    simp only [Int.toNat_natCast] at h
    rw [hS.1]
    apply s_buildS hS hf
    intro M1 hF _ _ _ hr
    apply s_between (B := abv F nf pp x) isO34 (by omega) (by omega) hr
    have := h M1 hF
    refine ⟨fun z => ?_, fun z => ?_⟩
    · rwa [if_neg (by omega)] at this
    · rwa [if_pos z] at this
  · rw [if_neg (fun z => bi_eq q1 z.2)] at h; exact h M Fp.rf
theorem s_stands_r {pp n nf : Nat} {s : Int} {F : FTab} {ag C : Nat → Int} {Bg E : Nat → Nat} {M : Mem} {P : Int → Mem → Prop} {a b x : Int} (hS : SR M pp n s nf F ag C Bg E) (hf : SF pp s nf F)
    (h : ∀ M', Fp rs (mset M 59 0 0) M' → P (stdV pp nf F a b x) M') : CI m11_stands 4 [(20, ((59 : Nat) : Int)), (0, a), (0, b), (0, x)] M P := by
  have h5 := hf.1
  have hS0 := hS.th (v := 0)
  unfold stdV at h
  apply q_11_stands
  apply s_areTwo_r hS0.1
  refine ⟨fun q => ?_, fun q => s_isSeason_r ⟨fun q1 => ?_, fun q1 => ?_⟩⟩
  · rw [if_neg (fun z => bi_eq q z.1)] at h; exact h _ Fp.rf
  · rw [if_pos ⟨bi_ne q, bi_ne q1⟩] at h
    obtain ⟨a', b', rfl, rfl, ha, hb, _⟩ := two_nat (bi_ne q)
    simp only [Int.toNat_natCast] at h
    apply s_layNow hS0 hf
    intro M1 hF hm _
    apply s_standsLaid (by omega) (by omega) hm
    exact h M1 hF
  · rw [if_neg (fun z => bi_eq q1 z.2)] at h; exact h _ Fp.rf
