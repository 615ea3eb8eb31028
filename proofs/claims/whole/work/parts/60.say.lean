/-! say, place, offence, amends, stands -/
def nmS (pp nf : Nat) (s : Int) (F : FTab) (ag : Nat → Int) (a b c : Nat) : Nat → Int := nmv ag a b c s (btw (abv F nf pp s) b a) (btw (abv F nf pp s) c a) (btw (abv F nf pp s) c b)
theorem nmv_ag {ag ag' : Nat → Int} {a b c : Nat} {s x y z : Int} (h1 : ag a = ag' a) (h2 : ag b = ag' b) (h3 : ag c = ag' c) : nmv ag a b c s x y z = nmv ag' a b c s x y z := by
  funext i
  unfold nmv
  rw [h1, h2, h3]
theorem nmS_ok {pp nf : Nat} {s : Int} {F : FTab} {ag : Nat → Int} {a b c : Nat} (hs : 0 ≤ s ∧ s ≤ 3) : Nok (nmS pp nf s F ag a b c) := nmv_ok (by omega) (btw_bd _ _ _) (btw_bd _ _ _) (btw_bd _ _ _)
theorem isO34 : isO 34 := ⟨by decide, by decide, by decide, by decide⟩
theorem SC.fok {M : Mem} {pp n nf : Nat} {s : Int} {F : FTab} {ag C : Nat → Int} {Bg E : Nat → Nat} (h : SC M pp n s nf F ag C Bg E) (hf : SF pp s nf F) : FOK M 30 nf pp :=
  ⟨by decide, h.2.2.2.2.1, hf.2.2.1, Fin5_same h.2.2.2.2.2 hf.2.2.2.1.1⟩
theorem Fr.cs {M M' : Mem} {t : Nat → Prop} (h : Fr t M M') (ht : ∀ k, t k → cs k) : Fp csp M M' := fun k j hk => by rw [h k (fun q => hk (ht k q))]
theorem Fp.cs {M M' : Mem} {t : Nat → Nat → Prop} (h : Fp t M M') (ht : ∀ k j, t k j → _root_.Nat.lt k 59 ∧ cs k) : Fp csp M M' := h.mono (fun k j q => (ht k j q).2)
theorem s_buildS {pp n nf : Nat} {s x : Int} {F : FTab} {ag C : Nat → Int} {Bg E : Nat → Nat} {M : Mem} {P : Mem → Prop} (hS : SC M pp n s nf F ag C Bg E) (hf : SF pp s nf F)
    (h : ∀ M', Fp csp M M' → M' 34 4 = (pp : Int) → rows M' 35 (lvl F nf) → rows M' 36 (ob F (lvl F nf) x nf) → rows M' 37 (abv F nf pp x) → P M') : CD m5_build 3 [(15, ((34 : Nat) : Int)), (12, ((30 : Nat) : Int)), (0, x), (0, (pp : Int))] M P := by
  have hsame := hS.2.2.2.2.2
  apply s_build isO34 hf.1 (hS.fok hf) (by omega)
  rw [lvl_same hsame nf (Nat.le_refl nf), ob_same hsame nf (Nat.le_refl nf), abv_same hsame]
  intro M' hF hp h1 h2 h3
  exact h M' (hF.cs (fun k hk => by unfold oset at hk; unfold cs; omega)) hp h1 h2 h3
theorem s_meetNow {pp n nf : Nat} {s : Int} {F : FTab} {ag C : Nat → Int} {Bg E : Nat → Nat} {M : Mem} {P : Mem → Prop} {a b c : Nat} (hS : SC M pp n s nf F ag C Bg E) (hf : SF pp s nf F) (ha : a < pp) (hb : b < pp) (hc : c < pp)
    (h : ∀ M', Fp csp M M' → (∀ i, i < 8 → M' 40 i = nmS pp nf s F ag a b c i) → P M') : CD m10_meetNow 5 [(19, ((0 : Nat) : Int)), (0, (a : Int)), (0, (b : Int)), (0, (c : Int))] M P := by
  have h5 := hf.1
  apply q_10_meetNow
  rw [hS.1, hS.2.1]
  apply s_buildS hS hf
  intro M1 hF1 _ _ _ hr
  have hS1 := hS.fp hF1 (fun k j hk => Or.inl hk)
  rw [hS1.2.1]
  apply s_meet (Or.inr rfl) (by omega) (by omega) (by omega)
  intro M2 hF2 hN2
  apply s_standBy (B := abv F nf pp s) isO34 (by omega) (by omega) (by omega) (by omega) (fun p hp => by rw [hF2 37 p (by unfold mset40; omega)]; exact hr p hp) (hf.2.2.2.2 s hf.2.1.1 hf.2.1.2)
  intro M3 hF3 x0 x1 x2
  have hag := hS1.2.2.2.1
  have e := nmv_ag (s := s) (x := 0) (y := 0) (z := 0) (hag a ha) (hag b hb) (hag c hc)
  rw [show (21 + 2 : Nat) = 23 from rfl, e] at hN2
  refine h M3 (hF1.tr ((hF2.mono (fun k j q => ?_)).tr (hF3.mono (fun k j q => ?_)))) (fun i hi => ?_)
  · unfold mset40 at q; unfold csp cs; omega
  · unfold wset at q; unfold csp cs; omega
  · match i, hi with
    | 0, _ => exact x0
    | 1, _ => exact x1
    | 2, _ => exact x2
    | 3, _ => rw [hF3 40 3 (by unfold wset; omega), hN2 3 (by omega) (by omega)]; rfl
    | 4, _ => rw [hF3 40 4 (by unfold wset; omega), hN2 4 (by omega) (by omega)]; rfl
    | 5, _ => rw [hF3 40 5 (by unfold wset; omega), hN2 5 (by omega) (by omega)]; rfl
    | 6, _ => rw [hF3 40 6 (by unfold wset; omega), hN2 6 (by omega) (by omega)]; rfl
    | 7, _ => rw [hF3 40 7 (by unfold wset; omega), hN2 7 (by omega) (by omega)]; rfl
/-- what is RIGHT once the NAMES are called -/
theorem s_rightS {b n : Nat} {C N : Nat → Int} {Bg E : Nat → Nat} {M : Mem} {P : Int → Mem → Prop} (hb : Bk M b n C Bg E) (hN : ∀ i, i < 8 → M 40 i = N i) (hk : Nok N) (h : ∀ M', Fr (rset b) M M' → P (rgt C Bg E n N : Int) M') : CI m9_rightRow 5 [(18, ((39 : Nat) : Int)), (10, (b : Int))] M P := by
  apply s_rightRow hb (fun i hi => by rw [hN i hi]; exact hk i hi)
  have e : crow (Wt C Bg E (M 40)) n n = rgt C Bg E n N := rgt_congr hN hb.2.2.2.2.2.2
  rw [e]; exact h
theorem rset_cs {M M' : Mem} (h : Fr (rset 21) M M') : Fp csp M M' := h.cs (fun k hk => by unfold rset at hk; unfold cs; omega)
def rgS (pp n : Nat) (s : Int) (nf : Nat) (F : FTab) (ag C : Nat → Int) (Bg E : Nat → Nat) (a b c : Int) : Nat := rgt C Bg E n (nmS pp nf s F ag a.toNat b.toNat c.toNat)
def sayV (pp n : Nat) (s : Int) (nf : Nat) (F : FTab) (ag C : Nat → Int) (Bg E : Nat → Nat) (a b c : Int) : Int := if isSay pp a b c then (rgS pp n s nf F ag C Bg E a b c : Int) else -1
/-- meetNow and rightRow together -/
theorem s_rightNow {pp n nf : Nat} {s : Int} {F : FTab} {ag C : Nat → Int} {Bg E : Nat → Nat} {M : Mem} {P : Int → Mem → Prop} {a b c : Int} (hS : SC M pp n s nf F ag C Bg E) (hf : SF pp s nf F) (hs : isSay pp a b c)
    (h : ∀ M', Fp csp M M' → P (rgS pp n s nf F ag C Bg E a b c : Int) M') : CD m10_meetNow 5 [(19, ((0 : Nat) : Int)), (0, a), (0, b), (0, c)] M (fun M8 => CI m9_rightRow 5 [(18, ((39 : Nat) : Int)), (10, ((21 : Nat) : Int))] M8 P) := by
  obtain ⟨a', b', c', rfl, rfl, rfl, ha, hb, hc, _, _⟩ := say_nat hs
  unfold rgS at h
  simp only [Int.toNat_natCast] at h
  apply s_meetNow hS hf ha hb hc
  intro M1 hF1 hN
  have hS1 := hS.fp hF1 (fun k j hk => Or.inl hk)
  apply s_rightS hS1.2.2.1 hN (nmS_ok hf.2.1)
  intro M2 hF2
  exact h M2 (hF1.tr (rset_cs hF2))
theorem s_say {pp n nf : Nat} {s : Int} {F : FTab} {ag C : Nat → Int} {Bg E : Nat → Nat} {M : Mem} {P : Int → Mem → Prop} {a b c : Int} (hS : SC M pp n s nf F ag C Bg E) (hf : SF pp s nf F)
    (h : ∀ M', Fp csp M M' → P (sayV pp n s nf F ag C Bg E a b c) M') : CI m10_say 6 [(19, ((0 : Nat) : Int)), (0, a), (0, b), (0, c)] M P := by
  apply q_10_say
  apply s_isSaying hS.1
  refine ⟨fun q => ?_, fun q => ?_⟩
  · apply s_rightNow hS hf (bi_ne q)
    intro M1 hF
    have := h M1 hF
    unfold sayV at this
    rwa [if_pos (bi_ne q)] at this
  · have := h M Fp.rf
    unfold sayV at this
    rwa [if_neg (bi_eq q)] at this
/-- the reference lays the ORDER for now and calls what is RIGHT -/
theorem SR.fgood {M : Mem} {pp n nf : Nat} {s : Int} {F : FTab} {ag C : Nat → Int} {Bg E : Nat → Nat} (h : SR M pp n s nf F ag C Bg E) (hf : SF pp s nf F) : Fgood (FrT M 0) nf pp := Fgood_same h.2.2.2.2.2 hf.2.2.2.1
theorem s_layNow {pp n nf : Nat} {s x : Int} {F : FTab} {ag C : Nat → Int} {Bg E : Nat → Nat} {M : Mem} {P : Mem → Prop} (hS : SR M pp n s nf F ag C Bg E) (hf : SF pp s nf F)
    (h : ∀ M', Fp rs M M' → mat M' 74 (abv F nf pp x) → mat M' 75 (lvl F nf) → P M') : CD m11_layNow 3 [(20, ((59 : Nat) : Int)), (0, x)] M P := by
  have hsame := hS.2.2.2.2.2
  apply q_11_layNow
  rw [hS.1, hS.2.2.2.2.1]
  apply s_layOrder (b := 0) (by have := hf.2.2.1; omega) hf.1 (hS.fgood hf)
  rw [lvl_same hsame nf (Nat.le_refl nf), abv_same hsame]
  intro M' hF h1 h2
  exact h M' (hF.p.mono (fun k j q => by unfold m45 at q; unfold rs; omega)) h1 h2
theorem SR.rs {M M' : Mem} {pp n nf : Nat} {s : Int} {F : FTab} {ag C : Nat → Int} {Bg E : Nat → Nat} (h : SR M pp n s nf F ag C Bg E) (hF : Fp rs M M') : SR M' pp n s nf F ag C Bg E := h.fp hF (fun _ _ q => Or.inr (Or.inl q))
theorem SR.th {M : Mem} {v : Int} {pp n nf : Nat} {s : Int} {F : FTab} {ag C : Nat → Int} {Bg E : Nat → Nat} (h : SR M pp n s nf F ag C Bg E) : SR (mset M 59 0 v) pp n s nf F ag C Bg E := h.fp (t := fun k j => k = 59 ∧ j = 0) (Fp.rf.set ⟨rfl, rfl⟩) (fun k j q => Or.inr (Or.inr (Or.inr (by omega))))
theorem rrset_rs {M M' : Mem} (h : Fp rrset M M') : Fp rs M M' := h.mono (fun k j q => by unfold rrset aset gset at q; unfold rs; omega)
theorem s_rightNow_r {pp n nf : Nat} {s : Int} {F : FTab} {ag C : Nat → Int} {Bg E : Nat → Nat} {M : Mem} {P : Int → Mem → Prop} {a b c : Int} (hS : SR M pp n s nf F ag C Bg E) (hf : SF pp s nf F) (hs : isSay pp a b c)
    (h : ∀ M', Fp rs M M' → P (rgS pp n s nf F ag C Bg E a b c : Int) M') : CD m11_layNow 3 [(20, ((59 : Nat) : Int)), (0, (M 59 32))] M (fun M8 => CI m11_right 5 [(20, ((59 : Nat) : Int)), (0, a), (0, b), (0, c), (0, (M8 59 32))] M8 P) := by
  have h5 := hf.1
  obtain ⟨a', b', c', rfl, rfl, rfl, ha, hb, hc, _, _⟩ := say_nat hs
  unfold rgS nmS at h
  simp only [Int.toNat_natCast] at h
  rw [hS.2.1]
  apply s_layNow hS hf
  intro M1 hF1 hm _
  have hS1 := hS.rs hF1
  rw [hS1.2.1]
  apply s_right hS1.2.2.1 (by omega) (by omega) (by omega) (by have := hf.2.1; omega) hm
  intro M2 hF2
  have hag := hS1.2.2.2.1
  rw [nmv_ag (hag a' ha) (hag b' hb) (hag c' hc)]
  exact h M2 (hF1.tr (rrset_rs hF2))
theorem s_say_r {pp n nf : Nat} {s : Int} {F : FTab} {ag C : Nat → Int} {Bg E : Nat → Nat} {M : Mem} {P : Int → Mem → Prop} {a b c : Int} (hS : SR M pp n s nf F ag C Bg E) (hf : SF pp s nf F)
    (h : ∀ M', Fp rs (mset M 59 0 0) M' → P (sayV pp n s nf F ag C Bg E a b c) M') : CI m11_say 6 [(20, ((59 : Nat) : Int)), (0, a), (0, b), (0, c)] M P := by
  apply q_11_say
  have hS0 := hS.th (v := 0)
  apply s_isSaying_r hS0.1
  refine ⟨fun q => ?_, fun q => ?_⟩
  · apply s_rightNow_r hS0 hf (bi_ne q)
    intro M1 hF
    have := h M1 hF
    unfold sayV at this
    rwa [if_pos (bi_ne q)] at this
  · have := h _ Fp.rf
    unfold sayV at this
    rwa [if_neg (bi_eq q)] at this
