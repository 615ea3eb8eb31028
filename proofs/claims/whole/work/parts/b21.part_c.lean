/-! the class's Reader: a part, rise; one line -/
def LDw (M : Mem) (L : LnS) (f : Nat) : Prop :=
  M 2 2 = (L.1 8 : Int) ∧ M 5 2 = (L.1 1 : Int) ∧ M 5 4 = (L.1 3 : Int) ∧ M 5 6 = (L.1 5 : Int) ∧ M 5 7 = (L.1 4 : Int) ∧ M 5 8 = (L.1 6 : Int) ∧ FMc M (L.1 7) L.2.2.2 ∧ (∀ i, i < L.1 1 → M 6 i = L.2.1 0 i ∧ M 7 i = L.2.1 1 i) ∧ (∀ i, i < L.1 3 → M 8 i = L.2.1 2 i) ∧ (∀ i, i < L.1 3 ∨ (i = 5 ∧ L.1 6 = 1) → i ≠ f → M 11 i = L.2.1 3 i ∧ M 12 i = L.2.1 4 i) ∧ M 14 1 = (L.1 2 : Int) ∧ SameF (FcT M 14) L.2.2.1 (L.1 2)
theorem LDw.fp {M M' : Mem} {L : LnS} {f : Nat} {q : Nat → Nat → Prop} (h : LDw M L f) (hF : Fp q M M') (hq : ∀ k j, q k j → ldset k j) : LDw M' L f := by
  obtain ⟨h1, h2, h3, h4, h5, h6, ⟨f1, f2, f3⟩, h7, h8, h9, h10, h11⟩ := h
  have e : ∀ k, 5 ≤ k → k ≤ 15 → M' k = M k := fun k z1 z2 => hF.row (fun j hc => by have := hq k j hc; unfold ldset at this; omega)
  have e22 : M' 2 2 = M 2 2 := hF 2 2 (fun hc => by have := hq 2 2 hc; unfold ldset at this; omega)
  unfold LDw FMc FcT
  rw [e22, e 5 (by omega) (by omega), e 6 (by omega) (by omega), e 7 (by omega) (by omega), e 8 (by omega) (by omega), e 9 (by omega) (by omega), e 10 (by omega) (by omega), e 11 (by omega) (by omega), e 12 (by omega) (by omega), e 14 (by omega) (by omega), e 15 (by omega) (by omega)]
  exact ⟨h1, h2, h3, h4, h5, h6, ⟨f1, f2, f3⟩, h7, h8, h9, h10, h11⟩
theorem s_forC {t : Nat → Int} {n c f : Nat} {L : LnS} {M : Mem} {Q : Int → Mem → Prop} (hT : TCm M t n) (hc : c ≤ n) (hK : KC M t n c) (h3 : M 2 3 = 0) (hD : LDw M L f) (hf : f < 6) (hk : L.1 7 ≤ 64) (hlen : L.2.2.2.length = L.1 7)
    (hy : ∀ L1 c1, forF t n L f c = endF t n L1 c1 → c1 ≤ n → L1.1 8 = L.1 8 → ∀ M', Fp lnC M M' → KC M' t n c1 → M' 2 3 = 0 → LD M' L1 → Q 1 M') (hn : ∀ f' pl, forF t n L f c = .inr (f', pl) → f' ≠ 0 → ∀ M', Fp lnC M M' → M' 2 3 = (f' : Int) → M' 2 4 = (pl : Int) → Q 0 M') : CI m7_readFormula 5 [(17, ((2 : Nat) : Int)), (0, (f : Int))] M Q := by
  obtain ⟨h1, h2, h5, h6, h7, h8, hFM, h9, h10, h11, h12, h13⟩ := hD
  unfold forF at hy hn
  have fl : ∀ {M' : Mem}, Fp (exG f) M M' → Fp lnC M M' := fun hF => hF.mono (fun k j q => by unfold exG exF exC rdset at q; unfold lnC; omega)
  apply s_readFormula hT hc hK h3 hFM hk hlen hf
  · intro z' e hZ hs M' hF hK' h3' hFM' k11 k12
    rw [e] at hy
    have ee : ∀ k, (5 ≤ k ∧ k ≤ 8) ∨ k = 14 ∨ k = 15 → M' k = M k := fun k z => hF.row (fun j => by unfold exG exF exC rdset; omega)
    refine hy _ z'.1 rfl hZ.1 ?_ M' (fl hF) hK' h3' ⟨?_, ?_, ?_, ?_, ?_, ?_, hFM', ?_, ?_, ?_, ?_, ?_⟩
    · exact udg_o (x := L.1) (d := 7) (e := 8) (v := z'.2.2.2.2.1) (by decide)
    · rw [hF 2 2 (by unfold exG exF exC rdset; omega)]; exact h1
    · rw [ee 5 (by omega)]; exact h2
    · rw [ee 5 (by omega)]; exact h5
    · rw [ee 5 (by omega)]; exact h6
    · rw [ee 5 (by omega)]; exact h7
    · rw [ee 5 (by omega)]; exact h8
    · rw [ee 6 (by omega), ee 7 (by omega)]
      intro i hi
      show _ = ud2 (ud2 L.2.1 3 f (L.2.2.2.length : Int)) 4 f ((outE z').length : Int) 0 i ∧ _ = ud2 (ud2 L.2.1 3 f (L.2.2.2.length : Int)) 4 f ((outE z').length : Int) 1 i
      rw [ud2_o (by omega), ud2_o (by omega), ud2_o (by omega), ud2_o (by omega)]
      exact h9 i hi
    · rw [ee 8 (by omega)]
      intro i hi
      show _ = ud2 (ud2 L.2.1 3 f (L.2.2.2.length : Int)) 4 f ((outE z').length : Int) 2 i
      rw [ud2_o (by omega), ud2_o (by omega)]
      exact h10 i hi
    · intro i hi
      have hi : i < L.1 3 ∨ (i = 5 ∧ L.1 6 = 1) := hi
      show _ = ud2 (ud2 L.2.1 3 f (L.2.2.2.length : Int)) 4 f ((outE z').length : Int) 3 i ∧ _ = ud2 (ud2 L.2.1 3 f (L.2.2.2.length : Int)) 4 f ((outE z').length : Int) 4 i
      rw [ud2_o (show ¬ (3 = 4 ∧ i = f) by omega)]
      by_cases z : i = f
      · subst z
        rw [ud2_s, ud2_s]
        exact ⟨k11, k12⟩
      · rw [ud2_o (by omega), ud2_o (by omega), ud2_o (by omega), hF 11 i (by unfold exG exF exC rdset; omega), hF 12 i (by unfold exG exF exC rdset; omega)]
        exact h11 i hi z
    · rw [ee 14 (by omega)]; exact h12
    · unfold FcT; rw [ee (14 + 1) (by omega)]; exact h13
  · intro k pl e hk0 M' hF k3 k4
    rw [e] at hn
    exact hn k pl rfl hk0 M' (fl hF) k3 k4
theorem s_readPartName {t : Nat → Int} {n : Nat} {L : LnS} {M : Mem} {Q : Int → Mem → Prop} (hT : TCm M t n) (hc : L.1 0 ≤ n) (hK : KC M t n (L.1 0)) (h3 : M 2 3 = 0) (hD : LD M L) (h5 : L.1 3 ≤ 5)
    (hy : ∀ L1 c1, parF t n L = forF t n L1 (L.1 3) c1 → L.1 3 < 5 → c1 ≤ n → L1.1 8 = L.1 8 → L1.1 7 = L.1 7 → L1.2.2.2 = L.2.2.2 → L1.1 3 = L.1 3 + 1 → ∀ M', Fp lnC M M' → KC M' t n c1 → M' 2 3 = 0 → LDw M' L1 (L.1 3) → Q 1 M') (hn : ∀ f pl, parF t n L = .inr (f, pl) → f ≠ 0 → ∀ M', Fp lnC M M' → M' 2 3 = (f : Int) → M' 2 4 = (pl : Int) → Q 0 M') : CI m7_readPartName 4 [(17, ((2 : Nat) : Int))] M Q := by
  have hb := hT.2.2.2.1
  have a8 : ((aln (5 + 3) : Nat) : Int) = 5 := by decide
  unfold parF at hy hn
  apply q_7_readPartName
  rw [hD.2.2.1]
  have hc1 := (tkE_p hb hc).2.1
  generalize hce : tkE t n (L.1 0) = c1 at hy hn hc1
  refine ⟨fun q => ?_, fun q => ?_⟩
  · rw [if_neg (by omega)] at hy hn
    apply s_next (c := c1) hT hc1 (by rw [hK.1, hce]) hK.p
    intro M1 hF1 hK1
    have hFa : Fp lnC M M1 := hF1.mono (fun k j q => rd_ln q)
    have hT1 := lnC_T hT hFa
    have hD1 := hD.fp hF1 (fun k j q => rd_ld q)
    have h31 : M1 2 3 = 0 := by rw [hF1 2 3 (by unfold rdset; omega)]; exact h3
    apply s_isName hT1 hK1
    refine ⟨fun q1 => ?_, fun q1 => ?_⟩
    · have s1 := bi_ne q1
      rw [if_neg (fun z => z s1)] at hy hn
      have w2 := (KC_w hK1).2.1 s1
      rw [w2.1]
      apply s_partNamedC hD1 h5
      refine ⟨fun q2 => ?_, fun q2 => ?_⟩
      · rw [if_neg (fun z => z q2)] at hy hn
        have hc2 := (tkE_p hb hc1).2.1
        generalize hce2 : tkE t n c1 = c2 at hy hn hc2
        rw [w2.1]
        apply q_0_addPart
        rw [hD1.2.2.1]
        apply s_put (by omega) (by omega)
        rw [mset_k (by decide), hD1.2.2.1, w_1 (i := L.1 3) (by omega), Int.toNat_natCast]
        have fx : Fp (fun k j => k = 8 ∨ (k = 5 ∧ j = 4)) M1 (mset (mset M1 (5 + 3) (L.1 3) (tkV t n c1)) 5 4 ((L.1 3 + 1 : Nat) : Int)) := (Fp.rf.set (Or.inl rfl)).set (Or.inr ⟨rfl, rfl⟩)
        have dw : LDw (mset (mset M1 (5 + 3) (L.1 3) (tkV t n c1)) 5 4 ((L.1 3 + 1 : Nat) : Int)) (LSmk (udg L.1 3 (L.1 3 + 1)) (ud2 L.2.1 2 (L.1 3) (tkV t n c1)) L.2.2.1 L.2.2.2) (L.1 3) := by
          obtain ⟨d1, d2, d3, d4, d5, d6, ⟨f1, f2, f3⟩, d7, d8, d9, d10, d11⟩ := hD1
          have e : ∀ k, k ≠ 5 → k ≠ 8 → mset (mset M1 (5 + 3) (L.1 3) (tkV t n c1)) 5 4 ((L.1 3 + 1 : Nat) : Int) k = M1 k := fun k z1 z2 => fx.row (fun j => by omega)
          have e5 : ∀ j, j ≠ 4 → mset (mset M1 (5 + 3) (L.1 3) (tkV t n c1)) 5 4 ((L.1 3 + 1 : Nat) : Int) 5 j = M1 5 j := fun j z => fx 5 j (by omega)
          refine ⟨by rw [e 2 (by decide) (by decide)]; exact d1, by rw [e5 2 (by decide)]; exact d2, by rw [mset_s]; rfl, by rw [e5 6 (by decide)]; exact d4, by rw [e5 7 (by decide)]; exact d5, by rw [e5 8 (by decide)]; exact d6, ⟨by rw [e 9 (by decide) (by decide)]; exact f1, by rw [e 9 (by decide) (by decide)]; exact f2, by rw [e 10 (by decide) (by decide)]; exact f3⟩, ?_, ?_, ?_, by rw [e 14 (by decide) (by decide)]; exact d10, by unfold FcT; rw [e (14 + 1) (by decide) (by decide)]; exact d11⟩
          · rw [e 6 (by decide) (by decide), e 7 (by decide) (by decide)]
            intro i hi
            show _ = ud2 L.2.1 2 (L.1 3) (tkV t n c1) 0 i ∧ _ = ud2 L.2.1 2 (L.1 3) (tkV t n c1) 1 i
            rw [ud2_o (by omega), ud2_o (by omega)]
            exact d7 i hi
          · intro i hi
            have hi : i < L.1 3 + 1 := hi
            show _ = ud2 L.2.1 2 (L.1 3) (tkV t n c1) 2 i
            rw [mset_k (by decide)]
            by_cases z : i = L.1 3
            · subst z; rw [ud2_s]; exact mset_s
            · rw [ud2_o (by omega)]
              show mset M1 8 (L.1 3) _ 8 i = _
              rw [mset_j z]; exact d8 i (by omega)
          · rw [e 11 (by decide) (by decide), e 12 (by decide) (by decide)]
            intro i hi hne
            have hi : i < L.1 3 + 1 ∨ (i = 5 ∧ L.1 6 = 1) := hi
            show _ = ud2 L.2.1 2 (L.1 3) (tkV t n c1) 3 i ∧ _ = ud2 L.2.1 2 (L.1 3) (tkV t n c1) 4 i
            rw [ud2_o (by omega), ud2_o (by omega)]
            exact d9 i (by omega)
        have hT2 := hT1.fp fx (fun k j q => by omega)
        have hK2 := hK1.fp fx (fun j _ _ => by omega)
        have h32 : mset (mset M1 (5 + 3) (L.1 3) (tkV t n c1)) 5 4 ((L.1 3 + 1 : Nat) : Int) 2 3 = 0 := by rw [fx 2 3 (by omega)]; exact h31
        apply s_next (c := c2) hT2 hc2 (by rw [hK2.1, hce2]) hK2.p
        intro M3 hF3 hK3
        exact hy _ c2 rfl (by omega) hc2 (udg_o (x := L.1) (d := 3) (e := 8) (v := L.1 3 + 1) (by decide)) (udg_o (x := L.1) (d := 3) (e := 7) (v := L.1 3 + 1) (by decide)) rfl (udg_s (x := L.1) (d := 3) (v := L.1 3 + 1)) M3 (hFa.tr ((fx.mono (fun k j q => by unfold lnC; omega)).tr (hF3.mono (fun k j q => rd_ln q)))) hK3 (by rw [hF3 2 3 (by unfold rdset; omega)]; exact h32) (dw.fp hF3 (fun k j q => rd_ld q))
      · rw [if_pos q2] at hn
        exact s_failC (k := 3) hK1 (fun M' hF k3 k4 => ⟨Or.inl rfl, hn _ _ rfl (by decide) M' (hFa.tr (hF.mono (fun k j q => fl_ln q))) k3 k4⟩)
    · have s1 := bi_eq q1
      rw [if_pos s1] at hn
      exact s_failC (k := 1) hK1 (fun M' hF k3 k4 => ⟨Or.inl rfl, hn _ _ rfl (by decide) M' (hFa.tr (hF.mono (fun k j q => fl_ln q))) k3 k4⟩)
  · rw [if_pos (by omega)] at hn
    exact s_failC (k := 2) hK (fun M' hF k3 k4 => ⟨Or.inl rfl, hn _ _ rfl (by decide) M' (hF.mono (fun k j q => fl_ln q)) k3 k4⟩)
theorem s_readRiseWord {t : Nat → Int} {n : Nat} {L : LnS} {M : Mem} {Q : Int → Mem → Prop} (hT : TCm M t n) (hc : L.1 0 ≤ n) (hK : KC M t n (L.1 0)) (h3 : M 2 3 = 0) (hD : LD M L)
    (hy : ∀ L1 c1, risF t n L = forF t n L1 5 c1 → c1 ≤ n → L1.1 8 = L.1 8 → L1.1 7 = L.1 7 → L1.2.2.2 = L.2.2.2 → ∀ M', Fp lnC M M' → KC M' t n c1 → M' 2 3 = 0 → LDw M' L1 5 → Q 1 M') (hn : ∀ f pl, risF t n L = .inr (f, pl) → f ≠ 0 → ∀ M', Fp lnC M M' → M' 2 3 = (f : Int) → M' 2 4 = (pl : Int) → Q 0 M') : CI m7_readRiseWord 4 [(17, ((2 : Nat) : Int))] M Q := by
  have hb := hT.2.2.2.1
  unfold risF at hy hn
  apply q_7_readRiseWord
  rw [hD.2.2.2.2.2.1]
  have hc1 := (tkE_p hb hc).2.1
  generalize hce : tkE t n (L.1 0) = c1 at hy hn hc1
  refine ⟨fun q => ?_, fun q => ?_⟩
  · rw [if_neg (by omega)] at hy
    have fx : Fp (fun k j => k = 5 ∧ j = 8) M (mset M 5 8 1) := Fp.rf.set ⟨rfl, rfl⟩
    have dw : LDw (mset M 5 8 1) (LSmk (udg L.1 6 1) L.2.1 L.2.2.1 L.2.2.2) 5 := by
      obtain ⟨d1, d2, d3, d4, d5, d6, ⟨f1, f2, f3⟩, d7, d8, d9, d10, d11⟩ := hD
      have e : ∀ k, k ≠ 5 → mset M 5 8 1 k = M k := fun k z1 => fx.row (fun j => by omega)
      have e5 : ∀ j, j ≠ 8 → mset M 5 8 1 5 j = M 5 j := fun j z => fx 5 j (by omega)
      refine ⟨by rw [e 2 (by decide)]; exact d1, by rw [e5 2 (by decide)]; exact d2, by rw [e5 4 (by decide)]; exact d3, by rw [e5 6 (by decide)]; exact d4, by rw [e5 7 (by decide)]; exact d5, by rw [mset_s]; rfl, ⟨by rw [e 9 (by decide)]; exact f1, by rw [e 9 (by decide)]; exact f2, by rw [e 10 (by decide)]; exact f3⟩, by rw [e 6 (by decide), e 7 (by decide)]; exact d7, by rw [e 8 (by decide)]; exact d8, ?_, by rw [e 14 (by decide)]; exact d10, by unfold FcT; rw [e (14 + 1) (by decide)]; exact d11⟩
      rw [e 11 (by decide), e 12 (by decide)]
      intro i hi hne
      have hi : i < L.1 3 ∨ (i = 5 ∧ udg L.1 6 1 6 = 1) := hi
      exact d9 i (by omega)
    have hT2 := hT.fp fx (fun k j q => by omega)
    have hK2 := hK.fp fx (fun j _ _ => by omega)
    apply s_next (c := c1) hT2 hc1 (by rw [hK2.1, hce]) hK2.p
    intro M3 hF3 hK3
    exact hy _ c1 rfl hc1 (udg_o (x := L.1) (d := 6) (e := 8) (v := 1) (by decide)) (udg_o (x := L.1) (d := 6) (e := 7) (v := 1) (by decide)) rfl M3 ((fx.mono (fun k j q => by unfold lnC; omega)).tr (hF3.mono (fun k j q => rd_ln q))) hK3 (by rw [hF3 2 3 (by unfold rdset; omega), mset_k (by decide)]; exact h3) (dw.fp hF3 (fun k j q => rd_ld q))
  · rw [if_pos (by omega)] at hn
    exact s_failC (k := 3) hK (fun M' hF k3 k4 => ⟨Or.inl rfl, hn _ _ rfl (by decide) M' (hF.mono (fun k j q => fl_ln q)) k3 k4⟩)
