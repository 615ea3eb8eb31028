/-! the class's Reader: the lines one by one -/
theorem rd_ln {k j : Nat} (q : rdset k j) : lnC k j := by unfold rdset at q; unfold lnC; omega
theorem fl_ln {k j : Nat} (q : flset k j) : lnC k j := by unfold flset at q; unfold lnC; omega
theorem rd_ld {k j : Nat} (q : rdset k j) : ldset k j := by unfold rdset at q; unfold ldset; omega
theorem s_personNamedC {x : Int} {L : LnS} {M : Mem} {P : Int → Mem → Prop} (hD : LD M L) (h5 : L.1 1 ≤ 5) (h : P (fndN (L.2.1 0) x (L.1 1) 0) M) : CI m0_personNamed 3 [(10, ((5 : Nat) : Int)), (0, x)] M P := by
  have a6 : aln (5 + 1) = 5 := by decide
  apply q_0_personNamed
  rw [hD.2.1]
  apply s_numberOf (by omega) (by omega)
  rw [fndN_congr (N' := L.2.1 0) _ _ (fun j hj => (hD.2.2.2.2.2.2.2.1 j (by omega)).1)]
  exact h
theorem s_partNamedC {x : Int} {L : LnS} {M : Mem} {P : Int → Mem → Prop} (hD : LD M L) (h5 : L.1 3 ≤ 5) (h : P (fndN (L.2.1 2) x (L.1 3) 0) M) : CI m0_partNamed 3 [(10, ((5 : Nat) : Int)), (0, x)] M P := by
  have a6 : aln (5 + 3) = 5 := by decide
  apply q_0_partNamed
  rw [hD.2.2.1]
  apply s_numberOf (by omega) (by omega)
  rw [fndN_congr (N' := L.2.1 2) _ _ (fun j hj => hD.2.2.2.2.2.2.2.2.1 j (by omega))]
  exact h
theorem s_readPerson {t : Nat → Int} {n : Nat} {L : LnS} {M : Mem} {Q : Int → Mem → Prop} (hT : TCm M t n) (hc : L.1 0 ≤ n) (hK : KC M t n (L.1 0)) (h3 : M 2 3 = 0) (hD : LD M L) (h5 : L.1 1 ≤ 5)
    (hy : ∀ L1 c1, perF t n L = endF t n L1 c1 → c1 ≤ n → L1.1 8 = L.1 8 → ∀ M', Fp lnC M M' → KC M' t n c1 → M' 2 3 = 0 → LD M' L1 → Q 1 M') (hn : ∀ f pl, perF t n L = .inr (f, pl) → f ≠ 0 → ∀ M', Fp lnC M M' → M' 2 3 = (f : Int) → M' 2 4 = (pl : Int) → Q 0 M') : CI m7_readPerson 5 [(17, ((2 : Nat) : Int))] M Q := by
  have hb := hT.2.2.2.1
  have a6 : ((aln (5 + 1) : Nat) : Int) = 5 := by decide
  have a7 : ((aln (5 + 2) : Nat) : Int) = 5 := by decide
  unfold perF at hy hn
  apply q_7_readPerson
  rw [hD.2.1]
  have hc1 := (tkE_p hb hc).2.1
  generalize hce : tkE t n (L.1 0) = c1 at hy hn hc1
  refine ⟨fun q => ?_, fun q => ?_⟩
  · rw [if_neg (by omega)] at hy hn
    apply s_next (c := c1) hT hc1 (by rw [hK.1, hce]) hK.p
    intro M1 hF1 hK1
    have hFa : Fp lnC M M1 := hF1.mono (fun k j q => rd_ln q)
    have hT1 := lnC_T hT hFa
    have hD1 := hD.fp hF1 (fun k j q => rd_ld q)
    have h31 : M1 2 3 = 0 := by rw [hF1 2 3 (by unfold rdset; omega)]; exact h3
    apply s_isName hT1 hK1
    refine ⟨fun q1 => ?_, fun q1 => ?_⟩
    · have s1 := bi_ne q1
      rw [if_neg (fun z => z s1)] at hy hn
      have w2 := (KC_w hK1).2.1 s1
      rw [w2.1]
      apply s_personNamedC hD1 h5
      refine ⟨fun q2 => ?_, fun q2 => ?_⟩
      · rw [if_neg (fun z => z q2)] at hy hn
        have hc2 := (tkE_p hb hc1).2.1
        generalize hce2 : tkE t n c1 = c2 at hy hn hc2
        rw [w2.1]
        apply s_next (c := c2) hT1 hc2 (by rw [hK1.1, hce2]) hK1.p
        intro M2 hF2 hK2
        have hFb := hFa.tr (hF2.mono (fun k j q => rd_ln q) : Fp lnC M1 M2)
        have hT2 := lnC_T hT hFb
        have hD2 := hD1.fp hF2 (fun k j q => rd_ld q)
        have h32 : M2 2 3 = 0 := by rw [hF2 2 3 (by unfold rdset; omega)]; exact h31
        apply s_readNumber hT2 hc2 hK2 (by omega)
        · intro e0 hv M3 hF3 hK3
          rw [if_neg (fun z => z e0)] at hy
          have hFc := hFb.tr (hF3.mono (fun k j q => rd_ln q) : Fp lnC M2 M3)
          have hD3 := hD2.fp hF3 (fun k j q => rd_ld q)
          have h33 : M3 2 3 = 0 := by rw [hF3 2 3 (by unfold rdset; omega)]; exact h32
          have hc3 := (tkE_p hb hc2).2.1
          generalize tkE t n c2 = c3 at hy hc3 hK3
          refine ⟨fun _ => ?_, fun z => by omega⟩
          apply q_0_addPerson
          rw [hD3.2.1]
          apply s_put (by omega) (by omega)
          rw [mset_k (by decide), hD3.2.1]
          apply s_put (by omega) (by omega)
          rw [mset_k (by decide), mset_k (by decide), hD3.2.1, w_1 (i := L.1 1) (by omega), Int.toNat_natCast]
          have fx : Fp (fun k j => k = 6 ∨ k = 7 ∨ (k = 5 ∧ j = 2)) M3 (mset (mset (mset M3 (5 + 1) (L.1 1) (tkV t n c1)) (5 + 2) (L.1 1) (tkV t n c2)) 5 2 ((L.1 1 + 1 : Nat) : Int)) := ((Fp.rf.set (Or.inl rfl)).set (Or.inr (Or.inl rfl))).set (Or.inr (Or.inr ⟨rfl, rfl⟩))
          refine hy _ c3 rfl hc3 ?_ _ (hFc.tr (fx.mono (fun k j q => by unfold lnC; omega))) (hK3.fp fx (fun j _ _ => by omega)) ?_ ?_
          · show udg L.1 1 (L.1 1 + 1) 8 = L.1 8
            rw [udg_o (by decide)]
          · rw [fx 2 3 (by omega)]; exact h33
          · obtain ⟨d1, d2, d3, d4, d5, d6, ⟨f1, f2, f3⟩, d7, d8, d9, d10, d11⟩ := hD3
            have e : ∀ k, k ≠ 5 → k ≠ 6 → k ≠ 7 → mset (mset (mset M3 (5 + 1) (L.1 1) (tkV t n c1)) (5 + 2) (L.1 1) (tkV t n c2)) 5 2 ((L.1 1 + 1 : Nat) : Int) k = M3 k := fun k z1 z2 z3 => fx.row (fun j => by omega)
            have e5 : ∀ j, j ≠ 2 → mset (mset (mset M3 (5 + 1) (L.1 1) (tkV t n c1)) (5 + 2) (L.1 1) (tkV t n c2)) 5 2 ((L.1 1 + 1 : Nat) : Int) 5 j = M3 5 j := fun j z => fx 5 j (by omega)
            refine ⟨?_, ?_, ?_, ?_, ?_, ?_, ⟨?_, ?_, ?_⟩, ?_, ?_, ?_, ?_, ?_⟩
            · rw [e 2 (by decide) (by decide) (by decide)]; exact d1
            · rw [mset_s]; rfl
            · rw [e5 4 (by decide)]; exact d3
            · rw [e5 6 (by decide)]; exact d4
            · rw [e5 7 (by decide)]; exact d5
            · rw [e5 8 (by decide)]; exact d6
            · rw [e 9 (by decide) (by decide) (by decide)]; exact f1
            · rw [e 9 (by decide) (by decide) (by decide)]; exact f2
            · rw [e 10 (by decide) (by decide) (by decide)]; exact f3
            · intro i hi
              have hi : i < L.1 1 + 1 := hi
              show _ = ud2 (ud2 L.2.1 0 (L.1 1) (tkV t n c1)) 1 (L.1 1) (tkV t n c2) 0 i ∧ _ = ud2 (ud2 L.2.1 0 (L.1 1) (tkV t n c1)) 1 (L.1 1) (tkV t n c2) 1 i
              rw [ud2_o (by omega)]
              rw [mset_k (show (6 : Nat) ≠ 5 by decide), mset_k (show (6 : Nat) ≠ 5 + 2 by decide), mset_k (show (7 : Nat) ≠ 5 by decide)]
              by_cases z : i = L.1 1
              · subst z
                rw [ud2_s, ud2_s]
                exact ⟨mset_s, mset_s⟩
              · rw [ud2_o (by omega), ud2_o (by omega), ud2_o (by omega)]
                have := d7 i (by omega)
                refine ⟨?_, ?_⟩
                · show mset M3 6 (L.1 1) _ 6 i = _
                  rw [mset_j z]; exact this.1
                · show mset (mset M3 (5 + 1) _ _) 7 (L.1 1) _ 7 i = _
                  rw [mset_j z, mset_k (by decide)]; exact this.2
            · rw [e 8 (by decide) (by decide) (by decide)]
              intro i hi
              show _ = ud2 (ud2 L.2.1 0 (L.1 1) (tkV t n c1)) 1 (L.1 1) (tkV t n c2) 2 i
              rw [ud2_o (by omega), ud2_o (by omega)]
              exact d8 i hi
            · rw [e 11 (by decide) (by decide) (by decide), e 12 (by decide) (by decide) (by decide)]
              intro i hi
              show _ = ud2 (ud2 L.2.1 0 (L.1 1) (tkV t n c1)) 1 (L.1 1) (tkV t n c2) 3 i ∧ _ = ud2 (ud2 L.2.1 0 (L.1 1) (tkV t n c1)) 1 (L.1 1) (tkV t n c2) 4 i
              rw [ud2_o (by omega), ud2_o (by omega), ud2_o (by omega), ud2_o (by omega)]
              exact d9 i hi
            · rw [e 14 (by decide) (by decide) (by decide)]; exact d10
            · unfold FcT
              rw [e (14 + 1) (by decide) (by decide) (by decide)]; exact d11
        · intro e0 M3 hF3 k3 k4
          rw [if_pos e0] at hn
          exact ⟨fun z => absurd rfl z, fun _ => hn _ _ rfl e0 M3 (hFb.tr (hF3.mono (fun k j q => fl_ln q))) k3 k4⟩
      · rw [if_pos q2] at hn
        exact s_failC (k := 3) hK1 (fun M' hF k3 k4 => ⟨Or.inl rfl, hn _ _ rfl (by decide) M' (hFa.tr (hF.mono (fun k j q => fl_ln q))) k3 k4⟩)
    · have s1 := bi_eq q1
      rw [if_pos s1] at hn
      exact s_failC (k := 1) hK1 (fun M' hF k3 k4 => ⟨Or.inl rfl, hn _ _ rfl (by decide) M' (hFa.tr (hF.mono (fun k j q => fl_ln q))) k3 k4⟩)
  · rw [if_pos (by omega)] at hn
    exact s_failC (k := 2) hK (fun M' hF k3 k4 => ⟨Or.inl rfl, hn _ _ rfl (by decide) M' (hF.mono (fun k j q => fl_ln q)) k3 k4⟩)
theorem s_readSeason {t : Nat → Int} {n : Nat} {L : LnS} {M : Mem} {Q : Int → Mem → Prop} (hT : TCm M t n) (hc : L.1 0 ≤ n) (hK : KC M t n (L.1 0)) (h3 : M 2 3 = 0) (hD : LD M L)
    (hy : ∀ L1 c1, seaF t n L = endF t n L1 c1 → c1 ≤ n → L1.1 8 = L.1 8 → ∀ M', Fp lnC M M' → KC M' t n c1 → M' 2 3 = 0 → LD M' L1 → Q 1 M') (hn : ∀ f pl, seaF t n L = .inr (f, pl) → f ≠ 0 → ∀ M', Fp lnC M M' → M' 2 3 = (f : Int) → M' 2 4 = (pl : Int) → Q 0 M') : CI m7_readSeason 5 [(17, ((2 : Nat) : Int))] M Q := by
  have hb := hT.2.2.2.1
  unfold seaF at hy hn
  apply q_7_readSeason
  rw [hD.2.2.2.2.1]
  have hc1 := (tkE_p hb hc).2.1
  generalize hce : tkE t n (L.1 0) = c1 at hy hn hc1
  refine ⟨fun q => ?_, fun q => ?_⟩
  · rw [if_neg (by omega)] at hy hn
    have f1 : Fp (fun k j => k = 5 ∧ j = 7) M (mset M 5 7 1) := Fp.rf.set ⟨rfl, rfl⟩
    have hTa := hT.fp f1 (fun k j q => by omega)
    have hKa := hK.fp f1 (fun j _ _ => by omega)
    apply s_next (c := c1) hTa hc1 (by rw [hKa.1, hce]) hKa.p
    intro M1 hF1 hK1
    have hFa : Fp lnC M M1 := (f1.mono (fun k j q => by unfold lnC; omega)).tr (hF1.mono (fun k j q => rd_ln q))
    have hT1 := lnC_T hT hFa
    have h31 : M1 2 3 = 0 := by rw [hF1 2 3 (by unfold rdset; omega), mset_k (by decide)]; exact h3
    apply s_readNumber hT1 hc1 hK1 (by omega)
    · intro e0 hv M3 hF3 hK3
      rw [if_neg (fun z => z e0)] at hy
      have hc2 := (tkE_p hb hc1).2.1
      generalize tkE t n c1 = c2 at hy hc2 hK3
      refine ⟨fun _ => ?_, fun z => by omega⟩
      have fx : Fp (fun k j => k = 5 ∧ j = 6) M3 (mset M3 5 6 (tkV t n c1)) := Fp.rf.set ⟨rfl, rfl⟩
      have hFd : Fp (fun k j => (k = 2 ∧ 13 ≤ j) ∨ (k = 5 ∧ (j = 6 ∨ j = 7))) M (mset M3 5 6 (tkV t n c1)) := ((f1.mono (fun k j q => Or.inr ⟨q.1, Or.inr q.2⟩)).tr ((hF1.mono (fun k j q => by unfold rdset at q; omega)).tr (hF3.mono (fun k j q => by unfold rdset at q; omega)))).tr (fx.mono (fun k j q => Or.inr ⟨q.1, Or.inl q.2⟩))
      have g57 : mset M3 5 6 (tkV t n c1) 5 7 = 1 := by rw [mset_j (by decide), hF3 5 7 (by unfold rdset; omega), hF1 5 7 (by unfold rdset; omega), mset_s]
      refine hy _ c2 rfl hc2 ?_ _ (hFd.mono (fun k j q => by unfold lnC; omega)) (hK3.fp fx (fun j _ _ => by omega)) ?_ ?_
      · show udg (udg L.1 4 1) 5 (tkV t n c1).toNat 8 = L.1 8
        rw [udg_o (by decide), udg_o (by decide)]
      · rw [hFd 2 3 (by omega)]; exact h3
      · obtain ⟨d1, d2, d3, d4, d5, d6, ⟨g1, g2, g3⟩, d7, d8, d9, d10, d11⟩ := hD
        have e : ∀ k, k ≠ 2 → k ≠ 5 → mset M3 5 6 (tkV t n c1) k = M k := fun k z1 z2 => hFd.row (fun j => by omega)
        refine ⟨by rw [hFd 2 2 (by omega)]; exact d1, by rw [hFd 5 2 (by omega)]; exact d2, by rw [hFd 5 4 (by omega)]; exact d3, ?_, g57, by rw [hFd 5 8 (by omega)]; exact d6, ⟨?_, ?_, ?_⟩, ?_, ?_, ?_, ?_, ?_⟩
        · rw [mset_s]
          show _ = ((udg (udg L.1 4 1) 5 (tkV t n c1).toNat 5 : Nat) : Int)
          rw [udg_s]; omega
        · rw [e 9 (by decide) (by decide)]; exact g1
        · rw [e 9 (by decide) (by decide)]; exact g2
        · rw [e 10 (by decide) (by decide)]; exact g3
        · rw [e 6 (by decide) (by decide), e 7 (by decide) (by decide)]; exact d7
        · rw [e 8 (by decide) (by decide)]; exact d8
        · rw [e 11 (by decide) (by decide), e 12 (by decide) (by decide)]; exact d9
        · rw [e 14 (by decide) (by decide)]; exact d10
        · unfold FcT; rw [e (14 + 1) (by decide) (by decide)]; exact d11
    · intro e0 M3 hF3 k3 k4
      rw [if_pos e0] at hn
      exact ⟨fun z => absurd rfl z, fun _ => hn _ _ rfl e0 M3 (hFa.tr (hF3.mono (fun k j q => fl_ln q))) k3 k4⟩
  · rw [if_pos (by omega)] at hn
    exact s_failC (k := 3) hK (fun M' hF k3 k4 => ⟨Or.inl rfl, hn _ _ rfl (by decide) M' (hF.mono (fun k j q => fl_ln q)) k3 k4⟩)
