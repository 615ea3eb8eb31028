/-! the class's Reader: a fact, a part, rise -/
theorem pn_rng {L : LnS} {t : Nat → Int} {n c : Nat} (h : pnF t n L c = 0) : 0 ≤ pnV t n L c ∧ pnV t n L c < L.1 1 := by
  have key : ∀ (N : Nat → Int) (x : Int) (k i : Nat), fndN N x k i = -1 ∨ ((i : Int) ≤ fndN N x k i ∧ fndN N x k i < ((i + k : Nat) : Int)) := by
    intro N x k
    induction k with
    | zero => intro i; exact Or.inl rfl
    | succ k ih =>
      intro i
      rw [fndN_step]
      have := ih (i + 1)
      split
      · omega
      · omega
  unfold pnF at h
  split at h
  · cases h
  · split at h
    · cases h
    · next q =>
      have := key (L.2.1 0) (tkV t n c) (L.1 1) 0
      unfold pnV
      omega
theorem s_personHere {t : Nat → Int} {n c : Nat} {L : LnS} {M : Mem} {P : Int → Mem → Prop} (hT : TCm M t n) (hK : KC M t n c) (hD : LD M L) (h5 : L.1 1 ≤ 5)
    (hy : pnF t n L c = 0 → P (pnV t n L c) M) (hn : pnF t n L c ≠ 0 → ∀ M', Fp flset M M' → M' 2 3 = (pnF t n L c : Int) → M' 2 4 = (tkP t n c : Int) → P (-1) M') : CI m7_personHere 4 [(17, ((2 : Nat) : Int))] M P := by
  apply q_7_personHere
  apply s_isName hT hK
  refine ⟨fun q => ?_, fun q => ?_⟩
  · have s1 := bi_ne q
    rw [((KC_w hK).2.1 s1).1]
    apply s_personNamedC hD h5
    refine ⟨fun q1 => ?_, fun q1 => ?_⟩
    · exact hy (by unfold pnF; rw [if_neg (fun z => z s1), if_neg q1])
    · have e : pnF t n L c = 4 := by unfold pnF; rw [if_neg (fun z => z s1), if_pos q1]
      rw [e] at hn
      rw [q1]
      exact s_failC (k := 4) hK (fun M' hF k3 k4 => hn (by decide) M' hF k3 k4)
  · have s1 := bi_eq q
    have e : pnF t n L c = 1 := by unfold pnF; rw [if_pos s1]
    rw [e] at hn
    exact s_failC (k := 1) hK (fun M' hF k3 k4 => hn (by decide) M' hF k3 k4)
theorem s_failAtC {k : Nat} {pl : Int} {M : Mem} {P : Int → Mem → Prop} (h : ∀ M', Fp flset M M' → M' 2 3 = (k : Int) → M' 2 4 = pl → P 0 M') : CI m7_failAt 1 [(17, ((2 : Nat) : Int)), (0, (k : Int)), (0, pl)] M P := by
  apply q_7_failAt
  have f0 : Fp flset M M := Fp.rf
  refine h _ ((f0.set ⟨rfl, Or.inl rfl⟩).set ⟨rfl, Or.inr rfl⟩) ?_ mset_s
  rw [mset_j (by decide), mset_s]
/-- the end of a fact's line -/
theorem s_factEnd {t : Nat → Int} {n c : Nat} {L : LnS} {how sea a b pl : Int} {M : Mem} {Q : Int → Mem → Prop} (hT : TCm M t n) (hc : c ≤ n) (hK : KC M t n c) (h3 : M 2 3 = 0) (hD : LD M L) (h5 : L.1 1 ≤ 5) (h16 : L.1 2 < 16) (hg : Fgood L.2.2.1 (L.1 2) (L.1 1)) (ha : 0 ≤ a ∧ a < L.1 1) (hbb : 0 ≤ b ∧ b < L.1 1) (plN : Nat) (hpl : pl = (plN : Int))
    (hy : ∀ L1, facE t n L how sea a b plN c = endF t n L1 c → L1.1 8 = L.1 8 → ∀ M', Fp lnC M M' → KC M' t n c → M' 2 3 = 0 → LD M' L1 → Q 1 M') (hn : ∀ f pl, facE t n L how sea a b plN c = .inr (f, pl) → f ≠ 0 → ∀ M', Fp lnC M M' → M' 2 3 = (f : Int) → M' 2 4 = (pl : Int) → Q 0 M') :
    CI m2_tells 4 [(12, ((14 : Nat) : Int)), (0, a), (0, b), (0, how), (0, sea)] M (fun r31 M32 => ((r31 = 0 → (CD m2_add 2 [(12, ((14 : Nat) : Int)), (0, a), (0, b), (0, how), (0, sea)] M32 (fun M38 => (CI m5_bendsInSomeSeason 4 [(15, ((16 : Nat) : Int)), (12, ((14 : Nat) : Int)), (0, (M38 5 2))] M38 (fun r40 M41 => ((r40 = 0 → (Q 1 M41)) ∧ (r40 ≠ 0 → (CI m7_failAt 1 [(17, ((2 : Nat) : Int)), (0, 5), (0, pl)] M41 (fun r46 M47 => ((r46 = 0 → (Q 0 M47)) ∧ (r46 ≠ 0 → (Q 1 M47)))))))))))) ∧ (r31 ≠ 0 → (CI m7_failAt 1 [(17, ((2 : Nat) : Int)), (0, 3), (0, pl)] M32 (fun r52 M53 => ((r52 = 0 ∨ r52 = 1) ∧ Q r52 M53)))))) := by
  subst hpl
  have h14 := hD.2.2.2.2.2.2.2.2.2.2.1
  have hsame := hD.2.2.2.2.2.2.2.2.2.2.2
  have iso16 : isO 16 := ⟨by decide, by decide, by decide, by decide⟩
  unfold facE at hy hn
  apply s_tells (o := 14) (by decide) h14 (by omega)
  rw [hasF_same hsame _ (Nat.le_refl _)]
  refine ⟨fun q => ?_, fun q => ?_⟩
  · rw [if_neg (bi_eq q)] at hy hn
    apply s_add (o := 14) (by decide) h14 (by omega)
    intro M1 hF1 k1 ks
    have hs1 : SameF (FcT M1 14) (hadd L.2.2.1 (L.1 2) a b how sea 0) (L.1 2 + 1) := fun i hi j hj => (ks i hi j hj).trans (hadd_same hsame i hi j hj)
    have hFa : Fp (fun k j => k = 14 ∨ k = 15) M M1 := hF1.mono (fun k j q => by unfold fset at q; omega)
    have e52 : M1 5 2 = (L.1 1 : Int) := by rw [hFa 5 2 (by omega)]; exact hD.2.1
    have hfin : Fin5 (hadd L.2.2.1 (L.1 2) a b how sea 0) (L.1 2 + 1) (L.1 1) := fun i hi => by
      by_cases z : i = L.1 2
      · subst z
        obtain ⟨e0, e1, _⟩ := hadd_s (H := L.2.2.1) (nh := L.1 2) (a := a) (b := b) (c := how) (x := sea) (r := 0)
        rw [e0, e1]; omega
      · rw [hadd_o z]; exact hg.1 i (by omega)
    have hfok : FOK M1 14 (L.1 2 + 1) (L.1 1) := ⟨by decide, k1, by omega, Fin5_same hs1 hfin⟩
    have noS : noR (FcT M1 14) (L.1 2 + 1) (L.1 1) ↔ noRb (hadd L.2.2.1 (L.1 2) a b how sea 0) (L.1 2 + 1) (L.1 1) = true := by
      rw [noRb_iff hfin]
      unfold noR
      constructor
      · intro h s' a1 a2 x; have := h s' a1 a2 x; rwa [abv_same hs1] at this
      · intro h s' a1 a2 x; have := h s' a1 a2 x; rwa [← abv_same hs1] at this
    rw [e52]
    refine s_bends iso16 h5 hfok (by omega) (fun hno M2 hF2 => ⟨fun _ => ?_, fun z => absurd rfl z⟩) (fun hno M2 hF2 => ⟨fun z => (by cases z), fun _ => ?_⟩)
    · rw [if_pos (noS.mp hno)] at hy
      have hFb : Fp (fun k _ => 14 ≤ k ∧ k ≤ 20) M M2 := (hFa.mono (fun k j q => by omega)).tr (fun k j q => by rw [hF2 k (by unfold oset; omega)])
      have e : ∀ k, k < 14 → M2 k = M k := fun k z => hFb.row (fun j => by omega)
      refine hy _ rfl ?_ M2 (hFb.mono (fun k j q => by unfold lnC; omega)) (hK.fp hFb (fun j _ _ => by omega)) (by rw [e 2 (by omega)]; exact h3) ?_
      · show udg L.1 2 (L.1 2 + 1) 8 = L.1 8
        rw [udg_o (by decide)]
      · obtain ⟨d1, d2, d3, d4, d5, d6, ⟨g1, g2, g3⟩, d7, d8, d9, d10, d11⟩ := hD
        refine ⟨by rw [e 2 (by omega)]; exact d1, by rw [e 5 (by omega)]; exact d2, by rw [e 5 (by omega)]; exact d3, by rw [e 5 (by omega)]; exact d4, by rw [e 5 (by omega)]; exact d5, by rw [e 5 (by omega)]; exact d6, ⟨by rw [e 9 (by omega)]; exact g1, by rw [e 9 (by omega)]; exact g2, by rw [e 10 (by omega)]; exact g3⟩, by rw [e 6 (by omega), e 7 (by omega)]; exact d7, by rw [e 8 (by omega)]; exact d8, by rw [e 11 (by omega), e 12 (by omega)]; exact d9, ?_, ?_⟩
        · rw [hF2 14 (by unfold oset; omega), k1]; rfl
        · unfold FcT
          rw [hF2 (14 + 1) (by unfold oset; omega)]
          exact hs1
    · rw [if_neg (fun z => hno (noS.mpr z))] at hn
      refine s_failAtC (k := 5) (fun M3 hF3 k3 k4 => ⟨fun _ => ?_, fun z => absurd rfl z⟩)
      have hFb : Fp lnC M M2 := (hFa.mono (fun k j q => by unfold lnC; omega)).tr (fun k j q => by rw [hF2 k (by unfold oset; unfold lnC at q; omega)])
      exact hn 5 _ rfl (by decide) M3 (hFb.tr (hF3.mono (fun k j q => fl_ln q))) k3 k4
  · rw [if_pos (bi_ne q)] at hn
    exact s_failAtC (k := 3) (fun M3 hF3 k3 k4 => ⟨Or.inl rfl, hn 3 _ rfl (by decide) M3 (hF3.mono (fun k j q => fl_ln q)) k3 k4⟩)
theorem s_readFact {t : Nat → Int} {n : Nat} {L : LnS} {how : Int} {M : Mem} {Q : Int → Mem → Prop} (hT : TCm M t n) (hc : L.1 0 ≤ n) (hK : KC M t n (L.1 0)) (h3 : M 2 3 = 0) (hD : LD M L) (h5 : L.1 1 ≤ 5) (h16 : L.1 2 ≤ 16) (hg : Fgood L.2.2.1 (L.1 2) (L.1 1))
    (hy : ∀ L1 c1, facF t n L how = endF t n L1 c1 → c1 ≤ n → L1.1 8 = L.1 8 → ∀ M', Fp lnC M M' → KC M' t n c1 → M' 2 3 = 0 → LD M' L1 → Q 1 M') (hn : ∀ f pl, facF t n L how = .inr (f, pl) → f ≠ 0 → ∀ M', Fp lnC M M' → M' 2 3 = (f : Int) → M' 2 4 = (pl : Int) → Q 0 M') : CI m7_readFact 5 [(17, ((2 : Nat) : Int)), (0, how)] M Q := by
  have hb := hT.2.2.2.1
  unfold facF at hy hn
  apply q_7_readFact
  rw [hD.2.2.2.2.2.2.2.2.2.2.1]
  have hc1 := (tkE_p hb hc).2.1
  generalize hce : tkE t n (L.1 0) = c1 at hy hn hc1
  refine ⟨fun q => ?_, fun q => ?_⟩
  · rw [if_neg (by omega)] at hy hn
    apply s_next (c := c1) hT hc1 (by rw [hK.1, hce]) hK.p
    intro M1 hF1 hK1
    have hFa : Fp lnC M M1 := hF1.mono (fun k j q => rd_ln q)
    have hT1 := lnC_T hT hFa
    have hD1 := hD.fp hF1 (fun k j q => rd_ld q)
    have h31 : M1 2 3 = 0 := by rw [hF1 2 3 (by unfold rdset; omega)]; exact h3
    apply s_personHere hT1 hK1 hD1 h5
    · intro e1
      obtain ⟨r1, r2⟩ := pn_rng e1
      rw [if_neg (fun z => z e1)] at hy hn
      refine ⟨fun _ => ?_, fun z => by omega⟩
      have hc2 := (tkE_p hb hc1).2.1
      generalize hce2 : tkE t n c1 = c2 at hy hn hc2
      apply s_next (c := c2) hT1 hc2 (by rw [hK1.1, hce2]) hK1.p
      intro M2 hF2 hK2
      have hFb := hFa.tr (hF2.mono (fun k j q => rd_ln q) : Fp lnC M1 M2)
      have hT2 := lnC_T hT hFb
      have hD2 := hD1.fp hF2 (fun k j q => rd_ld q)
      have h32 : M2 2 3 = 0 := by rw [hF2 2 3 (by unfold rdset; omega)]; exact h31
      apply s_personHere hT2 hK2 hD2 h5
      · intro e2
        obtain ⟨u1, u2⟩ := pn_rng e2
        rw [if_neg (fun z => z e2)] at hy hn
        refine ⟨fun _ => ⟨fun q2 => ?_, fun q2 => ?_⟩, fun z => by omega⟩
        · rw [if_neg q2] at hy hn
          rw [hK2.2.1]
          have hc3 := (tkE_p hb hc2).2.1
          generalize hce3 : tkE t n c2 = c3 at hy hn hc3
          generalize pnV t n L c1 = a at hy hn r1 r2
          generalize pnV t n L c2 = b at hy hn u1 u2
          apply s_next (c := c3) hT2 hc3 (by rw [hK2.1, hce3]) hK2.p
          intro M3 hF3 hK3
          have hFc := hFb.tr (hF3.mono (fun k j q => rd_ln q) : Fp lnC M2 M3)
          have hT3 := lnC_T hT hFc
          have hD3 := hD2.fp hF3 (fun k j q => rd_ld q)
          have h33 : M3 2 3 = 0 := by rw [hF3 2 3 (by unfold rdset; omega)]; exact h32
          refine ⟨fun q3 => ?_, fun q3 => ?_⟩
          · rw [if_neg (fun z => q3 z.1)] at hy hn
            exact s_factEnd hT3 hc3 hK3 h33 hD3 h5 (by omega) hg ⟨r1, r2⟩ ⟨u1, u2⟩ _ rfl (fun L1 e8 e9 M' hF k1 k2 k3 => hy L1 c3 e8 hc3 e9 M' (hFc.tr hF) k1 k2 k3) (fun f pl e8 e9 M' hF k3 k4 => hn f pl e8 e9 M' (hFc.tr hF) k3 k4)
          · apply s_isWordC hT3 hK3 (by omega)
            refine ⟨fun q4 => ?_, fun q4 => ?_⟩
            · rw [if_neg (fun z => bi_eq q4 z.2)] at hy hn
              exact s_factEnd hT3 hc3 hK3 h33 hD3 h5 (by omega) hg ⟨r1, r2⟩ ⟨u1, u2⟩ _ rfl (fun L1 e8 e9 M' hF k1 k2 k3 => hy L1 c3 e8 hc3 e9 M' (hFc.tr hF) k1 k2 k3) (fun f pl e8 e9 M' hF k3 k4 => hn f pl e8 e9 M' (hFc.tr hF) k3 k4)
            · rw [if_pos ⟨q3, bi_ne q4⟩] at hy hn
              have hc4 := (tkE_p hb hc3).2.1
              generalize hce4 : tkE t n c3 = c4 at hy hn hc4
              apply s_next (c := c4) hT3 hc4 (by rw [hK3.1, hce4]) hK3.p
              intro M4 hF4 hK4
              have hFd := hFc.tr (hF4.mono (fun k j q => rd_ln q) : Fp lnC M3 M4)
              have hT4 := lnC_T hT hFd
              have hD4 := hD3.fp hF4 (fun k j q => rd_ld q)
              have h34 : M4 2 3 = 0 := by rw [hF4 2 3 (by unfold rdset; omega)]; exact h33
              apply s_readNumber hT4 hc4 hK4 (by omega)
              · intro e5 hv M5 hF5 hK5
                rw [if_neg (fun z => z e5)] at hy hn
                have hFe := hFd.tr (hF5.mono (fun k j q => rd_ln q) : Fp lnC M4 M5)
                have hT5 := lnC_T hT hFe
                have hD5 := hD4.fp hF5 (fun k j q => rd_ld q)
                have h35 : M5 2 3 = 0 := by rw [hF5 2 3 (by unfold rdset; omega)]; exact h34
                have hc5 := (tkE_p hb hc4).2.1
                refine ⟨fun _ => ?_, fun z => by omega⟩
                exact s_factEnd hT5 hc5 hK5 h35 hD5 h5 (by omega) hg ⟨r1, r2⟩ ⟨u1, u2⟩ _ rfl (fun L1 e8 e9 M' hF k1 k2 k3 => hy L1 _ e8 hc5 e9 M' (hFe.tr hF) k1 k2 k3) (fun f pl e8 e9 M' hF k3 k4 => hn f pl e8 e9 M' (hFe.tr hF) k3 k4)
              · intro e5 M5 hF5 k3 k4
                rw [if_pos e5] at hn
                exact ⟨fun z => absurd rfl z, fun _ => hn _ _ rfl e5 M5 (hFd.tr (hF5.mono (fun k j q => fl_ln q))) k3 k4⟩
        · rw [if_pos q2] at hn
          exact s_failC (k := 5) hK2 (fun M' hF k3 k4 => ⟨Or.inl rfl, hn _ _ rfl (by decide) M' (hFb.tr (hF.mono (fun k j q => fl_ln q))) k3 k4⟩)
      · intro e2 M3 hF3 k3 k4
        rw [if_pos e2] at hn
        exact ⟨fun z => absurd rfl z, fun _ => hn _ _ rfl e2 M3 (hFb.tr (hF3.mono (fun k j q => fl_ln q))) k3 k4⟩
    · intro e1 M2 hF2 k3 k4
      rw [if_pos e1] at hn
      exact ⟨fun z => absurd rfl z, fun _ => hn _ _ rfl e1 M2 (hFa.tr (hF2.mono (fun k j q => fl_ln q))) k3 k4⟩
  · rw [if_pos (by omega)] at hn
    exact s_failC (k := 2) hK (fun M' hF k3 k4 => ⟨Or.inl rfl, hn _ _ rfl (by decide) M' (hF.mono (fun k j q => fl_ln q)) k3 k4⟩)
