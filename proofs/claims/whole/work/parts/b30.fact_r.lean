/-! the reference: a fact's line -/
theorem f_148 {M : Mem} {P : Mem → Prop} (h : M 59 23 ≠ 0) (hp : P M) : A m11_factLine 5 0 148 [(20, ((59 : Nat) : Int)), (2, 0), (2, 0), (2, 0), (2, 0), (2, 0)] [] M (Kd P) := by
  apply r_11_factLine_148
  refine ⟨fun _ => ?_, fun q => absurd q h⟩
  apply r_11_factLine_160
  exact hp
theorem Fgood_addL {pp nf : Nat} {a b how sea : Int} {F : FTab} (hg : Fgood F nf pp) (ha : 0 ≤ a ∧ a < pp) (hb : 0 ≤ b ∧ b < pp) (hh : how = 0 ∨ (how = 1 ∧ sea = -1)) : Fgood (hadd F nf a b how sea 0) (nf + 1) pp := by
  obtain ⟨e0, e1, e2, e3, e4⟩ := hadd_s (H := F) (nh := nf) (a := a) (b := b) (c := how) (x := sea) (r := 0)
  refine ⟨fun i hi => ?_, fun i hi => ?_⟩
  · by_cases q : i = nf
    · subst q; rw [e0, e1]; omega
    · rw [hadd_o q]; exact hg.1 i (by omega)
  · by_cases q : i = nf
    · subst q; rw [e2, e3, e4]; omega
    · rw [hadd_o q]; exact hg.2 i (by omega)
/-- the draft with one fact more -/
def facL (L : LnS) (how sea a b : Int) : LnS := LSmk (udg L.1 2 (L.1 2 + 1)) L.2.1 (hadd L.2.2.1 (L.1 2) a b how sea 0) L.2.2.2
/-- the fact is laid, and no ring may come of it -/
theorem s_fact103 {L : LnS} {how sea a b : Int} {plN : Nat} {M : Mem} {Q : Mem → Prop} (h1 : L.1 1 ≤ 5) (h16 : L.1 2 < 16) (d61 : M 61 5 = (L.1 1 : Int)) (d62 : M 61 6 = (L.1 2 : Int)) (dF : SameF (FrT M 24) L.2.2.1 (L.1 2)) (hg : Fgood L.2.2.1 (L.1 2) (L.1 1)) (ha : 0 ≤ a ∧ a < L.1 1) (hbb : 0 ≤ b ∧ b < L.1 1) (hh : how = 0 ∨ (how = 1 ∧ sea = -1))
    (hf : M 59 23 ≠ 0 → ∀ M', Fp (fun k j => ((69 ≤ k ∧ k ≤ 73) ∧ j = 24 + L.1 2) ∨ k = 74 ∨ k = 75) M M' → Q M')
    (hy : M 59 23 = 0 → noRb (hadd L.2.2.1 (L.1 2) a b how sea 0) (L.1 2 + 1) (L.1 1) = true → ∀ M', Fp (fun k j => ((69 ≤ k ∧ k ≤ 73) ∧ j = 24 + L.1 2) ∨ k = 74 ∨ k = 75 ∨ (k = 61 ∧ j = 6)) M M' → M' 61 6 = ((L.1 2 + 1 : Nat) : Int) → SameF (FrT M' 24) (hadd L.2.2.1 (L.1 2) a b how sea 0) (L.1 2 + 1) → Q M')
    (hn : M 59 23 = 0 → ¬ noRb (hadd L.2.2.1 (L.1 2) a b how sea 0) (L.1 2 + 1) (L.1 1) = true → ∀ M', Fp (fun k j => ((69 ≤ k ∧ k ≤ 73) ∧ j = 24 + L.1 2) ∨ k = 74 ∨ k = 75 ∨ wrset k j) M M' → RB M' 5 plN → Q M') :
    A m11_factLine 5 0 103 [(20, ((59 : Nat) : Int)), (0, how), (0, a), (0, b), (0, (plN : Int)), (0, sea)] [] M (Kd Q) := by
  have e24 : w32 (24 + (L.1 2 : Int)) = ((24 + L.1 2 : Nat) : Int) := by rw [w32_id (by omega) (by omega)]; omega
  apply r_11_factLine_103
  apply s_fresherW (w := 1) (by omega) d62
  rw [e24]
  apply s_lays (b := 24) (n := L.1 2) (by omega) rfl
  intro M2 hF2 hs2
  have hs2' : SameF (FrT M2 24) (hadd L.2.2.1 (L.1 2) a b how sea 0) (L.1 2 + 1) := fun i hi j hj => (hs2 i hi j hj).trans (hadd_same dF i hi j hj)
  have hgd := Fgood_addL hg ha hbb hh
  apply s_fresherW (w := 1) (v := (L.1 2 : Int)) (by omega) (by rw [hF2 61 _ (by omega)]; exact d62)
  apply s_fresherW (w := 0) (v := (L.1 1 : Int)) (by omega) (by rw [hF2 61 _ (by omega)]; exact d61)
  rw [w_1 (i := L.1 2) (by omega)]
  have hno : noR (FrT M2 24) (L.1 2 + 1) (L.1 1) ↔ noRb (hadd L.2.2.1 (L.1 2) a b how sea 0) (L.1 2 + 1) (L.1 1) = true := by
    rw [noR_same hs2', noRb_iff hgd.1]
  apply s_isRound (b := 24) (n := L.1 2 + 1) (pp := L.1 1) (by omega) h1 (Fgood_same hs2' hgd)
  · intro nr M3 hF3
    have hFx : Fp (fun k j => ((69 ≤ k ∧ k ≤ 73) ∧ j = 24 + L.1 2) ∨ k = 74 ∨ k = 75) M M3 := (hF2.mono (fun k j q => Or.inl q)).tr (hF3.p.mono (fun k j q => Or.inr q))
    refine ⟨fun _ => ?_, fun z => absurd rfl z⟩
    by_cases z : M 59 23 = 0
    · apply r_11_factLine_148
      have z3 : M3 59 23 = 0 := by rw [hFx 59 23 (by omega)]; exact z
      refine ⟨fun y => absurd z3 y, fun _ => ?_⟩
      apply s_oneMoreW (w := 1) (v := L.1 2) (by omega) (by rw [hFx 61 _ (by omega)]; exact d62) (by omega)
      apply r_11_factLine_160
      refine hy z (hno.mp nr) _ ((hFx.mono (fun k j q => by omega) : Fp (fun k j => ((69 ≤ k ∧ k ≤ 73) ∧ j = 24 + L.1 2) ∨ k = 74 ∨ k = 75 ∨ (k = 61 ∧ j = 6)) M M3).set (by omega)) mset_s ?_
      have e : ∀ k, k ≠ 61 → mset M3 61 (5 + 1) ((L.1 2 + 1 : Nat) : Int) k = M3 k := fun k hk => funext fun j => mset_k hk
      unfold FrT
      rw [e 69 (by decide), e 70 (by decide), e 71 (by decide), e 72 (by decide), e 73 (by decide), hF3 69 (by unfold m45; omega), hF3 70 (by unfold m45; omega), hF3 71 (by unfold m45; omega), hF3 72 (by unfold m45; omega), hF3 73 (by unfold m45; omega)]
      exact hs2'
    · exact f_148 (by rw [hFx 59 23 (by omega)]; exact z) (hf z M3 hFx)
  · intro nr M3 hF3
    have hFx : Fp (fun k j => ((69 ≤ k ∧ k ≤ 73) ∧ j = 24 + L.1 2) ∨ k = 74 ∨ k = 75) M M3 := (hF2.mono (fun k j q => Or.inl q)).tr (hF3.p.mono (fun k j q => Or.inr q))
    refine ⟨fun z => (by cases z), fun _ => ?_⟩
    by_cases z : M 59 23 = 0
    · have z3 : M3 59 23 = 0 := by rw [hFx 59 23 (by omega)]; exact z
      apply s_wrongAtW (f := 5) z3
      intro M4 hF4 hB4
      exact f_148 (hB4.ne (by decide)) (hn z (fun y => nr (hno.mpr y)) M4 ((hFx.mono (fun k j q => by omega)).tr (hF4.mono (fun k j q => Or.inr (Or.inr (Or.inr q))))) hB4)
    · have z3 : M3 59 23 ≠ 0 := by rw [hFx 59 23 (by omega)]; exact z
      apply f_wrongAt z3
      exact f_148 z3 (hf z M3 hFx)
theorem s_fact69 {t : Nat → Int} {n c : Nat} {L : LnS} {how sea a b : Int} {plN : Nat} {M : Mem} {Q : Mem → Prop} (hK : K0 M t n c) (hD : LRx M L 6) (hT : TD M (L.1 4) (L.1 6)) (h1 : L.1 1 ≤ 5) (h3 : L.1 3 ≤ 5) (hl : L.2.2.2.length ≤ 64) (h16 : L.1 2 < 16) (hg : Fgood L.2.2.1 (L.1 2) (L.1 1)) (ha : 0 ≤ a ∧ a < L.1 1) (hbb : 0 ≤ b ∧ b < L.1 1) (hh : how = 0 ∨ (how = 1 ∧ sea = -1))
    (hy : facE t n L how sea a b plN c = endF t n (facL L how sea a b) c → ∀ M', Fp lnR M M' → K0 M' t n c → LRd M' (facL L how sea a b) → Q M')
    (hn : ∀ f pl, facE t n L how sea a b plN c = .inr (f, pl) → f ≠ 0 → ∀ M', Fp lnR M M' → RB M' f pl → Q M') :
    A m11_factLine 5 0 69 [(20, ((59 : Nat) : Int)), (0, how), (0, a), (0, b), (0, (plN : Int)), (0, sea)] [] M (Kd Q) := by
  have hDx := hD
  obtain ⟨⟨r1, r2, r3, r4, r5⟩, d17, d61, d62, d63, d64, dn, dq, df, dr, dF⟩ := hD
  unfold facE at hy hn
  apply r_11_factLine_69
  refine ⟨fun _ => ?_, fun q => absurd hK.2.2.1 q⟩
  apply s_fresherW (w := 1) (by omega) d62
  apply s_hasFact (b := 24) (n := L.1 2) (by omega)
  rw [hasF_same dF _ (Nat.le_refl _)]
  refine ⟨fun q => ?_, fun q => ?_⟩
  · rw [if_neg (bi_eq q)] at hy hn
    apply s_fact103 h1 h16 d61 d62 dF hg ha hbb hh
    · intro z; exact absurd hK.2.2.1 z
    · intro _ nr M' hF k6 ks
      rw [if_pos nr] at hy
      obtain ⟨k1, k2, k3, k4⟩ := hK
      have e : ∀ k, (62 ≤ k ∧ k ≤ 68) → M' k = M k := fun k hk => hF.row (fun j => by omega)
      have e59 : ∀ j, M' 59 j = M 59 j := fun j => hF 59 j (by omega)
      have e61 : ∀ j, j ≠ 6 → M' 61 j = M 61 j := fun j hj => hF 61 j (by omega)
      refine hy rfl M' (hF.mono (fun k j q => by unfold lnR; omega)) ⟨k1.fp hF (fun k j q => by omega), k2.fp hF (fun j _ _ => by omega), by rw [e59]; exact k3, k4⟩ ⟨⟨⟨?_, ?_, ?_, ?_, ?_⟩, ?_, ?_, k6, ?_, ?_, ?_, ?_, ?_, ?_, ks⟩, hT.fp hF (by omega)⟩
      · rw [e59]; exact r1
      · rw [e59]; exact r2
      · rw [e59]; exact r3
      · rw [e61 9 (by decide)]; exact r4
      · rw [e 67 (by decide), e 68 (by decide)]; exact r5
      · rw [e59]; exact d17
      · rw [e61 5 (by decide)]; exact d61
      · rw [e61 7 (by decide)]; exact d63
      · rw [e61 8 (by decide)]; exact d64
      · rw [e 62 (by decide), e 63 (by decide)]; exact dn
      · rw [e 64 (by decide)]; exact dq
      · rw [e 65 (by decide), e 66 (by decide)]; exact df
      · rw [e 65 (by decide), e 66 (by decide)]; exact dr
    · intro _ nr M' hF hB
      rw [if_neg nr] at hn
      exact hn 5 _ rfl (by decide) M' (hF.mono (fun k j q => by unfold wrset at q; unfold lnR; omega)) hB
  · rw [if_pos (bi_ne q)] at hn
    apply s_wrongAtW (f := 3) hK.2.2.1
    intro M2 hF2 hB2
    have e61 : ∀ j, M2 61 j = M 61 j := fun j => hF2 61 j (by unfold wrset; omega)
    have hFT : FrT M2 24 = FrT M 24 := by
      unfold FrT
      have e : ∀ k, 69 ≤ k → M2 k = M k := fun k hk => hF2.row (fun j => by unfold wrset; omega)
      rw [e 69 (by decide), e 70 (by decide), e 71 (by decide), e 72 (by decide), e 73 (by decide)]
    apply s_fact103 h1 h16 (by rw [e61]; exact d61) (by rw [e61]; exact d62) (by rw [hFT]; exact dF) hg ha hbb hh
    · intro _ M' hF
      exact hn 3 _ rfl (by decide) M' ((hF2.mono (fun k j q => wr_lnR q)).tr (hF.mono (fun k j q => by unfold lnR; omega))) (hB2.fp hF (by omega))
    · intro z; exact absurd z (hB2.ne (by decide))
    · intro z; exact absurd z (hB2.ne (by decide))
