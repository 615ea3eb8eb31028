/-! the reference: a fact's line, all of it -/
theorem s_factLine (hWR : WordR) {t : Nat → Int} {n : Nat} {L : LnS} {how : Int} {M : Mem} {Q : Mem → Prop} (hh : how = 0 ∨ how = 1) (hK : K0 M t n (tkE t n (L.1 0))) (hD : LRx M L 6) (hT : TD M (L.1 4) (L.1 6)) (h1 : L.1 1 ≤ 5) (h3 : L.1 3 ≤ 5) (hl : L.2.2.2.length ≤ 64) (h16 : L.1 2 < 16) (hg : Fgood L.2.2.1 (L.1 2) (L.1 1))
    (hy : ∀ sea a b c, facF t n L how = endF t n (facL L how sea a b) c → ∀ M', Fp lnR M M' → K0 M' t n c → LRd M' (facL L how sea a b) → Q M')
    (hn : ∀ f pl, facF t n L how = .inr (f, pl) → f ≠ 0 → ∀ M', Fp lnR M M' → RB M' f pl → Q M') : CD m11_factLine 5 [(20, ((59 : Nat) : Int)), (0, how)] M Q := by
  have tk : ∀ {M1 M2 : Mem}, Fp tkset M1 M2 → LRx M1 L 6 → TD M1 (L.1 4) (L.1 6) → LRx M2 L 6 ∧ TD M2 (L.1 4) (L.1 6) := fun hF hd ht => ⟨hd.fp hF (fun k j q => Or.inl q) hl h1 (by omega) h3, ht.fp hF (by unfold tkset; omega)⟩
  unfold facF at hy hn
  rw [if_neg (show ¬ L.1 2 = 16 by omega)] at hn
  have hy : ∀ sea a b c, _ = endF t n (facL L how sea a b) c → ∀ M', Fp lnR M M' → K0 M' t n c → LRd M' (facL L how sea a b) → Q M' := fun sea a b c e => hy sea a b c (by rw [if_neg (show ¬ L.1 2 = 16 by omega)]; exact e)
  generalize tkE t n (L.1 0) = c1 at hy hn hK
  -- once there is a FAULT
  have ff : ∀ (f pl : Nat) (M2 : Mem) (r1 r7 x4 : Int), f ≠ 0 → Fp lnR M M2 → RB M2 f pl → (∀ M', Fp lnR M M' → RB M' f pl → Q M') → A m11_factLine 5 0 37 [(20, ((59 : Nat) : Int)), (0, how), (0, r1), (0, r7), (0, x4), (2, 0)] [] M2 (Kd Q) := by
    intro f pl M2 r1 r7 x4 hf hF hB hQ
    exact f_37 (hB.ne hf) (hQ M2 hF hB)
  apply q_11_factLine
  have hD0 := hD
  obtain ⟨_, _, d61, _, _, _, dn, _⟩ := hD0
  apply s_personR hK h1 d61 (fun i hi => (dn i hi).1)
  · intro e1
    obtain ⟨u1, u2⟩ := pn_rng e1
    rw [if_neg (fun z => z e1)] at hn
    have hy : ∀ sea a b c, _ = endF t n (facL L how sea a b) c → ∀ M', Fp lnR M M' → K0 M' t n c → LRd M' (facL L how sea a b) → Q M' := fun sea a b c e => hy sea a b c (by rw [if_neg (fun z => z e1)]; exact e)
    apply s_goOnW hWR hK
    intro M5 hF5 hK5
    obtain ⟨hD5, hT5⟩ := tk hF5 hD hT
    have hF5' : Fp lnR M M5 := hF5.mono (fun k j q => tk_lnR q)
    generalize tkE t n c1 = c2 at hy hn hK5
    have hD0 := hD5
    obtain ⟨_, _, d61, _, _, _, dn, _⟩ := hD0
    apply s_personR hK5 h1 d61 (fun i hi => (dn i hi).1)
    · intro e2
      obtain ⟨v1, v2⟩ := pn_rng e2
      rw [if_neg (fun z => z e2)] at hn
      have hy : ∀ sea a b c, _ = endF t n (facL L how sea a b) c → ∀ M', Fp lnR M M' → K0 M' t n c → LRd M' (facL L how sea a b) → Q M' := fun sea a b c e => hy sea a b c (by rw [if_neg (fun z => z e2)]; exact e)
      rw [hK5.2.1.2.1]
      refine ⟨fun z => absurd hK5.2.2.1 z, fun _ => ⟨fun q => ?_, fun q => ?_⟩⟩
      · rw [if_neg q] at hn
        have hy : ∀ sea a b c, _ = endF t n (facL L how sea a b) c → ∀ M', Fp lnR M M' → K0 M' t n c → LRd M' (facL L how sea a b) → Q M' := fun sea a b c e => hy sea a b c (by rw [if_neg q]; exact e)
        generalize pnV t n L c1 = a at hy hn u1 u2
        generalize pnV t n L c2 = b at hy hn v1 v2
        apply r_11_factLine_37
        apply s_goOnW hWR hK5
        intro M6 hF6 hK6
        obtain ⟨hD6, hT6⟩ := tk hF6 hD5 hT5
        have hF6' : Fp lnR M M6 := hF5'.tr (hF6.mono (fun k j q => tk_lnR q))
        generalize hce3 : tkE t n c2 = c3 at hy hn hK6
        refine ⟨fun z => ?_, fun z => ?_⟩
        · rw [if_neg (fun y => z y.1)] at hn
          have hy : ∀ sea a b c, _ = endF t n (facL L how sea a b) c → ∀ M', Fp lnR M M' → K0 M' t n c → LRd M' (facL L how sea a b) → Q M' := fun sea a b c e => hy sea a b c (by rw [if_neg (fun y => z y.1)]; exact e)
          exact s_fact69 hK6 hD6 hT6 h1 h3 hl h16 hg ⟨u1, u2⟩ ⟨v1, v2⟩ (Or.inr ⟨by omega, rfl⟩) (fun e M' hF hK' hD' => hy _ a b c3 e M' (hF6'.tr hF) hK' hD') (fun f pl e hf M' hF hB => hn f pl e hf M' (hF6'.tr hF) hB)
        · apply s_isWord6 hK6
          refine ⟨fun q4 => ?_, fun q4 => ?_⟩
          · rw [if_neg (fun y => bi_eq q4 y.2)] at hn
            have hy : ∀ sea a b c, _ = endF t n (facL L how sea a b) c → ∀ M', Fp lnR M M' → K0 M' t n c → LRd M' (facL L how sea a b) → Q M' := fun sea a b c e => hy sea a b c (by rw [if_neg (fun y => bi_eq q4 y.2)]; exact e)
            exact s_fact69 hK6 hD6 hT6 h1 h3 hl h16 hg ⟨u1, u2⟩ ⟨v1, v2⟩ (Or.inl z) (fun e M' hF hK' hD' => hy _ a b c3 e M' (hF6'.tr hF) hK' hD') (fun f pl e hf M' hF hB => hn f pl e hf M' (hF6'.tr hF) hB)
          · rw [if_pos ⟨z, bi_ne q4⟩] at hn
            have hy : ∀ sea a b c, _ = endF t n (facL L how sea a b) c → ∀ M', Fp lnR M M' → K0 M' t n c → LRd M' (facL L how sea a b) → Q M' := fun sea a b c e => hy sea a b c (by rw [if_pos ⟨z, bi_ne q4⟩]; exact e)
            apply s_tokenW hWR hK6
            intro M7 hF7 hK7
            obtain ⟨hD7, hT7⟩ := tk hF7 hD6 hT6
            have hF7' : Fp lnR M M7 := hF6'.tr (hF7.mono (fun k j q => tk_lnR q))
            generalize tkE t n c3 = c4 at hy hn hK7
            apply s_numeral hWR hK7 (by omega)
            · intro e5 _ M8 hF8 hK8
              obtain ⟨hD8, hT8⟩ := tk hF8 hD7 hT7
              have hF8' : Fp lnR M M8 := hF7'.tr (hF8.mono (fun k j q => tk_lnR q))
              rw [if_neg (fun y => y e5)] at hn
              have hy : ∀ sea a b c, _ = endF t n (facL L how sea a b) c → ∀ M', Fp lnR M M' → K0 M' t n c → LRd M' (facL L how sea a b) → Q M' := fun sea a b c e => hy sea a b c (by rw [if_neg (fun y => y e5)]; exact e)
              exact s_fact69 hK8 hD8 hT8 h1 h3 hl h16 hg ⟨u1, u2⟩ ⟨v1, v2⟩ (Or.inl z) (fun e M' hF hK' hD' => hy _ a b _ e M' (hF8'.tr hF) hK' hD') (fun f pl e hf M' hF hB => hn f pl e hf M' (hF8'.tr hF) hB)
            · intro e5 M8 hF8 hB8
              rw [if_pos e5] at hn
              exact f_69 (hB8.ne e5) (hn _ _ rfl e5 M8 (hF7'.tr (hF8.mono (fun k j q => wr_lnR q))) hB8)
      · rw [if_pos q] at hn
        exact s_wrongW (f := 5) hK5 (fun M' hF hB => ff 5 _ M' _ _ _ (by decide) (hF5'.tr (hF.mono (fun k j q => wr_lnR q))) hB (fun M2 hF2 hB2 => hn 5 _ rfl (by decide) M2 hF2 hB2))
    · intro e2 M6 hF6 hB6
      rw [if_pos e2] at hn
      refine ⟨fun _ => ff _ _ M6 _ _ _ e2 (hF5'.tr (hF6.mono (fun k j q => wr_lnR q))) hB6 (fun M2 hF2 hB2 => hn _ _ rfl e2 M2 hF2 hB2), fun z => absurd z (hB6.ne e2)⟩
  · intro e1 M2 hF2 hB2
    rw [if_pos e1] at hn
    apply f_goOn (hB2.ne e1)
    apply f_person (hB2.ne e1)
    exact ⟨fun _ => ff _ _ M2 _ _ _ e1 (hF2.mono (fun k j q => wr_lnR q)) hB2 (fun M2 hF2 hB2 => hn _ _ rfl e1 M2 hF2 hB2), fun z => absurd z (hB2.ne e1)⟩
theorem s_facR (hWR : WordR) {t : Nat → Int} {n w : Nat} {L : LnS} {M : Mem} {P : Mem → Prop} (hw : w = 1 ∨ w = 2) (hK : K0 M t n (L.1 0)) (hD : LRd M L) (hz : szL L) (h16 : L.1 2 < 16) (hg : Fgood L.2.2.1 (L.1 2) (L.1 1))
    (hok : ∀ L', facF t n L ((w : Int) - 1) = .inl L' → ∀ M', Fp lnR M M' → K0 M' t n (L'.1 0) → LRd M' L' → P M') (hbad : ∀ f pl, facF t n L ((w : Int) - 1) = .inr (f, pl) → f ≠ 0 → ∀ M', Fp lnR M M' → RB M' f pl → P M') : A m11_line 901 0 118 [(20, ((59 : Nat) : Int)), (0, (w : Int)), (2, 0), (2, 0)] [] M (Kd P) := by
  obtain ⟨z1, z2, z3, z7, z8, zl⟩ := hz
  apply r_11_line_118
  refine ⟨fun _ => ?_, fun q => absurd hK.2.2.1 q⟩
  refine s_told hWR (w := w) hK hD ⟨z1, z2, z3, z7, z8, zl⟩ (by omega) ?_
  intro M5 hF5 hK5 hD5 hT5
  rw [if_neg (by omega), if_neg (by omega)] at hT5
  have fl : ∀ how : Int, how = (w : Int) - 1 → CD m11_factLine 5 [(20, ((59 : Nat) : Int)), (0, how)] M5 (fun M31 => A m11_line 901 0 353 [(20, ((59 : Nat) : Int)), (2, 0), (2, 0), (2, 0)] [] M31 (Kd P)) := by
    intro how e
    subst e
    apply s_factLine hWR (by omega) hK5 hD5 hT5 z1 z3 (by omega) h16 hg
    · intro sea a b c e M6 hF6 hK6 hD6
      refine s_endR hWR hK6 hD6 ⟨z1, by show L.1 2 + 1 ≤ 24; omega, z3, by show L.1 8 < 2000; omega, by show L.2.2.2.length ≤ 64; omega⟩ (fun L' e2 M7 hF7 hK7 hD7 => hok L' (e.trans e2) M7 ((hF5.tr hF6).tr hF7) hK7 hD7) (fun f pl e2 hf M7 hF7 hB7 => hbad f pl (e.trans e2) hf M7 ((hF5.tr hF6).tr hF7) hB7)
    · intro f pl e hf M6 hF6 hB6
      exact f_353 (hB6.ne hf) (hbad f pl e hf M6 (hF5.tr hF6) hB6)
  refine ⟨fun z => by omega, fun z => fl 0 (by omega), fun z => fl 1 (by omega), fun z => by omega, fun z => by omega, fun z => by omega⟩
