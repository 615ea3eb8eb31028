/-! the reference: a season's line, an E in a line -/
theorem s_seaR (hWR : WordR) {t : Nat → Int} {n : Nat} {L : LnS} {M : Mem} {P : Mem → Prop} (hK : K0 M t n (L.1 0)) (hD : LRd M L) (hz : szL L) (h4 : L.1 4 = 0)
    (hok : ∀ L', seaF t n L = .inl L' → ∀ M', Fp lnR M M' → K0 M' t n (L'.1 0) → LRd M' L' → P M') (hbad : ∀ f pl, seaF t n L = .inr (f, pl) → f ≠ 0 → ∀ M', Fp lnR M M' → RB M' f pl → P M') : A m11_line 901 0 118 [(20, ((59 : Nat) : Int)), (0, ((4 : Nat) : Int)), (2, 0), (2, 0)] [] M (Kd P) := by
  obtain ⟨z1, z2, z3, z7, z8, zl⟩ := hz
  unfold seaF at hok hbad
  rw [if_neg (by omega)] at hok hbad
  apply r_11_line_118
  refine ⟨fun _ => ?_, fun q => absurd hK.2.2.1 q⟩
  refine s_told hWR (w := 4) hK hD ⟨z1, z2, z3, z7, z8, zl⟩ (by omega) ?_
  intro M5 hF5 hK5 hD5 hT5
  generalize tkE t n (L.1 0) = c1 at hok hbad hK5
  refine ⟨fun z => absurd z (by decide), fun z => absurd z (by decide), fun z => absurd z (by decide), fun z => absurd z (by decide), fun _ => ?_, fun z => absurd z (by decide)⟩
  apply s_numeral hWR hK5 (by omega)
  · intro e0 hv M6 hF6 hK6
    rw [if_neg (fun z => z e0)] at hok hbad
    generalize tkE t n c1 = c2 at hok hbad hK6
    have hD6 := hD5.fp hF6 (fun k j q => Or.inl q) (by omega) z1 (by omega) z3
    have hT6 := hT5.fp hF6 (by unfold tkset; omega)
    have fx : Fp (fun k j => k = 61 ∧ j = 8) M6 (mset M6 61 8 (tkV t n c1)) := Fp.rf.set ⟨rfl, rfl⟩
    obtain ⟨m1, m2, m3, m4⟩ := hK6
    have hKf : K0 (mset M6 61 8 (tkV t n c1)) t n c2 := ⟨m1.fp fx (fun k j q => by omega), m2.fp fx (fun j _ _ => by omega), by rw [mset_k (by decide)]; exact m3, m4⟩
    have hFf : Fp lnR M (mset M6 61 8 (tkV t n c1)) := (hF5.tr (hF6.mono (fun k j q => tk_lnR q))).tr (fx.mono (fun k j q => by unfold lnR; omega))
    have eR : ∀ k, k ≠ 61 → mset M6 61 8 (tkV t n c1) k = M6 k := fun k hk => fx.row (fun j => by omega)
    have e61 : ∀ j, j ≠ 8 → mset M6 61 8 (tkV t n c1) 61 j = M6 61 j := fun j hj => fx 61 j (by omega)
    obtain ⟨⟨r1, r2, r3, r4, r5⟩, d17, d61, d62, d63, d64, dn, dq, df, dr, dF⟩ := hD6
    refine s_endR hWR (L := LSmk (udg (udg L.1 4 1) 5 (tkV t n c1).toNat) L.2.1 L.2.2.1 L.2.2.2) hKf ⟨⟨⟨?_, ?_, ?_, ?_, ?_⟩, ?_, ?_, ?_, ?_, ?_, ?_, ?_, ?_, ?_, ?_⟩, ?_⟩ ⟨z1, by show L.1 2 ≤ 24; omega, z3, by show L.1 8 < 2000; omega, by show L.2.2.2.length ≤ 64; omega⟩ (fun L' e M' hF hK' hD' => hok L' e M' (hFf.tr hF) hK' hD') (fun f pl e hf M' hF hB => hbad f pl e hf M' (hFf.tr hF) hB)
    · rw [eR 59 (by decide)]; exact r1
    · rw [eR 59 (by decide)]; exact r2
    · rw [eR 59 (by decide)]; exact r3
    · rw [e61 9 (by decide)]; exact r4
    · rw [eR 67 (by decide), eR 68 (by decide)]; exact r5
    · rw [eR 59 (by decide)]; exact d17
    · rw [e61 5 (by decide)]; exact d61
    · rw [e61 6 (by decide)]; exact d62
    · rw [e61 7 (by decide)]; exact d63
    · rw [mset_s]
      show _ = ((udg (udg L.1 4 1) 5 (tkV t n c1).toNat 5 : Nat) : Int)
      rw [udg_s]; omega
    · rw [eR 62 (by decide), eR 63 (by decide)]; exact dn
    · rw [eR 64 (by decide)]; exact dq
    · rw [eR 65 (by decide), eR 66 (by decide)]; exact df
    · rw [eR 65 (by decide), eR 66 (by decide)]; exact dr
    · unfold FrT
      rw [eR 69 (by decide), eR 70 (by decide), eR 71 (by decide), eR 72 (by decide), eR 73 (by decide)]; exact dF
    · exact hT6.fp fx (by omega)
  · intro e0 M6 hF6 hB6
    rw [if_pos e0] at hbad
    have fx : Fp (fun k j => k = 61 ∧ j = 8) M6 (mset M6 61 8 0) := Fp.rf.set ⟨rfl, rfl⟩
    have hB7 := hB6.fp fx (by omega)
    exact f_353 (hB7.ne e0) (hbad _ _ rfl e0 _ ((hF5.tr (hF6.mono (fun k j q => wr_lnR q))).tr (fx.mono (fun k j q => by unfold lnR; omega))) hB7)
/-- an E in a line: where it begins is told, then it is read, then where it ends is told -/
theorem s_forR (hWR : WordR) {t : Nat → Int} {n c f : Nat} {L : LnS} {M0 M : Mem} {P G : Mem → Prop} (hf : f < 6) (hF0 : Fp lnR M0 M) (hK : K0 M t n c) (hD : LRx M L f) (hT : TD M (L.1 4) (L.1 6)) (hz : L.1 1 ≤ 5 ∧ L.1 2 ≤ 24 ∧ L.1 3 ≤ 5 ∧ L.1 7 ≤ 64 ∧ L.1 8 < 2000 ∧ L.2.2.2.length = L.1 7) (h65 : M 65 (6 + f) = (L.2.2.2.length : Int)) (hr6 : f = 5 → L.1 6 ≠ 0)
    (hG : ∀ M' ro : Mem, Fp lnR M0 M' → M' = ro → (∀ v : Int, M' 61 9 = v → A m11_line 901 0 353 [(20, ((59 : Nat) : Int)), (2, 0), (2, 0), (2, 0)] [] (mset M' 66 (6 + f) v) (Kd P)) → G M')
    (hok : ∀ L', forF t n L f c = .inl L' → ∀ M', Fp lnR M0 M' → K0 M' t n (L'.1 0) → LRd M' L' → P M') (hbad : ∀ f' pl, forF t n L f c = .inr (f', pl) → f' ≠ 0 → ∀ M', Fp lnR M0 M' → RB M' f' pl → P M') : CD m11_expression 900 [(20, ((59 : Nat) : Int))] M G := by
  obtain ⟨z1, z2, z3, z7, z8, zl⟩ := hz
  obtain ⟨dR, d17, d61, d62, d63, d64, dn, dq, df, dr, dF⟩ := hD
  unfold forF at hok hbad
  have ex : ∀ {M' : Mem}, Fp exR M M' → Fp lnR M0 M' := fun hF => hF0.tr (hF.mono (fun k j q => by unfold exR tkset at q; unfold lnR; omega))
  apply s_exprR hWR hK.1 hK.2.2.2 hK.2.1 dR z7 zl
  · intro z' e hc' hk' M' hF hK' hR'
    rw [e] at hok hbad
    refine hG M' M' (ex hF) rfl (fun v hv => ?_)
    have hv' : v = ((outE z').length : Int) := hv.symm.trans hR'.2.2.2.1
    subst hv'
    have fx : Fp (fun k j => k = 66 ∧ j = 6 + f) M' (mset M' 66 (6 + f) ((outE z').length : Int)) := Fp.rf.set ⟨rfl, rfl⟩
    have hKf : K0 (mset M' 66 (6 + f) ((outE z').length : Int)) t n z'.1 := ⟨(exR_T hK.1 hF).fp fx (fun k j q => by omega), hK'.fp fx (fun j _ _ => by omega), by rw [mset_k (by decide)]; exact hR'.1, hc'⟩
    have hFf : Fp lnR M0 (mset M' 66 (6 + f) ((outE z').length : Int)) := (ex hF).tr (fx.mono (fun k j q => by unfold lnR; omega))
    have hFd : Fp (fun k j => exR k j ∨ (k = 66 ∧ j = 6 + f)) M (mset M' 66 (6 + f) ((outE z').length : Int)) := (hF.mono (fun k j q => Or.inl q)).tr (fx.mono (fun k j q => Or.inr q))
    have eD : ∀ k j, ¬ (exR k j ∨ (k = 66 ∧ j = 6 + f)) → mset M' 66 (6 + f) ((outE z').length : Int) k j = M k j := fun k j hq => hFd k j hq
    have eR : ∀ k, (62 ≤ k ∧ k ≤ 65) ∨ 69 ≤ k → mset M' 66 (6 + f) ((outE z').length : Int) k = M k := fun k hk => hFd.row (fun j => by unfold exR tkset; omega)
    obtain ⟨r1, r2, r3, r4, r5⟩ := hR'
    have hlen' : (outE z').length ≤ 64 ∨ True := Or.inr trivial
    have g66 : mset M' 66 (6 + f) ((outE z').length : Int) 66 (6 + f) = ((outE z').length : Int) := mset_s
    have hRf : RY (mset M' 66 (6 + f) ((outE z').length : Int)) 0 z'.2.2.2.2.1 (outE z') := ⟨by rw [mset_k (by decide)]; exact r1, by rw [mset_k (by decide)]; exact r2, by rw [mset_k (by decide)]; exact r3, by rw [mset_k (by decide)]; exact r4, fun i hi => by rw [mset_k (by decide), mset_k (by decide)]; exact r5 i hi⟩
    generalize mset M' 66 (6 + f) ((outE z').length : Int) = M9 at hKf hFf hFd eD eR g66 hRf
    by_cases hl : (outE z').length ≤ 64
    · refine s_endR hWR (L := LSmk (udg L.1 7 z'.2.2.2.2.1) (ud2 (ud2 L.2.1 3 f (L.2.2.2.length : Int)) 4 f ((outE z').length : Int)) L.2.2.1 (outE z')) hKf ⟨⟨hRf, ?_, ?_, ?_, ?_, ?_, ?_, ?_, ?_, ?_, ?_⟩, ?_⟩ ⟨z1, z2, z3, by show L.1 8 < 2000; omega, hl⟩ (fun L' e M' hF hK' hD' => hok L' e M' (hFf.tr hF) hK' hD') (fun f pl e hf M' hF hB => hbad f pl e hf M' (hFf.tr hF) hB)
      · rw [eD 59 17 (by unfold exR tkset; omega)]; exact d17
      · rw [eD 61 5 (by unfold exR tkset; omega)]; exact d61
      · rw [eD 61 6 (by unfold exR tkset; omega)]; exact d62
      · rw [eD 61 7 (by unfold exR tkset; omega)]; exact d63
      · rw [eD 61 8 (by unfold exR tkset; omega)]; exact d64
      · rw [eR 62 (by omega), eR 63 (by omega)]
        intro i hi
        show _ = ud2 (ud2 L.2.1 3 f (L.2.2.2.length : Int)) 4 f ((outE z').length : Int) 0 i ∧ _ = ud2 (ud2 L.2.1 3 f (L.2.2.2.length : Int)) 4 f ((outE z').length : Int) 1 i
        rw [ud2_o (by omega), ud2_o (by omega), ud2_o (by omega), ud2_o (by omega)]
        exact dn i hi
      · rw [eR 64 (by omega)]
        intro i hi
        show _ = ud2 (ud2 L.2.1 3 f (L.2.2.2.length : Int)) 4 f ((outE z').length : Int) 2 i
        rw [ud2_o (by omega), ud2_o (by omega)]
        exact dq i hi
      · rw [eR 65 (by omega)]
        intro i hi hne
        have hi : i < L.1 3 ∨ (i = 5 ∧ L.1 6 = 1) := hi
        show _ = ud2 (ud2 L.2.1 3 f (L.2.2.2.length : Int)) 4 f ((outE z').length : Int) 3 i ∧ _ = ud2 (ud2 L.2.1 3 f (L.2.2.2.length : Int)) 4 f ((outE z').length : Int) 4 i
        rw [ud2_o (show ¬ (3 = 4 ∧ i = f) by omega)]
        by_cases z : i = f
        · subst z
          rw [ud2_s, ud2_s]
          exact ⟨h65, g66⟩
        · rw [ud2_o (by omega), ud2_o (by omega), ud2_o (by omega), eD 66 (6 + i) (by unfold exR tkset; omega)]
          exact df i hi z
      · intro h0
        have h0 : L.1 6 = 0 := h0
        rw [eR 65 (by omega)]
        have hne : f ≠ 5 := fun y => hr6 y h0
        rw [eD 66 11 (by unfold exR tkset; omega)]
        exact dr h0
      · unfold FrT
        rw [eR 69 (by omega), eR 70 (by omega), eR 71 (by omega), eR 72 (by omega), eR 73 (by omega)]
        exact dF
      · exact hT.fp hFd (by unfold exR tkset; omega)
    · exfalso
      apply hl
      have hb := hK.1.2.2.2
      have hZ0 : ZI n L.2.2.2 (z0E c (L.1 7) L.2.2.2) := ⟨hK.2.2.2, z7, by show 0 ≤ 8; omega, rfl, fun x hx => (by cases hx), by show L.2.2.2.length + 0 = L.1 7; omega, [], by show L.2.2.2 = L.2.2.2 ++ []; rw [List.append_nil], rfl⟩
      obtain ⟨hZ, hs⟩ := EZ_ok hb _ _ _ hZ0 (by show n + 1 ≤ c + (n + 2 - c); omega) e
      have := (E_fin hZ hs).2.2.2.1
      have h2 := hZ.2.1
      show (outE z').length ≤ 64
      unfold outE
      omega
  · intro c' kn' ro M' e hne hF hK' hR' hro
    rw [e] at hbad
    refine hG M' M' (ex hF) rfl (fun v hv => ?_)
    have fx : Fp (fun k j => k = 66 ∧ j = 6 + f) M' (mset M' 66 (6 + f) v) := Fp.rf.set ⟨rfl, rfl⟩
    have hKR := hK'.fp fx (fun j _ _ => by omega)
    have h0 : mset M' 66 (6 + f) v 59 23 = 0 := by rw [mset_k (by decide)]; exact hR'.1
    have hFf : Fp lnR M0 (mset M' 66 (6 + f) v) := (ex hF).tr (fx.mono (fun k j q => by unfold lnR; omega))
    apply r_11_line_353
    refine ⟨fun _ => ?_, fun q => absurd h0 q⟩
    apply s_isSign h0 hKR (by omega)
    rw [show ksg 59 = 10032 by decide]
    refine ⟨fun q => absurd (bi_ne q) hne, fun _ => ?_⟩
    refine s_wrongR (f := 1) h0 hKR.2.1 (fun M2 hF2 hB2 => ?_)
    apply r_11_line_382
    exact hbad 1 _ rfl (by decide) _ ((hFf.tr (hF2.mono (fun k j q => by unfold exR tkset at q; unfold lnR; omega))).set (by unfold lnR; omega)) ⟨by rw [mset_j (by decide)]; exact hB2.1, by rw [mset_j (by decide)]; exact hB2.2⟩
  · intro f' pl M' e hf' hF hB
    rw [e] at hbad
    refine hG M' M' (ex hF) rfl (fun v hv => ?_)
    have fx : Fp (fun k j => k = 66 ∧ j = 6 + f) M' (mset M' 66 (6 + f) v) := Fp.rf.set ⟨rfl, rfl⟩
    have hB7 := hB.fp fx (by omega)
    exact f_353 (hB7.ne hf') (hbad f' pl rfl hf' _ ((ex hF).tr (fx.mono (fun k j q => by unfold lnR; omega))) hB7)
