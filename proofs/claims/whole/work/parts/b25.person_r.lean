/-! the reference: a person's line, a season's line -/
theorem told_or {tb w : Nat} (h : tb < 64) (hw : w < 6) : ior (tb : Int) (ishl 1 (w : Int)) = ((tb ||| (1 <<< w) : Nat) : Int) ∧ tb ||| (1 <<< w) < 64 ∧ (tb ||| (1 <<< w)).testBit 4 = (tb.testBit 4 || decide (w = 4)) ∧ (tb ||| (1 <<< w)).testBit 5 = (tb.testBit 5 || decide (w = 5)) := by
  refine ⟨or_24 (by omega) (by omega), ?_, ?_, ?_⟩
  · refine Nat.or_lt_two_pow (n := 6) h ?_
    rw [Nat.shiftLeft_eq, Nat.one_mul]
    exact Nat.pow_lt_pow_right (by decide) hw
  · rw [Nat.testBit_or, tb_one]
  · rw [Nat.testBit_or, tb_one]
/-- the word is told, and the next TOKEN read -/
theorem s_told (hWR : WordR) {t : Nat → Int} {n w : Nat} {L : LnS} {M : Mem} {Q : Mem → Prop} (hK : K0 M t n (L.1 0)) (hD : LRd M L) (hz : szL L) (hw : w < 6)
    (h : ∀ M5, Fp lnR M M5 → K0 M5 t n (tkE t n (L.1 0)) → LRx M5 L 6 → TD M5 (if w = 4 then 1 else L.1 4) (if w = 5 then 1 else L.1 6) → Q M5) : CD m11_token 3 [(20, ((59 : Nat) : Int))] (mset M 59 16 (ior (M 59 16) (ishl 1 (w : Int)))) Q := by
  obtain ⟨z1, z2, z3, z7, z8, zl⟩ := hz
  obtain ⟨hDx, tb, t1, t2, t3, t4⟩ := hD
  obtain ⟨o1, o2, o3, o4⟩ := told_or t2 hw
  rw [t1, o1]
  have fx : Fp (fun k j => k = 59 ∧ j = 16) M (mset M 59 16 ((tb ||| (1 <<< w) : Nat) : Int)) := Fp.rf.set ⟨rfl, rfl⟩
  obtain ⟨k1, k2, k3, k4⟩ := hK
  have hK1 : K0 (mset M 59 16 ((tb ||| (1 <<< w) : Nat) : Int)) t n (L.1 0) := ⟨k1.fp fx (fun k j q => by omega), k2.fp fx (fun j _ _ => by omega), by rw [mset_j (by decide)]; exact k3, k4⟩
  have hD1 := hDx.fp fx (fun k j q => Or.inr (Or.inl q)) (by omega) z1 (by omega) z3
  apply s_tokenW hWR hK1
  intro M5 hF5 hK5
  refine h M5 ((fx.mono (fun k j q => by unfold lnR; omega)).tr (hF5.mono (fun k j q => tk_lnR q))) hK5 (hD1.fp hF5 (fun k j q => Or.inl q) (by omega) z1 (by omega) z3) ⟨tb ||| (1 <<< w), by rw [hF5 59 16 (by unfold tkset; omega), mset_s], o2, ?_, ?_⟩
  · rw [o3, t3]
    by_cases q : w = 4
    · rw [if_pos q, decide_eq_true q, Bool.or_true]; rfl
    · rw [if_neg q, decide_eq_false q, Bool.or_false]
  · rw [o4, t4]
    by_cases q : w = 5
    · rw [if_pos q, decide_eq_true q, Bool.or_true]; rfl
    · rw [if_neg q, decide_eq_false q, Bool.or_false]
theorem s_perR (hWR : WordR) {t : Nat → Int} {n : Nat} {L : LnS} {M : Mem} {P : Mem → Prop} (hK : K0 M t n (L.1 0)) (hD : LRd M L) (hz : szL L) (h5 : L.1 1 < 5)
    (hok : ∀ L', perF t n L = .inl L' → ∀ M', Fp lnR M M' → K0 M' t n (L'.1 0) → LRd M' L' → P M') (hbad : ∀ f pl, perF t n L = .inr (f, pl) → f ≠ 0 → ∀ M', Fp lnR M M' → RB M' f pl → P M') : A m11_line 901 0 118 [(20, ((59 : Nat) : Int)), (0, ((0 : Nat) : Int)), (2, 0), (2, 0)] [] M (Kd P) := by
  obtain ⟨z1, z2, z3, z7, z8, zl⟩ := hz
  unfold perF at hok hbad
  rw [if_neg (by omega)] at hok hbad
  apply r_11_line_118
  refine ⟨fun _ => ?_, fun q => absurd hK.2.2.1 q⟩
  refine s_told hWR (w := 0) hK hD ⟨z1, z2, z3, z7, z8, zl⟩ (by omega) ?_
  intro M5 hF5 hK5 hD5 hT5
  generalize tkE t n (L.1 0) = c1 at hok hbad hK5
  refine ⟨fun _ => ?_, fun z => absurd z (by decide), fun z => absurd z (by decide), fun z => absurd z (by decide), fun z => absurd z (by decide), fun z => absurd z (by decide)⟩
  have e5 : w32 (5 + (L.1 1 : Int)) = ((5 + L.1 1 : Nat) : Int) := by rw [w32_id (by omega) (by omega)]; omega
  obtain ⟨dR, d17, d61, d62, d63, d64, dn, dq, df, dr, dF⟩ := hD5
  apply s_fresherW (w := 0) (by omega) d61
  apply s_fresherW (w := 0) (by omega) d61
  -- once there is a FAULT
  have f2 : ∀ (f pl : Nat) (M6 : Mem), f ≠ 0 → Fp lnR M M6 → RB M6 f pl → M6 61 5 = (L.1 1 : Int) → (P' : ∀ M', Fp lnR M M' → RB M' f pl → P M') → ((0 ≤ w32 (5 + (L.1 1 : Int)) ∧ w32 (5 + (L.1 1 : Int)) < 10) ∧ (CD m11_oneMore 1 [(20, ((59 : Nat) : Int)), (0, 0)] (mset M6 63 (w32 (5 + (L.1 1 : Int))).toNat 0) (fun M27 => A m11_line 901 0 353 [(20, ((59 : Nat) : Int)), (2, 0), (2, 0), (2, 0)] [] M27 (Kd P)))) := by
    intro f pl M6 hf hF6 hB6 h61 P'
    rw [e5, Int.toNat_natCast]
    refine ⟨by omega, ?_⟩
    refine s_oneMoreW (w := 0) (v := L.1 1) (by omega) (by rw [mset_k (by decide)]; exact h61) (by omega) ?_
    have fx : Fp (fun k j => (k = 63 ∧ j = 5 + L.1 1) ∨ (k = 61 ∧ j = 5)) M6 (mset (mset M6 63 (5 + L.1 1) 0) 61 (5 + 0) ((L.1 1 + 1 : Nat) : Int)) := (Fp.rf.set (Or.inl ⟨rfl, rfl⟩)).set (Or.inr ⟨rfl, rfl⟩)
    have hB7 := hB6.fp fx (by omega)
    exact f_353 (hB7.ne hf) (P' _ (hF6.tr (fx.mono (fun k j q => by unfold lnR; omega))) hB7)
  have f1 : ∀ (f pl : Nat) (M6 : Mem), f ≠ 0 → Fp lnR M M6 → RB M6 f pl → M6 61 5 = (L.1 1 : Int) → (P' : ∀ M', Fp lnR M M' → RB M' f pl → P M') → ((0 ≤ w32 (5 + (L.1 1 : Int)) ∧ w32 (5 + (L.1 1 : Int)) < 10) ∧ (CI m11_fresher 1 [(20, ((59 : Nat) : Int)), (0, 0)] (mset M6 62 (w32 (5 + (L.1 1 : Int))).toNat 0) (fun r19 M20 => (CI m11_numeral 4 [(20, ((59 : Nat) : Int)), (0, 0), (0, 99)] M20 (fun r22 M23 => ((0 ≤ (w32 (5 + r19)) ∧ (w32 (5 + r19)) < 10) ∧ (CD m11_oneMore 1 [(20, ((59 : Nat) : Int)), (0, 0)] (mset M23 63 ((w32 (5 + r19))).toNat r22) (fun M27 => A m11_line 901 0 353 [(20, ((59 : Nat) : Int)), (2, 0), (2, 0), (2, 0)] [] M27 (Kd P))))))))) := by
    intro f pl M6 hf hF6 hB6 h61 P'
    rw [e5, Int.toNat_natCast]
    refine ⟨by omega, ?_⟩
    have fx : Fp (fun k j => k = 62 ∧ j = 5 + L.1 1) M6 (mset M6 62 (5 + L.1 1) 0) := Fp.rf.set ⟨rfl, rfl⟩
    have hB7 := hB6.fp fx (by omega)
    refine s_fresherW (w := 0) (v := (L.1 1 : Int)) (by omega) (by rw [mset_k (by decide)]; exact h61) ?_
    apply f_numeral (hB7.ne hf)
    exact f2 f pl _ hf (hF6.tr (fx.mono (fun k j q => by unfold lnR; omega))) hB7 (by rw [mset_k (by decide)]; exact h61) P'
  have k61 : ∀ {M6 : Mem} {q : Nat → Nat → Prop}, Fp q M5 M6 → ¬ q 61 5 → M6 61 5 = (L.1 1 : Int) := fun hF hq => by rw [hF 61 5 hq]; exact d61
  apply s_fresh hWR (r := 62) (N := L.2.1 0) hK5 (Or.inl rfl) z1 (fun i hi => (dn i hi).1)
  · intro s1 fn M6 hF6 hK6
    rw [if_neg (fun z => z s1), if_neg (fun z => z fn)] at hok hbad
    generalize tkE t n c1 = c2 at hok hbad hK6
    rw [e5, Int.toNat_natCast]
    refine ⟨by omega, ?_⟩
    have fx : Fp (fun k j => k = 62 ∧ j = 5 + L.1 1) M6 (mset M6 62 (5 + L.1 1) (tkV t n c1)) := Fp.rf.set ⟨rfl, rfl⟩
    obtain ⟨k1, k2, k3, k4⟩ := hK6
    have hK7 : K0 (mset M6 62 (5 + L.1 1) (tkV t n c1)) t n c2 := ⟨k1.fp fx (fun k j q => by omega), k2.fp fx (fun j _ _ => by omega), by rw [mset_k (by decide)]; exact k3, k4⟩
    have hF7 : Fp lnR M (mset M6 62 (5 + L.1 1) (tkV t n c1)) := (hF5.tr (hF6.mono (fun k j q => tk_lnR q))).tr (fx.mono (fun k j q => by unfold lnR; omega))
    have h617 : mset M6 62 (5 + L.1 1) (tkV t n c1) 61 5 = (L.1 1 : Int) := by rw [mset_k (by decide)]; exact k61 hF6 (by unfold tkset; omega)
    refine s_fresherW (w := 0) (by omega) h617 ?_
    apply s_numeral hWR hK7 (by omega)
    · intro e0 hv M8 hF8 hK8
      rw [if_neg (fun z => z e0)] at hok hbad
      generalize tkE t n c2 = c3 at hok hbad hK8
      rw [e5, Int.toNat_natCast]
      refine ⟨by omega, ?_⟩
      refine s_oneMoreW (w := 0) (v := L.1 1) (by omega) (by rw [mset_k (by decide), hF8 61 (5 + 0) (by unfold tkset; omega)]; exact h617) (by omega) ?_
      have fy : Fp (fun k j => (k = 63 ∧ j = 5 + L.1 1) ∨ (k = 61 ∧ j = 5)) M8 (mset (mset M8 63 (5 + L.1 1) (tkV t n c2)) 61 (5 + 0) ((L.1 1 + 1 : Nat) : Int)) := (Fp.rf.set (Or.inl ⟨rfl, rfl⟩)).set (Or.inr ⟨rfl, rfl⟩)
      obtain ⟨m1, m2, m3, m4⟩ := hK8
      have hKf : K0 (mset (mset M8 63 (5 + L.1 1) (tkV t n c2)) 61 (5 + 0) ((L.1 1 + 1 : Nat) : Int)) t n c3 := ⟨m1.fp fy (fun k j q => by omega), m2.fp fy (fun j _ _ => by omega), by rw [fy 59 23 (by omega)]; exact m3, m4⟩
      have hFf : Fp lnR M (mset (mset M8 63 (5 + L.1 1) (tkV t n c2)) 61 (5 + 0) ((L.1 1 + 1 : Nat) : Int)) := (hF7.tr (hF8.mono (fun k j q => tk_lnR q))).tr (fy.mono (fun k j q => by unfold lnR; omega))
      -- all that changed since the TOKEN behind the word
      have hFd : Fp (fun k j => tkset k j ∨ (k = 62 ∧ j = 5 + L.1 1) ∨ (k = 63 ∧ j = 5 + L.1 1) ∨ (k = 61 ∧ j = 5)) M5 (mset (mset M8 63 (5 + L.1 1) (tkV t n c2)) 61 (5 + 0) ((L.1 1 + 1 : Nat) : Int)) := (((hF6.mono (fun k j q => Or.inl q)).tr (fx.mono (fun k j q => Or.inr (Or.inl q)))).tr (hF8.mono (fun k j q => Or.inl q))).tr (fy.mono (fun k j q => by omega))
      have eD : ∀ k j, ¬ (tkset k j ∨ (k = 62 ∧ j = 5 + L.1 1) ∨ (k = 63 ∧ j = 5 + L.1 1) ∨ (k = 61 ∧ j = 5)) → mset (mset M8 63 (5 + L.1 1) (tkV t n c2)) 61 (5 + 0) ((L.1 1 + 1 : Nat) : Int) k j = M5 k j := fun k j hq => hFd k j hq
      have eR : ∀ k, 64 ≤ k → mset (mset M8 63 (5 + L.1 1) (tkV t n c2)) 61 (5 + 0) ((L.1 1 + 1 : Nat) : Int) k = M5 k := fun k hk => hFd.row (fun j => by unfold tkset; omega)
      have g62 : mset (mset M8 63 (5 + L.1 1) (tkV t n c2)) 61 (5 + 0) ((L.1 1 + 1 : Nat) : Int) 62 (5 + L.1 1) = tkV t n c1 := by rw [mset_k (by decide), mset_k (by decide), hF8 62 _ (by unfold tkset; omega), mset_s]
      have g63 : mset (mset M8 63 (5 + L.1 1) (tkV t n c2)) 61 (5 + 0) ((L.1 1 + 1 : Nat) : Int) 63 (5 + L.1 1) = tkV t n c2 := by rw [mset_k (by decide), mset_s]
      have g61 : mset (mset M8 63 (5 + L.1 1) (tkV t n c2)) 61 (5 + 0) ((L.1 1 + 1 : Nat) : Int) 61 5 = ((L.1 1 + 1 : Nat) : Int) := mset_s
      generalize mset (mset M8 63 (5 + L.1 1) (tkV t n c2)) 61 (5 + 0) ((L.1 1 + 1 : Nat) : Int) = M9 at hKf hFf eD eR g62 g63 g61 hFd
      refine s_endR hWR (L := LSmk (udg L.1 1 (L.1 1 + 1)) (ud2 (ud2 L.2.1 0 (L.1 1) (tkV t n c1)) 1 (L.1 1) (tkV t n c2)) L.2.2.1 L.2.2.2) hKf ⟨⟨?_, ?_, g61, ?_, ?_, ?_, ?_, ?_, ?_, ?_, ?_⟩, ?_⟩ ⟨by show L.1 1 + 1 ≤ 5; omega, by show L.1 2 ≤ 24; omega, z3, by show L.1 8 < 2000; omega, by show L.2.2.2.length ≤ 64; omega⟩ (fun L' e M' hF hK' hD' => hok L' e M' (hFf.tr hF) hK' hD') (fun f pl e hf M' hF hB => hbad f pl e hf M' (hFf.tr hF) hB)
      · obtain ⟨r1, r2, r3, r4, r5⟩ := dR
        refine ⟨by rw [eD 59 23 (by unfold tkset; omega)]; exact r1, by rw [eD 59 27 (by unfold tkset; omega)]; exact r2, by rw [eD 59 28 (by unfold tkset; omega)]; exact r3, by rw [eD 61 9 (by unfold tkset; omega)]; exact r4, by rw [eR 67 (by omega), eR 68 (by omega)]; exact r5⟩
      · rw [eD 59 17 (by unfold tkset; omega)]; exact d17
      · rw [eD 61 6 (by unfold tkset; omega)]; exact d62
      · rw [eD 61 7 (by unfold tkset; omega)]; exact d63
      · rw [eD 61 8 (by unfold tkset; omega)]; exact d64
      · intro i hi
        have hi : i < L.1 1 + 1 := hi
        show _ = ud2 (ud2 L.2.1 0 (L.1 1) (tkV t n c1)) 1 (L.1 1) (tkV t n c2) 0 i ∧ _ = ud2 (ud2 L.2.1 0 (L.1 1) (tkV t n c1)) 1 (L.1 1) (tkV t n c2) 1 i
        rw [ud2_o (show ¬ (0 = 1 ∧ i = L.1 1) by omega)]
        by_cases z : i = L.1 1
        · subst z
          rw [ud2_s, ud2_s]
          exact ⟨g62, g63⟩
        · rw [ud2_o (by omega), ud2_o (by omega), ud2_o (by omega), eD 62 (5 + i) (by unfold tkset; omega), eD 63 (5 + i) (by unfold tkset; omega)]
          exact dn i (by omega)
      · rw [eR 64 (by omega)]
        intro i hi
        show _ = ud2 (ud2 L.2.1 0 (L.1 1) (tkV t n c1)) 1 (L.1 1) (tkV t n c2) 2 i
        rw [ud2_o (by omega), ud2_o (by omega)]
        exact dq i hi
      · rw [eR 65 (by omega), eR 66 (by omega)]
        intro i hi hne
        show _ = ud2 (ud2 L.2.1 0 (L.1 1) (tkV t n c1)) 1 (L.1 1) (tkV t n c2) 3 i ∧ _ = ud2 (ud2 L.2.1 0 (L.1 1) (tkV t n c1)) 1 (L.1 1) (tkV t n c2) 4 i
        rw [ud2_o (by omega), ud2_o (by omega), ud2_o (by omega), ud2_o (by omega)]
        exact df i hi hne
      · rw [eR 65 (by omega), eR 66 (by omega)]; exact dr
      · unfold FrT
        rw [eR 69 (by omega), eR 70 (by omega), eR 71 (by omega), eR 72 (by omega), eR 73 (by omega)]
        exact dF
      · have : TD M9 (L.1 4) (L.1 6) := by
          have h := hT5.fp hFd (by unfold tkset; omega)
          simpa using h
        exact this
    · intro e0 M8 hF8 hB8
      rw [if_pos e0] at hbad
      exact f2 _ _ M8 e0 (hF7.tr (hF8.mono (fun k j q => wr_lnR q))) hB8 (by rw [hF8 61 5 (by unfold wrset; omega)]; exact h617) (fun M' hF hB => hbad _ _ rfl e0 M' hF hB)
  · intro s1 M6 hF6 hB6
    rw [if_pos s1] at hbad
    exact f1 1 _ M6 (by decide) (hF5.tr (hF6.mono (fun k j q => wr_lnR q))) hB6 (k61 hF6 (by unfold wrset; omega)) (fun M' hF hB => hbad 1 _ rfl (by decide) M' hF hB)
  · intro s1 fn M6 hF6 hB6
    rw [if_neg (fun z => z s1), if_pos fn] at hbad
    exact f1 3 _ M6 (by decide) (hF5.tr (hF6.mono (fun k j q => wr_lnR q))) hB6 (k61 hF6 (by unfold wrset; omega)) (fun M' hF hB => hbad 3 _ rfl (by decide) M' hF hB)
