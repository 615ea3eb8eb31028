/-! the reference: a part's line, rise's line -/
theorem f_expression {f pl : Nat} {M : Mem} {P : Mem → Prop} (hf : f ≠ 0) (hB : RB M f pl) (hp : P M) : CD m11_expression 900 [(20, ((59 : Nat) : Int))] M P := by
  have h := hB.ne hf
  apply q_11_expression (d := 899) (by omega)
  apply f_conjunction (d := 898) (by omega) h
  apply r_11_expression_4 (d := 899) (by omega)
  apply f_isWord h
  exact ⟨fun _ => hp, fun q => absurd rfl q⟩
theorem s_parR (hWR : WordR) {t : Nat → Int} {n : Nat} {L : LnS} {M : Mem} {P : Mem → Prop} (hK : K0 M t n (L.1 0)) (hD : LRd M L) (hz : szL L) (h5 : L.1 3 < 5)
    (hok : ∀ L', parF t n L = .inl L' → ∀ M', Fp lnR M M' → K0 M' t n (L'.1 0) → LRd M' L' → P M') (hbad : ∀ f pl, parF t n L = .inr (f, pl) → f ≠ 0 → ∀ M', Fp lnR M M' → RB M' f pl → P M') : A m11_line 901 0 118 [(20, ((59 : Nat) : Int)), (0, ((3 : Nat) : Int)), (2, 0), (2, 0)] [] M (Kd P) := by
  obtain ⟨z1, z2, z3, z7, z8, zl⟩ := hz
  unfold parF at hok hbad
  rw [if_neg (by omega)] at hok hbad
  apply r_11_line_118
  refine ⟨fun _ => ?_, fun q => absurd hK.2.2.1 q⟩
  refine s_told hWR (w := 3) hK hD ⟨z1, z2, z3, z7, z8, zl⟩ (by omega) ?_
  intro M5 hF5 hK5 hD5 hT5
  generalize tkE t n (L.1 0) = c1 at hok hbad hK5
  refine ⟨fun z => absurd z (by decide), fun z => absurd z (by decide), fun z => absurd z (by decide), fun _ => ?_, fun z => absurd z (by decide), fun z => absurd z (by decide)⟩
  have e5 : w32 (5 + (L.1 3 : Int)) = ((5 + L.1 3 : Nat) : Int) := by rw [w32_id (by omega) (by omega)]; omega
  have e6 : w32 (6 + (L.1 3 : Int)) = ((6 + L.1 3 : Nat) : Int) := by rw [w32_id (by omega) (by omega)]; omega
  have hT5' : TD M5 (L.1 4) (L.1 6) := by simpa using hT5
  obtain ⟨⟨r1, r2, r3, r4, r5⟩, d17, d61, d62, d63, d64, dn, dq, df, dr, dF⟩ := hD5
  apply s_fresherW (w := 2) (v := (L.1 3 : Int)) (by omega) d63
  -- once there is a FAULT
  have f1 : ∀ (f pl : Nat) (M6 : Mem), f ≠ 0 → Fp wrset M5 M6 → RB M6 f pl → (P' : ∀ M', Fp lnR M M' → RB M' f pl → P M') → ((0 ≤ w32 (5 + (L.1 3 : Int)) ∧ w32 (5 + (L.1 3 : Int)) < 10) ∧ (CI m11_fresher 1 [(20, ((59 : Nat) : Int)), (0, 4)] (mset M6 64 (w32 (5 + (L.1 3 : Int))).toNat 0) (fun r45 M46 => ((0 ≤ (w32 (6 + (L.1 3 : Int))) ∧ (w32 (6 + (L.1 3 : Int))) < 12) ∧ (CD m11_expression 900 [(20, ((59 : Nat) : Int))] (mset M46 65 ((w32 (6 + (L.1 3 : Int)))).toNat r45) (fun M50 => (CI m11_fresher 1 [(20, ((59 : Nat) : Int)), (0, 4)] M50 (fun r52 M53 => ((0 ≤ (w32 (6 + (L.1 3 : Int))) ∧ (w32 (6 + (L.1 3 : Int))) < 12) ∧ (CD m11_oneMore 1 [(20, ((59 : Nat) : Int)), (0, 2)] (mset M53 66 ((w32 (6 + (L.1 3 : Int)))).toNat r52) (fun M57 => A m11_line 901 0 353 [(20, ((59 : Nat) : Int)), (2, 0), (2, 0), (2, 0)] [] M57 (Kd P)))))))))))) := by
    intro f pl M6 hf hF6 hB6 P'
    rw [e5, e6, Int.toNat_natCast, Int.toNat_natCast]
    have h619 : M6 61 9 = (L.2.2.2.length : Int) := by rw [hF6 61 9 (by unfold wrset; omega)]; exact r4
    have h617 : M6 61 7 = (L.1 3 : Int) := by rw [hF6 61 7 (by unfold wrset; omega)]; exact d63
    refine ⟨by omega, ?_⟩
    refine s_fresherW (w := 4) (v := (L.2.2.2.length : Int)) (by omega) (by rw [mset_k (by decide)]; exact h619) ?_
    refine ⟨by omega, ?_⟩
    have fx : Fp (fun k j => (k = 64 ∧ j = 5 + L.1 3) ∨ (k = 65 ∧ j = 6 + L.1 3)) M6 (mset (mset M6 64 (5 + L.1 3) 0) 65 (6 + L.1 3) (L.2.2.2.length : Int)) := (Fp.rf.set (Or.inl ⟨rfl, rfl⟩)).set (Or.inr ⟨rfl, rfl⟩)
    have hB7 := hB6.fp fx (by omega)
    refine f_expression hf hB7 ?_
    refine s_fresherW (w := 4) (v := (L.2.2.2.length : Int)) (by omega) (by rw [mset_k (by decide), mset_k (by decide)]; exact h619) ?_
    refine ⟨by omega, ?_⟩
    refine s_oneMoreW (w := 2) (v := L.1 3) (by omega) (by rw [mset_k (by decide), mset_k (by decide), mset_k (by decide)]; exact h617) (by omega) ?_
    have fy : Fp (fun k j => (k = 66 ∧ j = 6 + L.1 3) ∨ (k = 61 ∧ j = 7)) (mset (mset M6 64 (5 + L.1 3) 0) 65 (6 + L.1 3) (L.2.2.2.length : Int)) (mset (mset (mset (mset M6 64 (5 + L.1 3) 0) 65 (6 + L.1 3) (L.2.2.2.length : Int)) 66 (6 + L.1 3) (L.2.2.2.length : Int)) 61 (5 + 2) ((L.1 3 + 1 : Nat) : Int)) := (Fp.rf.set (Or.inl ⟨rfl, rfl⟩)).set (Or.inr ⟨rfl, rfl⟩)
    have hB8 := hB7.fp fy (by omega)
    exact f_353 (hB8.ne hf) (P' _ (((hF5.tr (hF6.mono (fun k j q => wr_lnR q))).tr (fx.mono (fun k j q => by unfold lnR; omega))).tr (fy.mono (fun k j q => by unfold lnR; omega))) hB8)
  apply s_fresh hWR (r := 64) (N := L.2.1 2) hK5 (Or.inr rfl) z3 (fun i hi => dq i hi)
  · intro s1 fn M6 hF6 hK6
    rw [if_neg (fun z => z s1), if_neg (fun z => z fn)] at hok hbad
    generalize tkE t n c1 = c2 at hok hbad hK6
    rw [e5, e6, Int.toNat_natCast, Int.toNat_natCast]
    refine ⟨by omega, ?_⟩
    refine s_fresherW (w := 4) (v := (L.2.2.2.length : Int)) (by omega) (by rw [mset_k (by decide), hF6 61 (5 + 4) (by unfold tkset; omega)]; exact r4) ?_
    refine ⟨by omega, ?_⟩
    have fx : Fp (fun k j => tkset k j ∨ (k = 64 ∧ j = 5 + L.1 3) ∨ (k = 65 ∧ j = 6 + L.1 3)) M5 (mset (mset M6 64 (5 + L.1 3) (tkV t n c1)) 65 (6 + L.1 3) (L.2.2.2.length : Int)) := (((hF6.mono (fun k j q => Or.inl q) : Fp (fun k j => tkset k j ∨ (k = 64 ∧ j = 5 + L.1 3) ∨ (k = 65 ∧ j = 6 + L.1 3)) M5 M6).set (Or.inr (Or.inl ⟨rfl, rfl⟩)))).set (Or.inr (Or.inr ⟨rfl, rfl⟩))
    have fz : Fp (fun k j => (k = 64 ∧ j = 5 + L.1 3) ∨ (k = 65 ∧ j = 6 + L.1 3)) M6 (mset (mset M6 64 (5 + L.1 3) (tkV t n c1)) 65 (6 + L.1 3) (L.2.2.2.length : Int)) := (Fp.rf.set (Or.inl ⟨rfl, rfl⟩)).set (Or.inr ⟨rfl, rfl⟩)
    obtain ⟨k1, k2, k3, k4⟩ := hK6
    have hK7 : K0 (mset (mset M6 64 (5 + L.1 3) (tkV t n c1)) 65 (6 + L.1 3) (L.2.2.2.length : Int)) t n c2 := ⟨k1.fp fz (fun k j q => by omega), k2.fp fz (fun j _ _ => by omega), by rw [fz 59 23 (by omega)]; exact k3, k4⟩
    have hF7 : Fp lnR M (mset (mset M6 64 (5 + L.1 3) (tkV t n c1)) 65 (6 + L.1 3) (L.2.2.2.length : Int)) := hF5.tr (fx.mono (fun k j q => by unfold tkset at q; unfold lnR; omega))
    have g64 : mset (mset M6 64 (5 + L.1 3) (tkV t n c1)) 65 (6 + L.1 3) (L.2.2.2.length : Int) 64 (5 + L.1 3) = tkV t n c1 := by rw [mset_k (by decide), mset_s]
    have g65 : mset (mset M6 64 (5 + L.1 3) (tkV t n c1)) 65 (6 + L.1 3) (L.2.2.2.length : Int) 65 (6 + L.1 3) = (L.2.2.2.length : Int) := mset_s
    generalize mset (mset M6 64 (5 + L.1 3) (tkV t n c1)) 65 (6 + L.1 3) (L.2.2.2.length : Int) = M7 at fx hK7 hF7 g64 g65
    have eD : ∀ k j, ¬ (tkset k j ∨ (k = 64 ∧ j = 5 + L.1 3) ∨ (k = 65 ∧ j = 6 + L.1 3)) → M7 k j = M5 k j := fun k j hq => fx k j hq
    have eR : ∀ k, k ≠ 59 → k ≠ 64 → k ≠ 65 → M7 k = M5 k := fun k q1 q2 q3 => fx.row (fun j => by unfold tkset; omega)
    refine s_forR hWR (f := L.1 3) (L := LSmk (udg L.1 3 (L.1 3 + 1)) (ud2 L.2.1 2 (L.1 3) (tkV t n c1)) L.2.2.1 L.2.2.2) (P := P) (by omega) hF7 hK7 ?_ ?_ ⟨z1, by show L.1 2 ≤ 24; omega, by show L.1 3 + 1 ≤ 5; omega, z7, by show L.1 8 < 2000; omega, zl⟩ g65 (fun y => by omega) ?_ hok hbad
    · have em : ∀ k j, ¬ (k = 61 ∧ j = 7) → mset M7 61 7 ((L.1 3 + 1 : Nat) : Int) k j = M7 k j := fun k j hn => by
        have f0 : Fp (fun k j => k = 61 ∧ j = 7) M7 (mset M7 61 7 ((L.1 3 + 1 : Nat) : Int)) := Fp.rf.set ⟨rfl, rfl⟩
        exact f0 k j hn
      have emr : ∀ k, k ≠ 61 → mset M7 61 7 ((L.1 3 + 1 : Nat) : Int) k = M7 k := fun k hk => funext fun j => mset_k hk
      show LRx (mset M7 61 7 ((L.1 3 + 1 : Nat) : Int)) _ _
      refine ⟨⟨?_, ?_, ?_, ?_, ?_⟩, ?_, ?_, ?_, mset_s, ?_, ?_, ?_, ?_, ?_, ?_⟩
      · rw [em 59 23 (by omega)]; exact hK7.2.2.1
      · rw [em 59 27 (by omega), eD 59 27 (by unfold tkset; omega)]; exact r2
      · rw [em 59 28 (by omega), eD 59 28 (by unfold tkset; omega)]; exact r3
      · rw [em 61 9 (by omega), eR 61 (by decide) (by decide) (by decide)]; exact r4
      · rw [emr 67 (by decide), emr 68 (by decide), eR 67 (by decide) (by decide) (by decide), eR 68 (by decide) (by decide) (by decide)]; exact r5
      · rw [em 59 17 (by omega), eD 59 17 (by unfold tkset; omega)]; exact d17
      · rw [em 61 5 (by omega), eR 61 (by decide) (by decide) (by decide)]; exact d61
      · rw [em 61 6 (by omega), eR 61 (by decide) (by decide) (by decide)]; exact d62
      · rw [em 61 8 (by omega), eR 61 (by decide) (by decide) (by decide)]; exact d64
      · rw [emr 62 (by decide), emr 63 (by decide), eR 62 (by decide) (by decide) (by decide), eR 63 (by decide) (by decide) (by decide)]
        intro i hi
        show _ = ud2 L.2.1 2 (L.1 3) (tkV t n c1) 0 i ∧ _ = ud2 L.2.1 2 (L.1 3) (tkV t n c1) 1 i
        rw [ud2_o (by omega), ud2_o (by omega)]
        exact dn i hi
      · rw [emr 64 (by decide)]
        intro i hi
        have hi : i < L.1 3 + 1 := hi
        show _ = ud2 L.2.1 2 (L.1 3) (tkV t n c1) 2 i
        by_cases z : i = L.1 3
        · subst z; rw [ud2_s]; exact g64
        · rw [ud2_o (by omega), eD 64 (5 + i) (by unfold tkset; omega)]; exact dq i (by omega)
      · rw [emr 65 (by decide), emr 66 (by decide), eR 66 (by decide) (by decide) (by decide)]
        intro i hi hne
        have hi : i < L.1 3 + 1 ∨ (i = 5 ∧ udg L.1 3 (L.1 3 + 1) 6 = 1) := hi
        rw [udg_o (show (6 : Nat) ≠ 3 by decide)] at hi
        show _ = ud2 L.2.1 2 (L.1 3) (tkV t n c1) 3 i ∧ _ = ud2 L.2.1 2 (L.1 3) (tkV t n c1) 4 i
        rw [ud2_o (by omega), ud2_o (by omega), eD 65 (6 + i) (by unfold tkset; omega)]
        exact df i (by omega) (by omega)
      · intro h0
        have h0 : udg L.1 3 (L.1 3 + 1) 6 = 0 := h0
        rw [udg_o (show (6 : Nat) ≠ 3 by decide)] at h0
        rw [emr 65 (by decide), emr 66 (by decide), eR 66 (by decide) (by decide) (by decide), eD 65 11 (by unfold tkset; omega)]
        exact dr h0
      · unfold FrT
        rw [emr 69 (by decide), emr 70 (by decide), emr 71 (by decide), emr 72 (by decide), emr 73 (by decide), eR 69 (by decide) (by decide) (by decide), eR 70 (by decide) (by decide) (by decide), eR 71 (by decide) (by decide) (by decide), eR 72 (by decide) (by decide) (by decide), eR 73 (by decide) (by decide) (by decide)]
        exact dF
    · exact hT5'.fp fx (by unfold tkset; omega)
    · intro M8 ro hF8 _ hgo
      have h617 : M8 61 7 = (L.1 3 : Int) := by rw [hF8 61 7 (by unfold exR tkset; omega), eR 61 (by decide) (by decide) (by decide)]; exact d63
      refine s_fresherW (w := 4) (v := M8 61 9) (by omega) rfl ?_
      refine ⟨by omega, ?_⟩
      refine s_oneMoreW (w := 2) (v := L.1 3) (by omega) (by rw [mset_k (by decide)]; exact h617) (by omega) ?_
      exact hgo _ rfl
  · intro s1 M6 hF6 hB6
    rw [if_pos s1] at hbad
    exact f1 1 _ M6 (by decide) hF6 hB6 (fun M' hF hB => hbad 1 _ rfl (by decide) M' hF hB)
  · intro s1 fn M6 hF6 hB6
    rw [if_neg (fun z => z s1), if_pos fn] at hbad
    exact f1 3 _ M6 (by decide) hF6 hB6 (fun M' hF hB => hbad 3 _ rfl (by decide) M' hF hB)
