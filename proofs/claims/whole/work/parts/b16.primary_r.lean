/-! the reference: the innermost level, and an E as a whole -/
theorem wrong_none {f pl : Nat} {M : Mem} {P : Mem → Prop} (hB : RB M f pl) (hf : f ≠ 0) (hp : P M) {y : Int} : CD m11_knot 3 [(20, ((59 : Nat) : Int))] M (fun M20 => (CD m11_puts 2 [(20, ((59 : Nat) : Int)), (0, y), (0, (w32 ((M20 59 22) - 10)))] M20 (fun M23 => (CD m11_goOn 4 [(20, ((59 : Nat) : Int))] M23 (fun M26 => (P M26)))))) := by
  have h0 : M 59 23 ≠ 0 := by rw [hB.1]; omega
  exact f_knot h0 (f_puts h0 (f_goOn h0 hp))
theorem wrong_none2 {f pl : Nat} {M : Mem} {P : Mem → Prop} (hB : RB M f pl) (hf : f ≠ 0) (hp : P M) {y : Int} : CD m11_knot 3 [(20, ((59 : Nat) : Int))] M (fun M20 => (CD m11_puts 2 [(20, ((59 : Nat) : Int)), (0, y), (0, (M20 59 22))] M20 (fun M23 => (CD m11_goOn 4 [(20, ((59 : Nat) : Int))] M23 (fun M26 => (P M26)))))) := by
  have h0 : M 59 23 ≠ 0 := by rw [hB.1]; omega
  exact f_knot h0 (f_puts h0 (f_goOn h0 hp))
theorem Cn_primary (hWR : WordR) {t : Nat → Int} {n d : Nat} (hC : Cn t n m11_expression 1 1 17 d) : Cn t n m11_primary 7 7 12 (d + 1) := by
  intro c kn op W out M P hT hc hK hR hk hop hW hnot hlen hd hok hbad
  have hb := hT.2.2.2
  have e40 : ksg 40 = 10030 := by decide
  have e41 : ksg 41 = 10031 := by decide
  have h700 := hT.2.1
  have ok7 : ∀ x ∈ ([] : List Int), 7 ≤ bnd x := fun x hx => by cases hx
  have nc7 : ∀ c', nc 7 t n c' [] := fun c' => by
    refine Or.inr (Or.inr (Or.inl ?_))
    rcases kz_in t n c' with z | z | z | z | z | z
    · rw [z]; decide
    · have : bnd (kz t n c') = 0 := by
        rcases Nat.eq_zero_or_pos (bnd (kz t n c')) with y | y
        · exact y
        · have := bnd_op y; omega
      omega
    · unfold bnd
      repeat' split
      all_goals omega
    · rw [z]; decide
    · rw [z]; decide
    · rw [z]; decide
  -- a leaf
  have leaf : ∀ x i v : Int, stepZ t n (Zmk c true W op kn out) = leafZ (tkE t n c) W op kn out x → tkP t n c < n → enc i v = x → kval i v → ∀ (y : Mem → Int), (∀ M1, KR M1 t n c → y M1 = v) → CD m11_knot 3 [(20, ((59 : Nat) : Int))] M (fun M32 => (CD m11_puts 2 [(20, ((59 : Nat) : Int)), (0, i), (0, y M32)] M32 (fun M35 => (CD m11_goOn 4 [(20, ((59 : Nat) : Int))] M35 (fun M38 => (P M38)))))) := by
    intro x i v hs hlt0 he hv y hy
    unfold leafZ at hs
    have he1 := tkE_p hb hc
    apply s_knotR hR hK hk
    · intro hlt M1 hF1 hK1 hR1
      rw [if_neg (by omega)] at hs
      rw [hy M1 hK1]
      apply s_putsR hR1 hK1 (by omega) he hv
      intro M2 hF2 hK2 hR2
      apply s_goOnR hWR (exR_T hT (hF1.tr hF2)) hR2 hK2 rfl he1.2.1
      intro M3 hF3 hK3 hR3
      have hFx := (hF1.tr hF2).tr hF3
      exact hok (tkE t n c) (kn + 1) (out ++ [x]) [] M3 he1.2.1 hFx (exR_T hT hFx) hK3 (by rw [List.append_nil]; exact hR3) (EZ_go hb hc hs) ok7 (by rw [List.length_append]; show out.length + 1 + 0 + nO W = kn + 1; omega) (by omega) (by omega) (nc7 _)
    · intro hge M1 hF1 hB1
      rw [if_pos hge] at hs
      have h0 : M1 59 23 ≠ 0 := by rw [hB1.1]; decide
      exact f_puts h0 (f_goOn h0 (hbad 2 _ M1 hF1 (EZ_bad hc hs) (by decide) hB1))
  have hlt_of : tkS t n c ≠ 4 → tkP t n c < n := fun q => by
    rcases Nat.lt_or_ge (tkP t n c) n with y | y
    · exact y
    · exact absurd (if_pos y) q
  have hstep : stepZ t n (Zmk c true W op kn out) = stepO t n c W op kn out := rfl
  apply q_11_primary (by omega)
  refine ⟨fun _ => ?_, fun q => absurd hR.1 q⟩
  apply s_isSign hR.1 hK (by omega)
  rw [e40]
  refine ⟨fun q => ?_, fun q => ?_⟩
  · have hn40 := bi_eq q
    -- neither '(' nor a number nor a name
    have bad1 : tkS t n c ≠ 2 → ¬ (10000 ≤ kz t n c ∧ kz t n c < 10008) → ∀ Q : Mem → Prop, (∀ M', Fp exR M M' → RB M' 1 (tkP t n c) → P M' → Q M') → CD m11_wrong 2 [(20, ((59 : Nat) : Int)), (0, 1)] M Q := by
      intro h2 hnm Q hQ
      have hs : stepO t n c W op kn out = .inr 1 := by
        unfold stepO
        rw [if_neg h2, if_neg hnm, if_neg hn40, if_neg (fun z => by have := hnot (by omega) z.1; omega)]
      exact s_wrongR (f := 1) hR.1 hK.2.1 (fun M' hF hB => hQ M' hF hB (hbad 1 _ M' hF (EZ_bad hc (hstep.trans hs)) (by decide) hB))
    refine ⟨fun q1 => ⟨fun q2 => ?_, fun q2 => ⟨fun q3 => ?_, fun q3 => ?_⟩⟩, fun q1 => ⟨fun q2 => ?_, fun q2 => ?_⟩⟩
    · have s2 : tkS t n c ≠ 2 := fun z => q1 (by rw [hK.2.2.1, z]; rfl)
      have s0 : tkS t n c ≠ 0 := fun z => q2 (by rw [hK.2.2.1, z]; rfl)
      have hnm : ¬ (10000 ≤ kz t n c ∧ kz t n c < 10008) := fun z => by
        by_cases s3 : tkS t n c = 3
        · have := kz_3 s3
          rcases tk3 s3 with y | y | y | y | y | y | y | y | y | y | y | y | y <;> rw [y] at this <;> rw [this] at z <;> revert z <;> decide
        · have := kz_e s0 s3; omega
      exact bad1 s2 hnm _ (fun M' _ hB hp => wrong_none hB (by decide) hp)
    · have s0 : tkS t n c = 0 := by have := hK.2.2.1; omega
      have ev : M 59 22 = tkV t n c := hK.2.2.2.1 (Or.inl s0)
      rw [ev] at q3
      have hv := tkV_0 s0
      have hkz : kz t n c = 10000 + (tkV t n c - 10) := by
        rw [kz_0 s0]
        unfold kwd
        rw [if_neg (by omega), if_neg (by omega), if_neg (by omega), if_neg (by omega)]
        omega
      have hs : stepO t n c W op kn out = leafZ (tkE t n c) W op kn out (kz t n c) := by
        unfold stepO
        rw [if_neg (by omega), if_pos (by omega)]
      refine leaf (kz t n c) 1 (tkV t n c - 10) (hstep.trans hs) (hlt_of (by omega)) ?_ (Or.inr (Or.inl ⟨rfl, by omega, by omega⟩)) (fun M1 => w32 (M1 59 22 - 10)) (fun M1 hK1 => ?_)
      · unfold enc
        rw [if_neg (by decide), if_pos rfl]; omega
      · rw [hK1.2.2.2.1 (Or.inl s0), w32_id (by omega) (by omega)]
    · have s0 : tkS t n c = 0 := by have := hK.2.2.1; omega
      have ev : M 59 22 = tkV t n c := hK.2.2.2.1 (Or.inl s0)
      rw [ev] at q3
      have hnm : ¬ (10000 ≤ kz t n c ∧ kz t n c < 10008) := fun z => by
        rw [kz_0 s0] at z
        have := kwd_rng (tkV t n c)
        omega
      exact bad1 (by omega) hnm _ (fun M' _ hB hp => wrong_none hB (by decide) hp)
    · have s2 : tkS t n c = 2 := by have := hK.2.2.1; omega
      obtain ⟨n1, n2, n3, n4, n5⟩ := hK.2.2.2.2.1 s2
      have hv0 : 0 ≤ tkV t n c := by
        unfold tkS at s2
        unfold tkV
        split at s2
        · omega
        · next y1 =>
          rw [if_neg y1]
          split at s2
          · split at s2
            · split at s2 <;> omega
            · omega
          · next y2 =>
            rw [if_neg y2]
            split at s2
            · next y3 => rw [if_pos y3]; omega
            · split at s2 <;> omega
      have ev : M 59 22 = tkV t n c := by have := n4 q2; omega
      have hs : stepO t n c W op kn out = leafZ (tkE t n c) W op kn out (tkV t n c) := by
        unfold stepO
        rw [if_pos s2, if_neg (by omega)]
      refine leaf (tkV t n c) 0 (tkV t n c) (hstep.trans hs) (hlt_of (by omega)) ?_ (Or.inl ⟨rfl, by omega, by omega⟩) (fun M1 => M1 59 22) (fun M1 hK1 => ?_)
      · unfold enc; rw [if_pos rfl]
      · obtain ⟨m1, m2, m3, m4, m5⟩ := hK1.2.2.2.2.1 s2
        show M1 59 22 = tkV t n c
        rcases Int.lt_or_le 9999 (M1 59 22) with y | y
        · have := m5 y; omega
        · have := m4 y; omega
    · have s2 : tkS t n c = 2 := by have := hK.2.2.1; omega
      obtain ⟨n1, n2, n3, n4, n5⟩ := hK.2.2.2.2.1 s2
      have := n5 q2
      have hs : stepO t n c W op kn out = .inr 2 := by
        unfold stepO
        rw [if_pos s2, if_pos (by omega)]
      exact s_wrongR (f := 2) hR.1 hK.2.1 (fun M' hF hB => wrong_none2 hB (by decide) (hbad 2 _ M' hF (EZ_bad hc (hstep.trans hs)) (by decide) hB))
  · have h40 := bi_ne q
    have s2 : tkS t n c ≠ 2 := fun z => by have := kz_e (t := t) (n := n) (c := c) (by omega) (by omega); omega
    obtain ⟨he1, he2⟩ := op_end hb hc (show kz t n c ≠ -1 by omega)
    rw [hR.2.1]
    refine ⟨fun q1 => ⟨fun _ => ?_, fun q2 => absurd hR.1 q2⟩, fun q1 => ?_⟩
    · have hs : stepO t n c W op kn out = .inl (some (Zmk (tkE t n c) true (10030 :: W) (op + 1) kn out)) := by
        unfold stepO
        rw [if_neg s2, if_neg (by omega), if_pos h40, if_neg (by omega)]
      have hgo := EZ_go hb (z := Zmk c true W op kn out) hc (hstep.trans hs)
      have hno : nO ((10030 : Int) :: W) = nO W := by show nO W + (if (10030 : Int) = 10030 then 0 else 1) = _; rw [if_pos rfl]; rfl
      rw [w_1 (i := op) (by omega)]
      have f0 : Fp exR M M := Fp.rf
      have f1 : Fp exR M (mset M 59 27 ((op + 1 : Nat) : Int)) := f0.set (Or.inr (Or.inl ⟨rfl, Or.inr (Or.inr (Or.inl rfl))⟩))
      have hK1 : KR (mset M 59 27 ((op + 1 : Nat) : Int)) t n c := hK.fp (q := fun k j => k = 59 ∧ j = 27) (Fp.rf.set ⟨rfl, rfl⟩) (fun j _ _ => by omega)
      have hR1 : RY (mset M 59 27 ((op + 1 : Nat) : Int)) (op + 1) kn out := by
        obtain ⟨r1, r2, r3, r4, r5⟩ := hR
        refine ⟨by rw [mset_j (by decide)]; exact r1, mset_s, by rw [mset_j (by decide)]; exact r3, by rw [mset_k (by decide)]; exact r4, fun i hi => ?_⟩
        rw [mset_k (by decide), mset_k (by decide)]; exact r5 i hi
      apply s_token hWR (exR_T hT f1) he1 hK1.1 hK1.p
      intro M2 hF2 hK2
      have hF2' := f1.tr (hF2.mono (fun k j q => Or.inl q) : Fp exR _ M2)
      have hR2 := hR1.fp hF2 (fun k j q => q)
      apply hC (tkE t n c) kn (op + 1) (10030 :: W) out M2 _ (exR_T hT hF2') he1 hK2 hR2 hk (by omega) (by show bnd 10030 < 1; decide) (fun h => by omega) (by rw [hno]; omega) (by omega)
      · intro c3 kn3 out3 D3 M3 hc3 hF3 hT3 hK3 hR3 hE3 hD3 hlen3 hkn3 hkk3 hnc3
        rw [hno] at hlen3
        refine ⟨fun z => absurd hR3.1 z, fun _ => ?_⟩
        have hF3' := hF2'.tr hF3
        have pa := popd_all (b := 1) D3 ((10030 : Int) :: W) hD3
        have pn := popd_n (b := 1) (x := (10030 : Int)) (W := W) (by decide)
        rw [pn.1, List.append_nil, pn.2] at pa
        apply s_isSign hR3.1 hK3 (by omega)
        rw [e41]
        refine ⟨fun q3 => ⟨fun _ => ?_, fun z => absurd hR3.1 z⟩, fun q3 => ?_⟩
        · have h41 := bi_ne q3
          have hs3 : stepZ t n (Zmk c3 false (D3 ++ 10030 :: W) (op + 1) kn3 out3) = .inl (some (Zmk (tkE t n c3) false W op kn3 (out3 ++ D3))) := by
            show stepS t n c3 (D3 ++ 10030 :: W) (op + 1) kn3 out3 = _
            unfold stepS
            rw [if_pos ⟨h41, by omega⟩, pa.1, pa.2]
            rfl
          have hgo3 := EZ_go hb (z := Zmk c3 false (D3 ++ 10030 :: W) (op + 1) kn3 out3) hc3 hs3
          obtain ⟨he3, he4⟩ := op_end hb hc3 (show kz t n c3 ≠ -1 by omega)
          rw [hR3.2.1]
          have e1 : w32 (((op + 1 : Nat) : Int) - 1) = (op : Int) := by rw [w32_id (by omega) (by omega)]; omega
          rw [e1]
          have f0' : Fp exR M3 M3 := Fp.rf
          have f3 : Fp exR M3 (mset M3 59 27 (op : Int)) := f0'.set (Or.inr (Or.inl ⟨rfl, Or.inr (Or.inr (Or.inl rfl))⟩))
          have hK4 : KR (mset M3 59 27 (op : Int)) t n c3 := hK3.fp (q := fun k j => k = 59 ∧ j = 27) (Fp.rf.set ⟨rfl, rfl⟩) (fun j _ _ => by omega)
          have hR4 : RY (mset M3 59 27 (op : Int)) op kn3 (out3 ++ D3) := by
            obtain ⟨r1, r2, r3, r4, r5⟩ := hR3
            refine ⟨by rw [mset_j (by decide)]; exact r1, mset_s, by rw [mset_j (by decide)]; exact r3, by rw [mset_k (by decide)]; exact r4, fun i hi => ?_⟩
            rw [mset_k (by decide), mset_k (by decide)]; exact r5 i hi
          apply s_token hWR (exR_T hT3 f3) he3 hK4.1 hK4.p
          intro M5 hF5 hK5
          have hFx := hF3'.tr (f3.tr (hF5.mono (fun k j q => Or.inl q) : Fp exR _ M5))
          exact hok (tkE t n c3) kn3 (out3 ++ D3) [] M5 he3 hFx (exR_T hT hFx) hK5 (by rw [List.append_nil]; exact hR4.fp hF5 (fun k j q => q)) (hgo.trans (hE3.trans hgo3)) ok7 (by rw [List.length_append]; show out3.length + D3.length + 0 + nO W = kn3; omega) hkn3 hkk3 (nc7 _)
        · have h41 := bi_eq q3
          have hs3 : stepZ t n (Zmk c3 false (D3 ++ 10030 :: W) (op + 1) kn3 out3) = .inr 1 := by
            show stepS t n c3 (D3 ++ 10030 :: W) (op + 1) kn3 out3 = _
            unfold stepS
            rw [if_neg (fun z => h41 z.1)]
            rcases hnc3 with z | z | z | ⟨z1, z2, z3⟩
            · rw [if_pos (Or.inl z), if_pos (by omega)]
            · rw [if_pos (Or.inr (bnd_3.mp z)), if_pos (by omega)]
            · rw [if_pos (Or.inl (by omega)), if_pos (by omega)]
            · rw [if_neg (fun y => by rcases y with y | y; omega; rw [y] at z1; revert z1; decide), if_pos z1, if_pos (wr5_app z3)]
          refine s_wrongR (f := 1) hR3.1 hK3.2.1 (fun M5 hF5 hB5 => ⟨fun z => ?_, fun _ => ?_⟩)
          · rw [hB5.1] at z; cases z
          · exact hbad 1 _ M5 (hF3'.tr hF5) (hgo.trans (hE3.trans (EZ_bad hc3 hs3))) (by decide) hB5
      · intro f pl M3 hF3 hE3 hf hB3
        have h0 : M3 59 23 ≠ 0 := by rw [hB3.1]; omega
        exact ⟨fun _ => ⟨fun z => absurd z h0, fun _ => hbad f pl M3 (hF2'.tr hF3) (hgo.trans hE3) hf hB3⟩, fun z => absurd z h0⟩
    · have hs : stepO t n c W op kn out = .inr 2 := by
        unfold stepO
        rw [if_neg s2, if_neg (by omega), if_pos h40, if_pos (by omega)]
      refine s_wrongR (f := 2) hR.1 hK.2.1 (fun M5 hF5 hB5 => ⟨fun z => ?_, fun _ => ?_⟩)
      · rw [hB5.1] at z; cases z
      · exact hbad 2 _ M5 hF5 (EZ_bad hc (hstep.trans hs)) (by decide) hB5
theorem Cn_all (hWR : WordR) {t : Nat → Int} {n : Nat} : ∀ d, Cn t n m11_primary 7 7 12 d ∧ Cn t n m11_product 6 6 13 d ∧ Cn t n m11_sum 5 5 14 d ∧ Cn t n m11_negation 3 4 15 d ∧ Cn t n m11_conjunction 2 2 16 d ∧ Cn t n m11_expression 1 1 17 d
  | 0 => by
    refine ⟨?_, ?_, ?_, ?_, ?_, ?_⟩ <;> · intro c kn op W out M P _ _ _ _ _ _ _ _ _ hd
                                          omega
  | d + 1 => by
    obtain ⟨h1, h2, h3, h4, h5, h6⟩ := Cn_all hWR (t := t) (n := n) d
    exact ⟨Cn_primary hWR h6, Cn_product hWR h1, Cn_sum hWR h2, Cn_negation hWR h4 h3, Cn_conjunction hWR h4, Cn_expression hWR h5⟩
