/-! the reference: an E as a whole -/
theorem s_exprR (hWR : WordR) {t : Nat → Int} {n c kn : Nat} {out : List Int} {M : Mem} {P : Mem → Prop} (hT : TRm M t n) (hc : c ≤ n) (hK : KR M t n c) (hR : RY M 0 kn out) (hk : kn ≤ 64) (hlen : out.length = kn)
    (hok : ∀ z', EZ t n (z0E c kn out) = .inl z' → z'.1 ≤ n → z'.2.2.2.2.1 ≤ 64 → ∀ M', Fp exR M M' → KR M' t n z'.1 → RY M' 0 z'.2.2.2.2.1 (outE z') → P M')
    (hcmp : ∀ c' kn' ro M', EZ t n (z0E c kn out) = .inr (1, tkP t n c') → kz t n c' ≠ 10032 → Fp exR M M' → KR M' t n c' → RY M' 0 kn' ro → ro.length ≤ 64 → P M')
    (hbad : ∀ f pl M', EZ t n (z0E c kn out) = .inr (f, pl) → f ≠ 0 → Fp exR M M' → RB M' f pl → P M') : CD m11_expression 900 [(20, ((59 : Nat) : Int))] M P := by
  have hb := hT.2.2.2
  apply (Cn_all hWR (t := t) (n := n) 900).2.2.2.2.2 c kn 0 [] out M P hT hc hK hR hk (by omega) (by show bnd 0 < 1; decide) (fun h => by omega) (by show out.length + 0 = kn; omega) (by omega)
  · intro c' kn' out' D M' hc' hF' hT' hK' hR' hE' hD' hlen' hk' hkk' hnc'
    have hD1 : popd 1 (D ++ []) = D ∧ wrst 1 (D ++ []) = [] := by
      obtain ⟨p1, p2⟩ := popd_all (b := 1) D [] hD'
      exact ⟨by rw [p1]; exact List.append_nil D, p2⟩
    have hlen2 : out'.length + D.length + 0 = kn' := hlen'
    have hE' : EZ t n (z0E c kn out) = EZ t n (Zmk c' false (D ++ []) 0 kn' out') := hE'
    by_cases q : bnd (kz t n c') = 0 ∨ kz t n c' = 10012
    · have hs : stepZ t n (Zmk c' false (D ++ []) 0 kn' out') = .inl none := by
        show stepS t n c' (D ++ []) 0 kn' out' = _
        unfold stepS
        rw [if_neg (by omega), if_pos q, if_neg (by omega)]
      refine hok (Zmk c' false (D ++ []) 0 kn' out') (hE'.trans (EZ_end (z := Zmk c' false (D ++ []) 0 kn' out') hc' hs)) hc' hk' M' hF' hK' ?_
      have e : outE (Zmk c' false (D ++ []) 0 kn' out') = out' ++ D := by
        show out' ++ popd 1 (D ++ []) = _
        rw [hD1.1]
      rw [e]; exact hR'
    · have h4 : bnd (kz t n c') = 4 ∧ bnd (topW (wrst 5 D)) = 4 := by
        rcases hnc' with z | z | z | ⟨z1, z2, z3⟩
        · exact absurd (Or.inl z) q
        · exact absurd (Or.inr (bnd_3.mp z)) q
        · exact absurd (Or.inl (by omega)) q
        · exact ⟨z1, z3⟩
      have h4r := bnd_4.mp h4.1
      have hs : stepZ t n (Zmk c' false (D ++ []) 0 kn' out') = .inr 1 := by
        show stepS t n c' (D ++ []) 0 kn' out' = _
        unfold stepS
        rw [if_neg (by omega), if_neg q, if_pos h4.1, List.append_nil, if_pos h4.2]
      exact hcmp c' kn' (out' ++ D) M' (hE'.trans (EZ_bad (z := Zmk c' false (D ++ []) 0 kn' out') hc' hs)) (by omega) hF' hK' hR' (by rw [List.length_append]; omega)
  · intro f pl M' hF' hE' hf hB'
    exact hbad f pl M' hE' hf hF' hB'
/-! the class's Reader: small steps of a line -/
theorem KC_w {M : Mem} {t : Nat → Int} {n c : Nat} (h : KC M t n c) : (M 2 15 = 1 ↔ tkS t n c = 0 ∨ tkS t n c = 1) ∧ (tkS t n c = 1 → M 2 16 = tkV t n c ∧ wdx (nmN t (tkP t n c) (tkE t n c)) = -1) ∧ (tkS t n c = 0 → wdx (nmN t (tkP t n c) (tkE t n c)) = tkV t n c) ∧ (tkS t n c = 0 ∨ tkS t n c = 1 → M 2 16 = (nmN t (tkP t n c) (tkE t n c) : Int)) := by
  obtain ⟨h1, h2, h3, h4, h5, h6, h7, _⟩ := h
  have hv : (tkS t n c = 1 → tkV t n c = (nmN t (tkP t n c) (tkE t n c) : Int) ∧ wdx (nmN t (tkP t n c) (tkE t n c)) = -1) ∧ (tkS t n c = 0 → wdx (nmN t (tkP t n c) (tkE t n c)) = tkV t n c) ∧ tkS t n c ≤ 5 := by
    unfold tkS tkV
    split
    · exact ⟨fun q => by omega, fun q => by omega, by omega⟩
    · split
      · split
        · split
          · next q => exact ⟨fun _ => ⟨rfl, q⟩, fun z => by omega, by omega⟩
          · exact ⟨fun z => by omega, fun _ => rfl, by omega⟩
        · exact ⟨fun q => by omega, fun q => by omega, by omega⟩
      · split
        · exact ⟨fun q => by omega, fun q => by omega, by omega⟩
        · split
          · exact ⟨fun q => by omega, fun q => by omega, by omega⟩
          · exact ⟨fun q => by omega, fun q => by omega, by omega⟩
  obtain ⟨v1, v0, v5⟩ := hv
  refine ⟨⟨fun q => ?_, fun q => (h4 q).1⟩, fun q => ⟨by rw [(h4 (Or.inr q)).2.1, (v1 q).1], (v1 q).2⟩, v0, fun q => (h4 q).2.1⟩
  rcases (show tkS t n c = 0 ∨ tkS t n c = 1 ∨ tkS t n c = 2 ∨ tkS t n c = 3 ∨ tkS t n c = 4 ∨ tkS t n c = 5 by omega) with y | y | y | y | y | y
  · exact Or.inl y
  · exact Or.inr y
  · have := (h5 y).1; omega
  · have := (h6 y).1; omega
  · have := (h3 y).1; omega
  · have := (h7 y).1; omega
theorem s_isName {t : Nat → Int} {n c : Nat} {M : Mem} {P : Int → Mem → Prop} (hT : TCm M t n) (hK : KC M t n c) (h : P (bi (tkS t n c = 1)) M) : CI m7_isName 2 [(17, ((2 : Nat) : Int))] M P := by
  obtain ⟨w1, w2, w3, w4⟩ := KC_w hK
  apply q_7_isName
  refine ⟨fun q => ?_, fun q => ?_⟩
  · rwa [bi_f (fun z => q (w1.mpr (Or.inr z)))] at h
  · rw [w4 (w1.mp q)]
    apply s_languageWord hT
    refine ⟨fun q1 => ?_, fun q1 => ?_⟩
    · rwa [bi_f (fun z => q1 (w2 z).2)] at h
    · rwa [bi_t (by
        rcases w1.mp q with z | z
        · have := w3 z
          have := tkV_0 z
          omega
        · exact z)] at h
theorem s_isWordC {t : Nat → Int} {n c : Nat} {w : Int} {M : Mem} {P : Int → Mem → Prop} (hT : TCm M t n) (hK : KC M t n c) (hw : 0 ≤ w) (h : P (bi (tkS t n c = 0 ∧ tkV t n c = w)) M) : CI m7_isWord 2 [(17, ((2 : Nat) : Int)), (0, w)] M P := by
  obtain ⟨w1, w2, w3, w4⟩ := KC_w hK
  apply q_7_isWord
  refine ⟨fun q => ?_, fun q => ?_⟩
  · rwa [bi_f (fun z => q (w1.mpr (Or.inl z.1)))] at h
  · rw [w4 (w1.mp q)]
    apply s_languageWord hT
    refine ⟨fun q1 => ?_, fun q1 => ?_⟩
    · rwa [bi_f (fun z => q1 (by rw [w3 z.1]; exact z.2))] at h
    · rwa [bi_t (by
        rcases w1.mp q with z | z
        · exact ⟨z, by rw [← w3 z]; exact q1⟩
        · have := (w2 z).2; omega)] at h
def flset (k j : Nat) : Prop := k = 2 ∧ (j = 3 ∨ j = 4)
theorem s_failC {k c : Nat} {t : Nat → Int} {n : Nat} {M : Mem} {P : Int → Mem → Prop} (hK : KC M t n c) (h : ∀ M', Fp flset M M' → M' 2 3 = (k : Int) → M' 2 4 = (tkP t n c : Int) → P 0 M') : CI m7_fail 1 [(17, ((2 : Nat) : Int)), (0, (k : Int))] M P := by
  apply q_7_fail
  have f0 : Fp flset M M := Fp.rf
  refine h _ ((f0.set ⟨rfl, Or.inl rfl⟩).set ⟨rfl, Or.inr rfl⟩) ?_ ?_
  · rw [mset_j (by decide), mset_s]
  · rw [mset_s, mset_j (by decide)]; exact hK.2.1
/-- a number up to so much; its fault, if it isn't one -/
def numF (t : Nat → Int) (n c : Nat) (most : Int) : Nat := if tkS t n c ≠ 2 then 1 else if most < tkV t n c then 2 else 0
theorem s_readNumber {t : Nat → Int} {n c : Nat} {most : Int} {M : Mem} {P : Int → Mem → Prop} (hT : TCm M t n) (hc : c ≤ n) (hK : KC M t n c) (hm : 0 ≤ most ∧ most ≤ 9999)
    (hy : numF t n c most = 0 → (0 ≤ tkV t n c ∧ tkV t n c ≤ most) → ∀ M', Fp rdset M M' → KC M' t n (tkE t n c) → P (tkV t n c) M') (hn : numF t n c most ≠ 0 → ∀ M', Fp flset M M' → M' 2 3 = (numF t n c most : Int) → M' 2 4 = (tkP t n c : Int) → P (-1) M') : CI m7_readNumber 4 [(17, ((2 : Nat) : Int)), (0, most)] M P := by
  obtain ⟨k1, k2, k3, k4⟩ := KC_k hK
  have hb := hT.2.2.2.1
  unfold numF at hy hn
  apply q_7_readNumber
  by_cases s2 : tkS t n c = 2
  · obtain ⟨⟨n1, n2, n3, n4, n5⟩, hv0⟩ := k4 s2
    rw [if_neg (fun z => z s2)] at hy hn
    refine ⟨fun _ => ⟨fun q => ?_, fun q => ?_⟩, fun q => absurd (k2 s2) q⟩
    · have := n4 (by omega)
      have ev : M 2 16 = tkV t n c := by omega
      rw [if_neg (by omega)] at hy
      rw [ev]
      apply s_next (c := tkE t n c) hT (tkE_p hb hc).2.1 hK.1 hK.p
      intro M1 hF1 hK1
      exact hy rfl (by omega) M1 hF1 hK1
    · have hgt : most < tkV t n c := by
        rcases Int.lt_or_le 9999 (M 2 16) with y | y
        · have := n5 y; omega
        · have := n4 y; omega
      rw [if_pos hgt] at hn
      exact s_failC (k := 2) hK (fun M' hF h3 h4 => hn (by decide) M' hF h3 h4)
  · rw [if_pos s2] at hn
    exact ⟨fun q => absurd q (k3 s2), fun _ => s_failC (k := 1) hK (fun M' hF h3 h4 => hn (by decide) M' hF h3 h4)⟩
