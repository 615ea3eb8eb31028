/-! the reference: the other levels -/
theorem Cn_sum (hWR : WordR) {t : Nat → Int} {n d : Nat} (hC : Cn t n m11_product 6 6 13 d) : Cn t n m11_sum 5 5 14 (d + 1) := by
  intro c kn op W out M P hT hc hK hR hk hop hW hnot hlen hd hok hbad
  apply q_11_sum (by omega)
  have e43 : ksg 43 = 10019 := by decide
  have e45 : ksg 45 = 10020 := by decide
  have fin := loop_all hWR hC (op := op) (b := 5) (W := W) (M0 := M) (z0 := EZ t n (Zmk c true W op kn out)) (kn0 := kn) (P := P) (G := fun M => A m11_sum (d + 1) 0 4 [(20, ((59 : Nat) : Int)), (2, 0)] [] M (Kd P)) rfl (by omega) (by omega) (by omega) (by omega) (by omega) hop hW (by omega) (fun M2 Q h0 hq => by
      obtain ⟨e, rfl⟩ : ∃ e, d = e + 1 := ⟨d - 1, by omega⟩
      exact f_product (by omega) h0 hq) (fun M1 c1 hK1 h01 => by
      refine ⟨fun hb go => ?_, fun hb hp => ?_⟩
      · have h6 := bnd_5.mp hb
        obtain ⟨g1, g2, g3, g4⟩ := sg_val hK1 (by omega)
        apply r_11_sum_4 (by omega)
        apply s_isSign h01 hK1 (by omega)
        rw [e43]
        refine ⟨fun _ => by rw [g2]; exact go 2 _ g3 g4, fun q => ?_⟩
        apply s_isSign h01 hK1 (by omega)
        rw [e45]
        have := bi_eq q
        exact ⟨fun q2 => absurd (by omega) (bi_eq q2), fun _ => by rw [g2]; exact go 2 _ g3 g4⟩
      · have h6 : ¬ (kz t n c1 = 10019 ∨ kz t n c1 = 10020) := fun z => hb (bnd_5.mpr z)
        apply r_11_sum_4 (by omega)
        apply s_isSign h01 hK1 (by omega)
        rw [e43]
        refine ⟨fun q => absurd (Or.inl (bi_ne q)) h6, fun _ => ?_⟩
        apply s_isSign h01 hK1 (by omega)
        rw [e45]
        exact ⟨fun _ => hp, fun q => absurd (Or.inr (bi_ne q)) h6⟩) (fun M1 h0 hp => by
      apply r_11_sum_4 (by omega)
      exact f_isSign h0 ⟨fun q => absurd rfl q, fun _ => f_isSign h0 ⟨fun _ => hp, fun q => absurd rfl q⟩⟩) (fun c' kn' out' D M' a1 a2 a3 a4 a5 a6 a7 a8 a9 a10 a11 => hok c' kn' out' D M' a1 a2 a3 a4 a5 a6 a7 a8 a9 a10 a11) hbad
  apply hC c kn op W out M _ hT hc hK hR hk hop (by omega) (fun _ => hnot (by omega)) hlen (by omega)
  · intro c' kn' out' D M' a1 a2 a3 a4 a5 a6 a7 a8 a9 a10 a11
    exact fin 64 c' kn' out' D M' (by omega) a1 a2 a3 a4 a5 a6 (fun x hx => by have := a7 x hx; omega) a8 a9 a10 a11
  · intro f pl M' hF hE hf hB
    have h0 : M' 59 23 ≠ 0 := by rw [hB.1]; omega
    apply r_11_sum_4 (by omega)
    have hp := hbad f pl M' hF hE hf hB
    exact f_isSign h0 ⟨fun q => absurd rfl q, fun _ => f_isSign h0 ⟨fun _ => hp, fun q => absurd rfl q⟩⟩
theorem Cn_conjunction (hWR : WordR) {t : Nat → Int} {n d : Nat} (hC : Cn t n m11_negation 3 4 15 d) : Cn t n m11_conjunction 2 2 16 (d + 1) := by
  intro c kn op W out M P hT hc hK hR hk hop hW hnot hlen hd hok hbad
  apply q_11_conjunction (by omega)
  have e8 : kwd 8 = 10011 := by decide
  have e61 : enc 2 261 = 10011 := by decide
  have v61 : kval 2 261 := Or.inr (Or.inr ⟨rfl, by unfold isSg; omega⟩)
  have fin := loop_all hWR hC (op := op) (b := 2) (W := W) (M0 := M) (z0 := EZ t n (Zmk c true W op kn out)) (kn0 := kn) (P := P) (G := fun M => A m11_conjunction (d + 1) 0 4 [(20, ((59 : Nat) : Int))] [] M (Kd P)) rfl (by omega) (by omega) (by omega) (by omega) (by omega) hop hW (by omega) (fun M2 Q h0 hq => by
      obtain ⟨e, rfl⟩ : ∃ e, d = e + 1 := ⟨d - 1, by omega⟩
      exact f_negation (by omega) h0 hq) (fun M1 c1 hK1 h01 => by
      refine ⟨fun hb go => ?_, fun hb hp => ?_⟩
      · have h6 := bnd_2.mp hb
        apply r_11_conjunction_4 (by omega)
        apply s_isWord h01 hK1 (by omega)
        rw [e8]
        exact ⟨fun q => absurd h6 (bi_eq q), fun _ => go 2 261 (e61.trans h6.symm) v61⟩
      · have h6 : ¬ (kz t n c1 = 10011) := fun z => hb (bnd_2.mpr z)
        apply r_11_conjunction_4 (by omega)
        apply s_isWord h01 hK1 (by omega)
        rw [e8]
        exact ⟨fun _ => hp, fun q => absurd (bi_ne q) h6⟩) (fun M1 h0 hp => by
      apply r_11_conjunction_4 (by omega)
      exact f_isWord h0 ⟨fun _ => hp, fun q => absurd rfl q⟩) (fun c' kn' out' D M' a1 a2 a3 a4 a5 a6 a7 a8 a9 a10 a11 => hok c' kn' out' D M' a1 a2 a3 a4 a5 a6 a7 a8 a9 a10 a11) hbad
  apply hC c kn op W out M _ hT hc hK hR hk hop (by omega) (fun h => by omega) hlen (by omega)
  · intro c' kn' out' D M' a1 a2 a3 a4 a5 a6 a7 a8 a9 a10 a11
    exact fin 64 c' kn' out' D M' (by omega) a1 a2 a3 a4 a5 a6 (fun x hx => by have := a7 x hx; omega) a8 a9 a10 a11
  · intro f pl M' hF hE hf hB
    have h0 : M' 59 23 ≠ 0 := by rw [hB.1]; omega
    apply r_11_conjunction_4 (by omega)
    have hp := hbad f pl M' hF hE hf hB
    exact f_isWord h0 ⟨fun _ => hp, fun q => absurd rfl q⟩
theorem Cn_expression (hWR : WordR) {t : Nat → Int} {n d : Nat} (hC : Cn t n m11_conjunction 2 2 16 d) : Cn t n m11_expression 1 1 17 (d + 1) := by
  intro c kn op W out M P hT hc hK hR hk hop hW hnot hlen hd hok hbad
  apply q_11_expression (by omega)
  have e8 : kwd 7 = 10010 := by decide
  have e61 : enc 2 262 = 10010 := by decide
  have v61 : kval 2 262 := Or.inr (Or.inr ⟨rfl, by unfold isSg; omega⟩)
  have fin := loop_all hWR hC (op := op) (b := 1) (W := W) (M0 := M) (z0 := EZ t n (Zmk c true W op kn out)) (kn0 := kn) (P := P) (G := fun M => A m11_expression (d + 1) 0 4 [(20, ((59 : Nat) : Int))] [] M (Kd P)) rfl (by omega) (by omega) (by omega) (by omega) (by omega) hop hW (by omega) (fun M2 Q h0 hq => by
      obtain ⟨e, rfl⟩ : ∃ e, d = e + 1 := ⟨d - 1, by omega⟩
      exact f_conjunction (by omega) h0 hq) (fun M1 c1 hK1 h01 => by
      refine ⟨fun hb go => ?_, fun hb hp => ?_⟩
      · have h6 := bnd_1.mp hb
        apply r_11_expression_4 (by omega)
        apply s_isWord h01 hK1 (by omega)
        rw [e8]
        exact ⟨fun q => absurd h6 (bi_eq q), fun _ => go 2 262 (e61.trans h6.symm) v61⟩
      · have h6 : ¬ (kz t n c1 = 10010) := fun z => hb (bnd_1.mpr z)
        apply r_11_expression_4 (by omega)
        apply s_isWord h01 hK1 (by omega)
        rw [e8]
        exact ⟨fun _ => hp, fun q => absurd (bi_ne q) h6⟩) (fun M1 h0 hp => by
      apply r_11_expression_4 (by omega)
      exact f_isWord h0 ⟨fun _ => hp, fun q => absurd rfl q⟩) (fun c' kn' out' D M' a1 a2 a3 a4 a5 a6 a7 a8 a9 a10 a11 => hok c' kn' out' D M' a1 a2 a3 a4 a5 a6 a7 a8 a9 a10 a11) hbad
  apply hC c kn op W out M _ hT hc hK hR hk hop (by omega) (fun h => by omega) hlen (by omega)
  · intro c' kn' out' D M' a1 a2 a3 a4 a5 a6 a7 a8 a9 a10 a11
    exact fin 64 c' kn' out' D M' (by omega) a1 a2 a3 a4 a5 a6 (fun x hx => by have := a7 x hx; omega) a8 a9 a10 a11
  · intro f pl M' hF hE hf hB
    have h0 : M' 59 23 ≠ 0 := by rw [hB.1]; omega
    apply r_11_expression_4 (by omega)
    have hp := hbad f pl M' hF hE hf hB
    exact f_isWord h0 ⟨fun _ => hp, fun q => absurd rfl q⟩
theorem Cn_negation (hWR : WordR) {t : Nat → Int} {n d : Nat} (hN : Cn t n m11_negation 3 4 15 d) (hC : Cn t n m11_sum 5 5 14 d) : Cn t n m11_negation 3 4 15 (d + 1) := by
  intro c kn op W out M P hT hc hK hR hk hop hW hnot hlen hd hok hbad
  have hb := hT.2.2.2
  have e9 : kwd 9 = 10012 := by decide
  have e60 : enc 2 260 = 10012 := by decide
  have v60 : kval 2 260 := Or.inr (Or.inr ⟨rfl, by unfold isSg; omega⟩)
  have dep : ∃ e, d = e + 1 := ⟨d - 1, by omega⟩
  apply q_11_negation (by omega)
  apply s_isWord hR.1 hK (by omega)
  rw [e9]
  refine ⟨fun q => ?_, fun q => ?_⟩
  · have hkn := bi_eq q
    apply hC c kn op W out M _ hT hc hK hR hk hop (by omega) (fun _ z => absurd z hkn) hlen (by omega)
    · intro c' kn' out' D M' hc' hF' hT' hK' hR' hE' hD' hlen' hk' hkk' hnc'
      by_cases h4 : bnd (kz t n c') = 4
      · -- a comparison
        have h4r := bnd_4.mp h4
        obtain ⟨g1, g2, g3, g4⟩ := sg_val hK' (by omega)
        obtain ⟨p1, p2⟩ := popd_all (b := 5) D W hD'
        obtain ⟨q1, q2⟩ := pop_top (b := 5) (W := W) (by omega)
        rw [q1, List.append_nil] at p1
        rw [q2] at p2
        have hs : stepZ t n (Zmk c' false (D ++ W) op kn' out') = waitZ (tkE t n c') W op kn' (out' ++ D) (kz t n c') := by
          show stepS t n c' (D ++ W) op kn' out' = _
          unfold stepS
          rw [if_neg (by omega), if_neg (by omega), if_pos h4, p1, p2, if_neg (by omega)]
        unfold waitZ at hs
        have hno : nO (kz t n c' :: W) = nO W + 1 := by show nO W + (if kz t n c' = 10030 then 0 else 1) = _; rw [if_neg (by omega)]
        obtain ⟨he1, he2⟩ := op_end hb hc' (show kz t n c' ≠ -1 by omega)
        have go : CD m11_knot 3 [(20, ((59 : Nat) : Int))] M' (fun M20 => (CD m11_goOn 4 [(20, ((59 : Nat) : Int))] M20 (fun M23 => (CD m11_sum d [(20, ((59 : Nat) : Int))] M23 (fun M26 => (CD m11_puts 2 [(20, ((59 : Nat) : Int)), (0, 2), (0, tkV t n c')] M26 P)))))) := by
          apply s_knotR hR' hK' hk'
          · intro hlt M1 hF1 hK1 hR1
            rw [if_neg (by omega)] at hs
            have hgo := EZ_go hb (z := Zmk c' false (D ++ W) op kn' out') hc' hs
            apply s_goOnR hWR (exR_T hT' hF1) hR1 hK1 rfl he1
            intro M2 hF2 hK2 hR2
            have hF12 := hF'.tr (hF1.tr hF2)
            apply hC (tkE t n c') (kn' + 1) op (kz t n c' :: W) (out' ++ D) M2 _ (exR_T hT hF12) he1 hK2 hR2 (by omega) hop (by show bnd (kz t n c') < 5; omega) (fun _ _ => by show 4 ≤ bnd (kz t n c'); omega) (by rw [List.length_append, hno]; omega) (by omega)
            · intro c3 kn3 out3 D3 M3 hc3 hF3 hT3 hK3 hR3 hE3 hD3 hlen3 hkn3 hkk3 hnc3
              rw [hno] at hlen3
              apply s_putsR hR3 hK3 (by rw [List.length_append]; omega) g3 g4
              intro M4 hF4 hK4 hR4
              refine hok c3 kn3 out3 (D3 ++ [kz t n c']) M4 hc3 (hF12.tr (hF3.tr hF4)) (exR_T hT3 hF4) hK4 (by rw [← List.append_assoc]; exact hR4) ?_ ?_ ?_ hkn3 (by omega) ?_
              · rw [hE', hgo, hE3, List.append_assoc]; rfl
              · intro x hx
                rcases List.mem_append.mp hx with z | z
                · have := hD3 x z; omega
                · rw [List.mem_singleton.mp z]; omega
              · rw [List.length_append]; show out3.length + (D3.length + 1) + nO W = kn3; omega
              · by_cases y4 : bnd (kz t n c3) = 4
                · refine Or.inr (Or.inr (Or.inr ⟨y4, by omega, ?_⟩))
                  have := (popd_all (b := 5) D3 [kz t n c'] hD3).2
                  rw [this, (popd_n (b := 5) (show ¬ 5 ≤ bnd (kz t n c') by omega)).2]
                  exact h4
                · rcases hnc3 with z | z | z | ⟨z1, z2, z3⟩
                  · exact Or.inl z
                  · exact Or.inr (Or.inl z)
                  · by_cases y3 : bnd (kz t n c3) = 3
                    · exact Or.inr (Or.inl y3)
                    · exact Or.inr (Or.inr (Or.inl (by omega)))
                  · omega
            · intro f pl M3 hF3 hE3 hf hB3
              have h0 : M3 59 23 ≠ 0 := by rw [hB3.1]; omega
              exact f_puts h0 (hbad f pl M3 (hF12.tr hF3) (hE'.trans (hgo.trans hE3)) hf hB3)
          · intro hge M1 hF1 hB1
            rw [if_pos hge] at hs
            have h0 : M1 59 23 ≠ 0 := by rw [hB1.1]; decide
            obtain ⟨e, rfl⟩ := dep
            exact f_goOn h0 (f_sum (by omega) h0 (f_puts h0 (hbad 2 _ M1 (hF'.tr hF1) (hE'.trans (EZ_bad hc' hs)) (by decide) hB1)))
        have e21 : M' 59 21 = 3 := by rw [hK'.2.2.1, g1]; rfl
        refine ⟨fun z => absurd hR'.1 z, fun _ => ⟨fun z => absurd e21 z, fun _ => ?_⟩⟩
        rw [g2]
        refine ⟨fun _ => go, fun y1 => ⟨fun _ => go, fun y2 => ⟨fun _ => go, fun y3 => ⟨fun _ => go, fun y4 => ?_⟩⟩⟩⟩
        exfalso
        rw [kz_3 g1] at h4r
        rcases tk3 g1 with y | y | y | y | y | y | y | y | y | y | y | y | y <;> rw [y] at h4r y1 y2 y3 y4 <;> first | (revert h4r; decide) | omega
      · have pp : P M' := hok c' kn' out' D M' hc' hF' hT' hK' hR' hE' (fun x hx => by have := hD' x hx; omega) hlen' hk' hkk' (by
          rcases hnc' with z | z | z | ⟨z1, z2, z3⟩
          · exact Or.inl z
          · exact Or.inr (Or.inl z)
          · by_cases y3 : bnd (kz t n c') = 3
            · exact Or.inr (Or.inl y3)
            · exact Or.inr (Or.inr (Or.inl (by omega)))
          · omega)
        refine ⟨fun z => absurd hR'.1 z, fun _ => ⟨fun _ => pp, fun z => ?_⟩⟩
        have g1 : tkS t n c' = 3 := by have := hK'.2.2.1; omega
        have g2 : M' 59 22 = tkV t n c' := hK'.2.2.2.1 (Or.inr (Or.inr g1))
        have nb : ¬ (10013 ≤ ksg (tkV t n c') ∧ ksg (tkV t n c') ≤ 10018) := fun z => h4 (bnd_4.mpr (by rw [kz_3 g1]; exact z))
        rw [g2]
        refine ⟨fun y => absurd (by rw [y]; decide) nb, fun _ => ⟨fun y => absurd (by rw [y]; decide) nb, fun _ => ⟨fun y => absurd (by rw [y]; decide) nb, fun _ => ⟨fun y => ?_, fun _ => pp⟩⟩⟩⟩
        exfalso
        apply nb
        rcases tk3 g1 with w | w | w | w | w | w | w | w | w | w | w | w | w <;> rw [w] at y ⊢ <;> first | omega | decide
    · intro f pl M' hF hE hf hB
      have h0 : M' 59 23 ≠ 0 := by rw [hB.1]; omega
      exact ⟨fun _ => hbad f pl M' hF hE hf hB, fun z => absurd z h0⟩
  · have hkn := bi_ne q
    have hs : stepZ t n (Zmk c true W op kn out) = waitZ (tkE t n c) W op kn out 10012 := by
      show stepO t n c W op kn out = _
      unfold stepO
      have h2 : tkS t n c ≠ 2 := fun z => by have := kz_e (t := t) (n := n) (c := c) (by omega) (by omega); omega
      rw [if_neg h2, if_neg (by omega), if_neg (by omega), if_pos ⟨hkn, hW⟩]
    unfold waitZ at hs
    obtain ⟨he1, he2⟩ := op_end hb hc (show kz t n c ≠ -1 by omega)
    have hno : nO ((10012 : Int) :: W) = nO W + 1 := by show nO W + (if (10012 : Int) = 10030 then 0 else 1) = _; rw [if_neg (by omega)]
    apply s_knotR hR hK hk
    · intro hlt M1 hF1 hK1 hR1
      rw [if_neg (by omega)] at hs
      have hgo := EZ_go hb (z := Zmk c true W op kn out) hc hs
      apply s_goOnR hWR (exR_T hT hF1) hR1 hK1 rfl he1
      intro M2 hF2 hK2 hR2
      have hF12 := hF1.tr hF2
      apply hN (tkE t n c) (kn + 1) op (10012 :: W) out M2 _ (exR_T hT hF12) he1 hK2 hR2 (by omega) hop (by show bnd 10012 < 4; decide) (fun h => by omega) (by rw [hno]; omega) (by omega)
      · intro c3 kn3 out3 D3 M3 hc3 hF3 hT3 hK3 hR3 hE3 hD3 hlen3 hkn3 hkk3 hnc3
        rw [hno] at hlen3
        apply s_putsR hR3 hK3 (by rw [List.length_append]; omega) e60 v60
        intro M4 hF4 hK4 hR4
        refine hok c3 kn3 out3 (D3 ++ [10012]) M4 hc3 (hF12.tr (hF3.tr hF4)) (exR_T hT3 hF4) hK4 (by rw [← List.append_assoc]; exact hR4) ?_ ?_ ?_ hkn3 (by omega) ?_
        · rw [hgo, hE3, List.append_assoc]; rfl
        · intro x hx
          rcases List.mem_append.mp hx with z | z
          · exact hD3 x z
          · rw [List.mem_singleton.mp z]; decide
        · rw [List.length_append]; show out3.length + (D3.length + 1) + nO W = kn3; omega
        · rcases hnc3 with z | z | z | ⟨z1, z2, z3⟩
          · exact Or.inl z
          · exact Or.inr (Or.inl z)
          · exact Or.inr (Or.inr (Or.inl z))
          · exact Or.inr (Or.inr (Or.inr ⟨z1, z2, wr5_app z3⟩))
      · intro f pl M3 hF3 hE3 hf hB3
        have h0 : M3 59 23 ≠ 0 := by rw [hB3.1]; omega
        exact f_puts h0 (hbad f pl M3 (hF12.tr hF3) (hgo.trans hE3) hf hB3)
    · intro hge M1 hF1 hB1
      rw [if_pos hge] at hs
      have h0 : M1 59 23 ≠ 0 := by rw [hB1.1]; decide
      obtain ⟨e, rfl⟩ := dep
      exact f_goOn h0 (f_negation (by omega) h0 (f_puts h0 (hbad 2 _ M1 hF1 (EZ_bad hc hs) (by decide) hB1)))
