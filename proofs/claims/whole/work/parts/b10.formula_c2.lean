/-! the class's Reader: an E, one TOKEN -/
def CYz (M : Mem) (z : Zs) : Prop := CY M z.2.1 z.2.2.1 z.2.2.2.1 z.2.2.2.2.1 z.2.2.2.2.2
theorem exC_kc {M M' : Mem} {t : Nat → Int} {n c : Nat} (h : KC M t n c) (hF : Fp exC M M') : KC M' t n c := h.fp hF (fun j h1 h2 => by unfold exC; omega)
theorem CY.due {M : Mem} {d d' : Bool} {W : List Int} {op kn : Nat} {out : List Int} (h : CY M d W op kn out) : CY (mset M 2 10 (d'.toNat : Int)) d' W op kn out := by
  obtain ⟨c1, c2, c3, c4, c5, c6, c7, c8⟩ := h
  refine ⟨?_, mset_s, ?_, ?_, ?_, ?_, ?_, ?_⟩
  · rw [mset_j (by decide)]; exact c1
  · rw [mset_j (by decide)]; exact c3
  · intro i hi; rw [mset_k (by decide)]; exact c4 i hi
  · rw [mset_j (by decide)]; exact c5
  · rw [mset_k (by decide)]; exact c6
  · rw [mset_k (by decide)]; exact c7
  · intro i hi; rw [mset_k (by decide)]; exact c8 i hi
theorem CY.op {M : Mem} {d : Bool} {W : List Int} {op op' kn : Nat} {out : List Int} (h : CY M d W op kn out) : CY (mset M 2 9 (op' : Int)) d W op' kn out := by
  obtain ⟨c1, c2, c3, c4, c5, c6, c7, c8⟩ := h
  refine ⟨?_, ?_, ?_, ?_, mset_s, ?_, ?_, ?_⟩
  · rw [mset_j (by decide)]; exact c1
  · rw [mset_j (by decide)]; exact c2
  · rw [mset_j (by decide)]; exact c3
  · intro i hi; rw [mset_k (by decide)]; exact c4 i hi
  · rw [mset_k (by decide)]; exact c6
  · rw [mset_k (by decide)]; exact c7
  · intro i hi; rw [mset_k (by decide)]; exact c8 i hi
theorem s_takeLeaf {due : Bool} {W : List Int} {op kn c : Nat} {out : List Int} {x : Int} {t : Nat → Int} {n : Nat} {M : Mem} {P : Int → Mem → Prop} (hC : CY M due W op kn out) (hK : KC M t n c) (hk : kn ≤ 64) (hlen : out.length + nO W = kn)
    (hy : ∀ z1, leafZ (tkE t n c) W op kn out x = .inl (some z1) → ∀ M', Fp exC M M' → CYz M' z1 → P 1 M') (hn : ∀ f, leafZ (tkE t n c) W op kn out x = .inr f → ∀ M', Fp exF M M' → M' 2 3 = (f : Int) → M' 2 4 = (tkP t n c : Int) → P 0 M') : CI m7_takeLeaf 3 [(17, ((2 : Nat) : Int)), (0, x)] M P := by
  unfold leafZ at hy hn
  apply q_7_takeLeaf
  apply s_countKnot hC hK hk
  · intro hlt M1 hF1 hC1
    rw [if_neg (by omega)] at hy
    refine ⟨fun _ => ?_, fun q => by cases q⟩
    apply s_add10 hC1 (by omega)
    intro M2 hF2 hC2
    exact hy _ rfl _ ((hF1.tr hF2).set (Or.inl ⟨rfl, Or.inr (Or.inr (Or.inr (Or.inr rfl)))⟩)) (hC2.due (d' := false))
  · intro hge M1 hF1 h3 h4
    rw [if_pos hge] at hn
    exact ⟨fun q => absurd rfl q, fun _ => hn 2 rfl M1 hF1 h3 h4⟩
theorem s_takeOperand {due : Bool} {W : List Int} {op kn c : Nat} {out : List Int} {t : Nat → Int} {n : Nat} {M : Mem} {P : Int → Mem → Prop} (hC : CY M due W op kn out) (hd : due = true) (hK : KC M t n c) (hk : kn ≤ 64) (hop : op ≤ 8) (hnp : nP W = op) (hlen : out.length + nO W = kn)
    (hy : ∀ z1, stepO t n c W op kn out = .inl (some z1) → ∀ M', Fp exC M M' → CYz M' z1 → P 1 M') (hn : ∀ f, stepO t n c W op kn out = .inr f → ∀ M', Fp exF M M' → M' 2 3 = (f : Int) → M' 2 4 = (tkP t n c : Int) → P 0 M') : CI m7_takeOperand 4 [(17, ((2 : Nat) : Int))] M P := by
  obtain ⟨k1, k2, k3, k4⟩ := KC_k hK
  have hlW := len_OP W
  unfold stepO at hy hn
  apply q_7_takeOperand
  rw [k1]
  by_cases s2 : tkS t n c = 2
  · rw [if_pos s2] at hy hn
    have h15 := k2 s2
    obtain ⟨hN, h0⟩ := k4 s2
    obtain ⟨n1, n2, n3, n4, n5⟩ := hN
    refine ⟨fun q => absurd h15 q, fun _ => ⟨fun q => ⟨fun q1 => absurd h15 q1, fun _ => ?_⟩, fun q => ?_⟩⟩
    · have ev : M 2 16 = tkV t n c := by have := n4 q; omega
      rw [if_neg (by omega)] at hy hn
      rw [ev]
      exact s_takeLeaf hC hK hk hlen (fun z1 e M' hF hz => ⟨Or.inr rfl, hy z1 e M' hF hz⟩) (fun f e M' hF h3 h4 => ⟨Or.inl rfl, hn f e M' hF h3 h4⟩)
    · have := n5 q
      rw [if_pos (by omega)] at hn
      exact s_fail7 (k := 2) hK (fun M' hF h3 h4 => ⟨Or.inl rfl, hn 2 rfl M' hF h3 h4⟩)
  · rw [if_neg s2] at hy hn
    have h15 := k3 s2
    have hN : ¬ (10000 ≤ kz t n c ∧ kz t n c < 10008) → (kz t n c ≠ 10030 → (kz t n c ≠ 10012 → CI m7_fail 1 [(17, ((2 : Nat) : Int)), (0, 1)] M (fun r M' => (r = 0 ∨ r = 1) ∧ P r M')) ∧ (kz t n c = 10012 → CI m7_latestWaiting 2 [(17, ((2 : Nat) : Int))] M (fun r19 M20 => (CI m7_bindingOf 1 [(0, r19)] M20 (fun r22 M23 => ((4 ≤ r22 → (CI m7_fail 1 [(17, ((2 : Nat) : Int)), (0, 1)] M23 (fun r28 M29 => ((r28 = 0 ∨ r28 = 1) ∧ P r28 M29)))) ∧ (r22 < 4 → (CI m7_countKnot 2 [(17, ((2 : Nat) : Int))] M23 (fun r31 M32 => ((r31 = 0 → (P 0 M32)) ∧ (r31 ≠ 0 → (CI m7_letWait 2 [(17, ((2 : Nat) : Int)), (0, (M32 2 17))] M32 (fun r37 M38 => ((r37 = 0 → (P 0 M38)) ∧ (r37 ≠ 0 → (P 1 M38)))))))))))))))) ∧ (kz t n c = 10030 → CI m7_takeOpen 3 [(17, ((2 : Nat) : Int))] M (fun r M' => (r = 0 ∨ r = 1) ∧ P r M')) := by
      intro hno
      rw [if_neg hno] at hy hn
      refine ⟨fun q => ⟨fun q1 => ?_, fun q1 => ?_⟩, fun q => ?_⟩
      · rw [if_neg q, if_neg (fun z => q1 z.1)] at hn
        exact s_fail7 (k := 1) hK (fun M' hF h3 h4 => ⟨Or.inl rfl, hn 1 rfl M' hF h3 h4⟩)
      · rw [if_neg q] at hy hn
        apply s_latestWaiting hC (by omega)
        apply s_bindingOf
        refine ⟨fun q2 => ?_, fun q2 => ?_⟩
        · rw [if_neg (by omega)] at hn
          exact s_fail7 (k := 1) hK (fun M' hF h3 h4 => ⟨Or.inl rfl, hn 1 rfl M' hF h3 h4⟩)
        · rw [if_pos ⟨q1, by omega⟩] at hy hn
          unfold waitZ at hy hn
          apply s_countKnot hC hK hk
          · intro hlt M1 hF1 hC1
            rw [if_neg (by omega)] at hy
            refine ⟨fun z => (by cases z), fun _ => ?_⟩
            rw [(KC_k (exC_kc hK hF1)).1, q1]
            apply s_letWait hC1 (by omega)
            intro M2 hF2 hC2
            refine ⟨fun z => (by cases z), fun _ => hy _ rfl M2 (hF1.tr hF2) ?_⟩
            rw [hd] at hC2
            exact hC2
          · intro hge M1 hF1 h3 h4
            rw [if_pos hge] at hn
            exact ⟨fun _ => hn 2 rfl M1 hF1 h3 h4, fun z => absurd rfl z⟩
      · rw [if_pos q] at hy hn
        apply q_7_takeOpen
        rw [hC.2.2.2.2.1]
        refine ⟨fun q1 => ?_, fun q1 => ?_⟩
        · rw [if_neg (by omega)] at hy
          rw [w_1 (i := op) (by omega)]
          have f0 : Fp exC M M := Fp.rf
          have f1 : Fp exC M (mset M 2 9 ((op + 1 : Nat) : Int)) := f0.set (Or.inl ⟨rfl, Or.inr (Or.inr (Or.inr (Or.inl rfl)))⟩)
          apply s_letWait (hC.op (op' := op + 1)) (by omega)
          intro M2 hF2 hC2
          refine ⟨Or.inr rfl, Or.inr rfl, hy _ rfl M2 (f1.tr hF2) ?_⟩
          rw [hd] at hC2
          exact hC2
        · rw [if_pos (by omega)] at hn
          exact s_fail7 (k := 2) hK (fun M' hF h3 h4 => ⟨Or.inl rfl, Or.inl rfl, hn 2 rfl M' hF h3 h4⟩)
    refine ⟨fun _ => ⟨fun _ => ⟨fun q => hN (by omega), fun q => ⟨fun q1 => hN (by omega), fun q1 => ?_⟩⟩, fun q => absurd q h15⟩, fun q => absurd q h15⟩
    rw [if_pos ⟨q, q1⟩] at hy hn
    exact s_takeLeaf hC hK hk hlen (fun z1 e M' hF hz => ⟨Or.inr rfl, hy z1 e M' hF hz⟩) (fun f e M' hF h3 h4 => ⟨Or.inl rfl, hn f e M' hF h3 h4⟩)
theorem s_takeSign {due : Bool} {W : List Int} {op kn c : Nat} {out : List Int} {t : Nat → Int} {n : Nat} {M : Mem} {P : Int → Mem → Prop} (hC : CY M due W op kn out) (hd : due = false) (hK : KC M t n c) (hk : kn ≤ 64) (hop : op ≤ 8) (hok : okWt W) (hnp : nP W = op) (hlen : out.length + nO W = kn)
    (hy : ∀ z1, stepS t n c W op kn out = .inl (some z1) → ∀ M', Fp exC M M' → CYz M' z1 → P 1 M') (he : stepS t n c W op kn out = .inl none → P 0 M) (hn : ∀ f, stepS t n c W op kn out = .inr f → ∀ M', Fp exF M M' → M' 2 3 = (f : Int) → M' 2 4 = (tkP t n c : Int) → P 0 M') : CI m7_takeSign 4 [(17, ((2 : Nat) : Int))] M P := by
  obtain ⟨k1, k2, k3, k4⟩ := KC_k hK
  have hlW := len_OP W
  have hop9 := hC.2.2.2.2.1
  unfold stepS at hy he hn
  -- the sign waits
  have wait : ∀ (b : Nat) (W2 : List Int) (out2 : List Int) (M2 : Mem), 1 ≤ bnd (kz t n c) → (kn < 64 → W2.length < 72) → Fp exC M M2 → CY M2 due W2 op kn out2 →
      (∀ z1, waitZ (tkE t n c) W2 op kn out2 (kz t n c) = .inl (some z1) → ∀ M', Fp exC M M' → CYz M' z1 → P 1 M') → (∀ f, waitZ (tkE t n c) W2 op kn out2 (kz t n c) = .inr f → ∀ M', Fp exF M M' → M' 2 3 = (f : Int) → M' 2 4 = (tkP t n c : Int) → P 0 M') →
      CI m7_countKnot 2 [(17, ((2 : Nat) : Int))] (mset M2 2 10 1) (fun r28 M29 => ((r28 = 0 → (P 0 M29)) ∧ (r28 ≠ 0 → (CI m7_letWait 2 [(17, ((2 : Nat) : Int)), (0, (M29 2 17))] M29 (fun r34 M35 => ((r34 = 0 → (P 0 M35)) ∧ (r34 ≠ 0 → (P 1 M35)))))))) := by
    intro _ W2 out2 M2 _ hl2 hF2 hC2 hy2 hn2
    unfold waitZ at hy2 hn2
    have hC3 : CY (mset M2 2 10 1) true W2 op kn out2 := hC2.due (d' := true)
    have hF3 : Fp exC M (mset M2 2 10 1) := hF2.set (Or.inl ⟨rfl, Or.inr (Or.inr (Or.inr (Or.inr rfl)))⟩)
    have hK3 := exC_kc hK hF3
    apply s_countKnot hC3 hK3 hk
    · intro hlt M4 hF4 hC4
      rw [if_neg (by omega)] at hy2
      refine ⟨fun z => (by cases z), fun _ => ?_⟩
      rw [(KC_k (exC_kc hK3 hF4)).1]
      apply s_letWait hC4 (hl2 hlt)
      intro M5 hF5 hC5
      exact ⟨fun z => (by cases z), fun _ => hy2 _ rfl M5 (hF3.tr (hF4.tr hF5)) hC5⟩
    · intro hge M4 hF4 h3 h4
      rw [if_pos hge] at hn2
      exact ⟨fun _ => hn2 2 rfl M4 ((hF3.mono (fun k j q => Or.inl q)).tr hF4) h3 h4, fun z => absurd rfl z⟩
  have lay : ∀ (b : Nat), 1 ≤ b → ∀ Q : Mem → Prop, (∀ M', Fp exC M M' → CY M' due (wrst b W) op kn (out ++ popd b W) → (wrst b W).length ≤ W.length → Q M') → CD m7_layWaiting 3 [(17, ((2 : Nat) : Int)), (0, (b : Int))] M Q := by
    intro b hb Q hQ
    apply q_7_layWaiting
    refine s_layWaiting hb W out M Q hC (by omega) (by omega) (fun M' hF hC' => hQ M' hF hC' ?_)
    have := popd_app b W
    have e : (popd b W ++ wrst b W).length = W.length := by rw [this]
    rw [List.length_append] at e
    omega
  have body : (kz t n c ≠ 10031 ∨ op = 0) → CI m7_bindingOf 1 [(0, kz t n c)] M (fun r4 M5 => ((r4 = 0 → (((M5 2 9) ≤ 0 → (P 0 M5)) ∧ (0 < (M5 2 9) → (CI m7_fail 1 [(17, ((2 : Nat) : Int)), (0, 1)] M5 (fun r13 M14 => ((r13 = 0 → (P 0 M14)) ∧ (r13 ≠ 0 → (P 1 M14)))))))) ∧ (r4 ≠ 0 → (((M5 2 17) ≠ 10012 → ((r4 ≠ 4 → (CD m7_layWaiting 3 [(17, ((2 : Nat) : Int)), (0, r4)] M5 (fun M26 => (CI m7_countKnot 2 [(17, ((2 : Nat) : Int))] (mset M26 2 10 1) (fun r28 M29 => ((r28 = 0 → (P 0 M29)) ∧ (r28 ≠ 0 → (CI m7_letWait 2 [(17, ((2 : Nat) : Int)), (0, (M29 2 17))] M29 (fun r34 M35 => ((r34 = 0 → (P 0 M35)) ∧ (r34 ≠ 0 → (P 1 M35)))))))))))) ∧ (r4 = 4 → (CD m7_layWaiting 3 [(17, ((2 : Nat) : Int)), (0, (w32 (r4 + 1)))] M5 (fun M41 => (CI m7_latestWaiting 2 [(17, ((2 : Nat) : Int))] M41 (fun r43 M44 => (CI m7_bindingOf 1 [(0, r43)] M44 (fun r46 M47 => ((r46 ≠ 4 → (CI m7_countKnot 2 [(17, ((2 : Nat) : Int))] (mset M47 2 10 1) (fun r52 M53 => ((r52 = 0 → (P 0 M53)) ∧ (r52 ≠ 0 → (CI m7_letWait 2 [(17, ((2 : Nat) : Int)), (0, (M53 2 17))] M53 (fun r58 M59 => ((r58 = 0 → (P 0 M59)) ∧ (r58 ≠ 0 → (P 1 M59)))))))))) ∧ (r46 = 4 → (CI m7_fail 1 [(17, ((2 : Nat) : Int)), (0, 1)] M47 (fun r64 M65 => ((r64 = 0 ∨ r64 = 1) ∧ P r64 M65)))))))))))))) ∧ ((M5 2 17) = 10012 → (((M5 2 9) ≤ 0 → (P 0 M5)) ∧ (0 < (M5 2 9) → (CI m7_fail 1 [(17, ((2 : Nat) : Int)), (0, 1)] M5 (fun r70 M71 => ((r70 = 0 → (P 0 M71)) ∧ (r70 ≠ 0 → (P 1 M71)))))))))))) := by
    intro hnc
    have h0 : ¬ (kz t n c = 10031 ∧ 0 < op) := fun z => by omega
    rw [if_neg h0] at hy he hn
    apply s_bindingOf
    rw [hop9, k1]
    have stop : (bnd (kz t n c) = 0 ∨ kz t n c = 10012) → (((op : Int) ≤ 0 → P 0 M) ∧ (0 < (op : Int) → CI m7_fail 1 [(17, ((2 : Nat) : Int)), (0, 1)] M (fun r13 M14 => ((r13 = 0 → (P 0 M14)) ∧ (r13 ≠ 0 → (P 1 M14)))))) := fun hs => by
      rw [if_pos hs] at he hn
      refine ⟨fun q => he (by rw [if_neg (by omega)]), fun q => ?_⟩
      rw [if_pos (by omega)] at hn
      exact s_fail7 (k := 1) hK (fun M' hF h3 h4 => ⟨fun _ => hn 1 rfl M' hF h3 h4, fun z => absurd rfl z⟩)
    refine ⟨fun q => stop (Or.inl (by omega)), fun q => ⟨fun q1 => ?_, fun q1 => stop (Or.inr q1)⟩⟩
    have hb1 : 1 ≤ bnd (kz t n c) := by omega
    rw [if_neg (show ¬ (bnd (kz t n c) = 0 ∨ kz t n c = 10012) from fun z => by rcases z with z | z; omega; exact q1 z)] at hy hn
    refine ⟨fun q2 => ?_, fun q2 => ?_⟩
    · rw [if_neg (show ¬ bnd (kz t n c) = 4 by omega)] at hy hn
      apply lay _ hb1
      intro M1 hF1 hC1 hl1
      exact wait 0 _ _ M1 hb1 (fun hk64 => by
        have h1 := pop_cnt hb1 W
        have h2 := len_OP (wrst (bnd (kz t n c)) W)
        omega) hF1 hC1 hy hn
    · rw [if_pos (show bnd (kz t n c) = 4 by omega)] at hy hn
      have e5 : w32 ((bnd (kz t n c) : Int) + 1) = ((5 : Nat) : Int) := by rw [q2]; decide
      rw [e5]
      apply lay 5 (by omega)
      intro M1 hF1 hC1 hl1
      apply s_latestWaiting hC1 (by omega)
      apply s_bindingOf
      refine ⟨fun q3 => ?_, fun q3 => ?_⟩
      · rw [if_neg (show ¬ bnd (topW (wrst 5 W)) = 4 by omega)] at hy hn
        exact wait 0 _ _ M1 hb1 (fun hk64 => by
          have h1 := pop_cnt (b := 5) (by omega) W
          have h2 := len_OP (wrst 5 W)
          omega) hF1 hC1 hy hn
      · rw [if_pos (show bnd (topW (wrst 5 W)) = 4 by omega)] at hn
        exact s_fail7 (k := 1) (exC_kc hK hF1) (fun M' hF h3 h4 => ⟨Or.inl rfl, hn 1 rfl M' ((hF1.mono (fun k j q => Or.inl q)).tr hF) h3 h4⟩)
  apply q_7_takeSign
  rw [k1, hop9]
  refine ⟨fun q => body (Or.inl q), fun q => ⟨fun q1 => body (Or.inr (by omega)), fun q1 => ?_⟩⟩
  have hlt : 0 < op := by omega
  rw [if_pos ⟨q, hlt⟩] at hy
  apply lay 1 (Nat.le_refl 1)
  intro M1 hF1 hC1 hl1
  obtain ⟨W', w1, w2, w3, w4⟩ := topP hok (by omega)
  rw [w1] at hC1 hy
  have hC2 := hC1.pop
  have e8 : w32 (M1 2 8 - 1) = (W'.length : Int) := by
    rw [hC1.2.2.1]
    show w32 (((W'.length + 1 : Nat) : Int) - 1) = _
    rw [w1] at hl1
    have hl1 : W'.length + 1 ≤ W.length := hl1
    rw [w32_id (by omega) (by omega)]; omega
  rw [e8, hC2.2.2.2.2.1]
  have e9 : w32 ((op : Int) - 1) = ((op - 1 : Nat) : Int) := by rw [w32_id (by omega) (by omega)]; omega
  rw [e9]
  refine hy _ rfl _ ((hF1.set (Or.inl ⟨rfl, Or.inr (Or.inr (Or.inl rfl))⟩)).set (Or.inl ⟨rfl, Or.inr (Or.inr (Or.inr (Or.inl rfl)))⟩)) ?_
  have := hC2.op (op' := op - 1)
  rw [hd] at this
  exact this
theorem CYz.fp {M M' : Mem} {z : Zs} {q : Nat → Nat → Prop} (h : CYz M z) (hF : Fp q M M') (hq : ∀ k j, q k j → k = 2 ∧ 13 ≤ j) : CYz M' z := by
  obtain ⟨c1, c2, c3, c4, c5, c6, c7, c8⟩ := h
  have e : ∀ k j, ¬ (k = 2 ∧ 13 ≤ j) → M' k j = M k j := fun k j hn => hF k j (fun hc => hn (hq k j hc))
  refine ⟨?_, ?_, ?_, ?_, ?_, ?_, ?_, ?_⟩
  · rw [e 2 3 (by omega)]; exact c1
  · rw [e 2 10 (by omega)]; exact c2
  · rw [e 2 8 (by omega)]; exact c3
  · intro i hi; rw [e 4 i (by omega)]; exact c4 i hi
  · rw [e 2 9 (by omega)]; exact c5
  · rw [e 9 5 (by omega)]; exact c6
  · rw [e 9 4 (by omega)]; exact c7
  · intro i hi; rw [e 10 i (by omega)]; exact c8 i hi
theorem exF_T {M M' : Mem} {t : Nat → Int} {n : Nat} (h : TCm M t n) (hF : Fp exF M M') : TCm M' t n := h.fp hF (fun k j q => by unfold exF exC rdset at q; omega)
/-- the loop over the TOKENS of an E -/
theorem s_loopE {base : List Int} {x1 : Int} {t : Nat → Int} {n : Nat} {P : Int → Mem → Prop} {M0 : Mem} {z0 : Zs} (hT0 : TCm M0 t n)
    (hok : ∀ z', EZ t n z0 = .inl z' → ZI n base z' → stepZ t n z' = .inl none → ∀ M', Fp exF M0 M' → KC M' t n z'.1 → CYz M' z' → CD m7_layWaiting 3 [(17, ((2 : Nat) : Int)), (0, 1)] M' (fun M20 => (CD m3_end 2 [(13, ((9 : Nat) : Int)), (0, x1)] M20 (fun M23 => (P 1 M23)))))
    (hbad : ∀ k pl, EZ t n z0 = .inr (k, pl) → k ≠ 0 → ∀ M', Fp exF M0 M' → M' 2 3 = (k : Int) → M' 2 4 = (pl : Int) → P 0 M') :
    ∀ i z M, i ≤ n + 1 → (Fp exF M0 M ∧ KC M t n z.1 ∧ CYz M z ∧ ZI n base z ∧ EZ t n z = EZ t n z0 ∧ i ≤ tkP t n z.1) → A m7_readFormula 5 0 30 [(17, ((2 : Nat) : Int)), (0, x1), (0, 1), (0, (i : Int))] [] M (Ki P) := by
  have hb := hT0.2.2.2.1
  have h700 := hT0.2.1
  refine loop_upS (σ := Zs) (Inv := fun i z M => Fp exF M0 M ∧ KC M t n z.1 ∧ CYz M z ∧ ZI n base z ∧ EZ t n z = EZ t n z0 ∧ i ≤ tkP t n z.1) (G := fun i z M => A m7_readFormula 5 0 30 [(17, ((2 : Nat) : Int)), (0, x1), (0, 1), (0, (i : Int))] [] M (Ki P)) (n + 1) ?_ ?_
  · rintro z M ⟨_, _, _, hZ, _, hi⟩
    exfalso
    have := (tkP_p t n z.1).2 hZ.1
    omega
  · rintro i z M hi ⟨hF, hK, hC, hZ, hE, hip⟩ ih
    have hT := exF_T hT0 hF
    -- the way out
    have out0 : ∀ (x3 : Int) (M1 : Mem), TCm M1 t n → M1 2 3 = 0 → CD m7_layWaiting 3 [(17, ((2 : Nat) : Int)), (0, 1)] M1 (fun M20 => (CD m3_end 2 [(13, ((9 : Nat) : Int)), (0, x1)] M20 (fun M23 => (P 1 M23)))) → A m7_readFormula 5 0 30 [(17, ((2 : Nat) : Int)), (0, x1), (0, 0), (0, x3)] [] M1 (Ki P) := by
      intro x3 M1 hT1 h3 hgo
      apply r_7_readFormula_30
      exact ⟨fun _ => ⟨fun _ => hgo, fun q => absurd h3 q⟩, fun _ => ⟨fun _ => ⟨fun _ => hgo, fun q => absurd h3 q⟩, fun q => absurd rfl q⟩⟩
    have out1 : ∀ (x3 : Int) (M1 : Mem), M1 2 3 ≠ 0 → P 0 M1 → A m7_readFormula 5 0 30 [(17, ((2 : Nat) : Int)), (0, x1), (0, 0), (0, x3)] [] M1 (Ki P) := by
      intro x3 M1 h3 hgo
      apply r_7_readFormula_30
      exact ⟨fun _ => ⟨fun q => absurd q h3, fun _ => hgo⟩, fun _ => ⟨fun _ => ⟨fun q => absurd q h3, fun _ => hgo⟩, fun q => absurd rfl q⟩⟩
    have hzn : z.1 ≤ n := hZ.1
    -- one TOKEN is taken
    have cont : ∀ z1, stepZ t n z = .inl (some z1) → ∀ M1, Fp exC M M1 → CYz M1 z1 → CD m7_next 3 [(17, ((2 : Nat) : Int))] M1 (fun M35 => A m7_readFormula 5 0 30 [(17, ((2 : Nat) : Int)), (0, x1), (0, 1), (0, (w32 ((i : Int) + 1)))] [] M35 (Ki P)) := by
      intro z1 hs M1 hF1 hC1
      obtain ⟨s1, s2, s3, s4⟩ := step_c hb hzn hs
      have hFa : Fp exF M0 M1 := hF.tr (hF1.mono (fun k j q => Or.inl q))
      have hK1 := exC_kc hK hF1
      apply s_next (c := z1.1) (exF_T hT0 hFa) s2 (by rw [hK1.1, s3]) hK1.p
      intro M2 hF2 hK2
      rw [w_1 (i := i) (by omega)]
      refine ih z1 M2 ⟨hFa.tr (hF2.mono (fun k j q => Or.inr (Or.inl q))), hK2, hC1.fp hF2 (fun k j q => by unfold rdset at q; omega), ZI_step hb hZ hs, by rw [← EZ_go hb hzn hs]; exact hE, ?_⟩
      have h1 := (tkP_p t n z1.1).1
      omega
    have bad : ∀ f, stepZ t n z = .inr f → f ≠ 0 → ∀ M1, Fp exF M M1 → M1 2 3 = (f : Int) → M1 2 4 = (tkP t n z.1 : Int) → A m7_readFormula 5 0 30 [(17, ((2 : Nat) : Int)), (0, x1), (0, 0), (0, (w32 ((i : Int) + 1)))] [] M1 (Ki P) := by
      intro f hs hf M1 hF1 h3 h4
      exact out1 _ M1 (by omega) (hbad f _ (by rw [← hE]; exact EZ_bad hzn hs) hf M1 (hF.tr hF1) h3 h4)
    obtain ⟨o1, o2, o3, o4, o5, o6, seg, o7, o8⟩ := hZ
    have hZ : ZI n base z := ⟨o1, o2, o3, o4, o5, o6, seg, o7, o8⟩
    have hdue := hC.2.1
    apply r_7_readFormula_30
    rw [hT.1]
    refine ⟨fun q => absurd q (by omega), fun _ => ⟨fun q => (by cases q), fun _ => ⟨fun q => ?_, fun q => ?_⟩⟩⟩
    · have hd : z.2.1 = false := by rw [hdue] at q; exact tn0 q
      have hst : stepZ t n z = stepS t n z.1 z.2.2.1 z.2.2.2.1 z.2.2.2.2.1 z.2.2.2.2.2 := by unfold stepZ; rw [if_neg (by rw [hd]; decide)]
      apply s_takeSign hC hd hK o2 o3 o5 o4 o6
      · intro z1 e M1 hF1 hC1
        exact ⟨fun y => (by cases y), fun _ => cont z1 (hst.trans e) M1 hF1 hC1⟩
      · intro e
        refine ⟨fun _ => ?_, fun y => absurd rfl y⟩
        exact out0 _ M hT hC.1 (hok z (by rw [← hE]; exact EZ_end hzn (hst.trans e)) hZ (hst.trans e) M hF hK hC)
      · intro f e M1 hF1 h3 h4
        refine ⟨fun _ => bad f (hst.trans e) ?_ M1 hF1 h3 h4, fun y => absurd rfl y⟩
        intro y
        subst y
        unfold stepS waitZ at e
        repeat' split at e
        all_goals cases e
    · have hd : z.2.1 = true := by rw [hdue] at q; exact tn1 q
      have hst : stepZ t n z = stepO t n z.1 z.2.2.1 z.2.2.2.1 z.2.2.2.2.1 z.2.2.2.2.2 := by unfold stepZ; rw [if_pos hd]
      apply s_takeOperand hC hd hK o2 o3 o4 o6
      · intro z1 e M1 hF1 hC1
        exact ⟨fun y => (by cases y), fun _ => cont z1 (hst.trans e) M1 hF1 hC1⟩
      · intro f e M1 hF1 h3 h4
        refine ⟨fun _ => bad f (hst.trans e) ?_ M1 hF1 h3 h4, fun y => absurd rfl y⟩
        intro y
        subst y
        unfold stepO leafZ waitZ at e
        repeat' split at e
        all_goals cases e
