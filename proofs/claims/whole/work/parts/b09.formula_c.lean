/-! the class's Reader: an E -/
theorem len_OP : ∀ W : List Int, W.length = nO W + nP W
  | [] => rfl
  | x :: W => by
    show W.length + 1 = nO W + (if x = 10030 then 0 else 1) + (nP W + (if x = 10030 then 1 else 0))
    have := len_OP W
    by_cases z : x = 10030
    · rw [if_pos z, if_pos z]; omega
    · rw [if_neg z, if_neg z]; omega
theorem KC_k {M : Mem} {t : Nat → Int} {n c : Nat} (h : KC M t n c) : M 2 17 = kz t n c ∧ (tkS t n c = 2 → M 2 15 = 2) ∧ (tkS t n c ≠ 2 → M 2 15 ≠ 2) ∧ (tkS t n c = 2 → NRl (M 2 16) (tkV t n c).toNat ∧ 0 ≤ tkV t n c) := by
  obtain ⟨h1, h2, h3, h4, h5, h6, h7, _⟩ := h
  have hr : tkS t n c = 0 ∨ tkS t n c = 1 ∨ tkS t n c = 2 ∨ tkS t n c = 3 ∨ tkS t n c = 4 ∨ tkS t n c = 5 := by
    unfold tkS
    split
    · omega
    · split
      · split
        · split <;> omega
        · omega
      · split
        · omega
        · split <;> omega
  have e0 : tkS t n c = 0 → tkV t n c = wdx (nmN t (tkP t n c) (tkE t n c)) := fun q => by
    unfold tkS at q
    unfold tkV
    split at q
    · omega
    · next q1 =>
      rw [if_neg q1]
      split at q
      · next q2 =>
        rw [if_pos q2]
        split at q
        · split at q
          · omega
          · next q3 => rw [if_neg q3]
        · omega
      · split at q
        · omega
        · split at q <;> omega
  have e1 : tkS t n c = 1 → wdx (nmN t (tkP t n c) (tkE t n c)) = -1 := fun q => by
    unfold tkS at q
    split at q
    · omega
    · split at q
      · split at q
        · split at q
          · next q3 => exact q3
          · omega
        · omega
      · split at q
        · omega
        · split at q <;> omega
  have e2 : tkS t n c = 2 → 0 ≤ tkV t n c := fun q => by
    unfold tkS at q
    unfold tkV
    split at q
    · omega
    · next q1 =>
      rw [if_neg q1]
      split at q
      · split at q
        · split at q <;> omega
        · omega
      · next q3 =>
        rw [if_neg q3]
        split at q
        · next q4 => rw [if_pos q4]; omega
        · split at q <;> omega
  unfold kz
  rcases hr with q | q | q | q | q | q
  · rw [if_pos q, e0 q]
    obtain ⟨a, b, d⟩ := h4 (Or.inl q)
    exact ⟨d, fun z => by omega, fun _ => by omega, fun z => by omega⟩
  · rw [if_neg (by omega), if_neg (by omega)]
    obtain ⟨a, b, d⟩ := h4 (Or.inr q)
    rw [e1 q] at d
    exact ⟨d.trans (by decide), fun z => by omega, fun _ => by omega, fun z => by omega⟩
  · rw [if_neg (by omega), if_neg (by omega)]
    obtain ⟨a, b, d⟩ := h5 q
    exact ⟨b, fun _ => a, fun z => absurd q z, fun _ => ⟨d, e2 q⟩⟩
  · rw [if_neg (by omega), if_pos q]
    obtain ⟨a, b⟩ := h6 q
    exact ⟨b, fun z => by omega, fun _ => by omega, fun z => by omega⟩
  · rw [if_neg (by omega), if_neg (by omega)]
    obtain ⟨a, b⟩ := h3 q
    exact ⟨b, fun z => by omega, fun _ => by omega, fun z => by omega⟩
  · rw [if_neg (by omega), if_neg (by omega)]
    obtain ⟨a, b⟩ := h7 q
    exact ⟨b, fun z => by omega, fun _ => by omega, fun z => by omega⟩
theorem KC.fp {M M' : Mem} {t : Nat → Int} {n c : Nat} {q : Nat → Nat → Prop} (h : KC M t n c) (hF : Fp q M M') (hq : ∀ j, 4 ≤ j → (j = 4 ∨ (13 ≤ j ∧ j ≤ 17)) → ¬ q 2 j) : KC M' t n c := by
  unfold KC
  rw [hF 2 4 (hq 4 (by omega) (by omega)), hF 2 13 (hq 13 (by omega) (by omega)), hF 2 14 (hq 14 (by omega) (by omega)), hF 2 15 (hq 15 (by omega) (by omega)), hF 2 16 (hq 16 (by omega) (by omega)), hF 2 17 (hq 17 (by omega) (by omega))]
  exact h
def CY (M : Mem) (due : Bool) (W : List Int) (op kn : Nat) (out : List Int) : Prop :=
  M 2 3 = 0 ∧ M 2 10 = (due.toNat : Int) ∧ M 2 8 = (W.length : Int) ∧ (∀ i, i < W.length → M 4 i = W.reverse.getD i 0) ∧ M 2 9 = (op : Int) ∧ M 9 5 = (kn : Int) ∧ M 9 4 = (out.length : Int) ∧ ∀ i, i < out.length → M 10 i = out.getD i 0
/-- what an E works on, its TOKEN aside -/
def exC (k j : Nat) : Prop := (k = 2 ∧ (j = 8 ∨ j = 8 ∨ j = 8 ∨ j = 9 ∨ j = 10)) ∨ k = 4 ∨ (k = 9 ∧ (j = 4 ∨ j = 5)) ∨ k = 10
/-- what reading an E touches in the class -/
def exF (k j : Nat) : Prop := exC k j ∨ rdset k j ∨ (k = 2 ∧ (j = 3 ∨ j = 4))
theorem s_bindingOf {x : Int} {M : Mem} {P : Int → Mem → Prop} (h : P (bnd x : Int) M) : CI m7_bindingOf 1 [(0, x)] M P := by
  apply q_7_bindingOf
  refine ⟨?_, ?_, ?_, ?_, ?_, ?_, ?_, ?_, ?_, ?_, ?_, ?_, ?_, ?_⟩ <;> intro q
  case refine_14 =>
    have e : bnd x = 0 := by
      rcases Nat.eq_zero_or_pos (bnd x) with y | y
      · exact y
      · have := bnd_op y; omega
    rw [e] at h; exact h
  all_goals (subst q; exact h)
theorem getD_rev {x : Int} {W : List Int} {i : Nat} : (x :: W).reverse.getD i 0 = if i < W.length then W.reverse.getD i 0 else if i = W.length then x else 0 := by
  rw [List.reverse_cons, List.getD_eq_getElem?_getD, List.getD_eq_getElem?_getD]
  by_cases q : i < W.length
  · rw [if_pos q, List.getElem?_append_left (by rw [List.length_reverse]; exact q)]
  · rw [if_neg q, List.getElem?_append_right (by rw [List.length_reverse]; omega), List.length_reverse]
    by_cases z : i = W.length
    · subst z; rw [if_pos rfl, Nat.sub_self]; rfl
    · rw [if_neg z]
      obtain ⟨u, hu⟩ : ∃ u, i - W.length = u + 1 := ⟨i - W.length - 1, by omega⟩
      rw [hu]; rfl
theorem getD_app {out : List Int} {x : Int} {i : Nat} (h : i < (out ++ [x]).length) : (out ++ [x]).getD i 0 = if i < out.length then out.getD i 0 else x := by
  rw [List.length_append] at h
  have h : i < out.length + 1 := h
  rw [List.getD_eq_getElem?_getD, List.getD_eq_getElem?_getD]
  by_cases q : i < out.length
  · rw [if_pos q, List.getElem?_append_left q]
  · have e : i = out.length := by omega
    subst e
    rw [if_neg q, List.getElem?_append_right (Nat.le_refl _), Nat.sub_self]; rfl
theorem s_latestWaiting {due : Bool} {W : List Int} {op kn : Nat} {out : List Int} {M : Mem} {P : Int → Mem → Prop} (hC : CY M due W op kn out) (hl : W.length ≤ 72) (h : P (topW W) M) : CI m7_latestWaiting 2 [(17, ((2 : Nat) : Int))] M P := by
  have a4 : ((aln 4 : Nat) : Int) = 72 := by decide
  apply q_7_latestWaiting
  rw [hC.2.2.1]
  cases W with
  | nil =>
    apply s_at_o (Or.inl (by show w32 (((0 : Nat) : Int) - 1) < 0; decide))
    exact h
  | cons x W =>
    have hl : W.length + 1 ≤ 72 := hl
    have e : w32 (((x :: W).length : Int) - 1) = (W.length : Int) := by
      show w32 (((W.length + 1 : Nat) : Int) - 1) = _
      rw [w32_id (by omega) (by omega)]; omega
    rw [e]
    apply s_at (by omega) (by omega)
    rw [Int.toNat_natCast, hC.2.2.2.1 W.length (by show W.length < W.length + 1; omega), getD_rev, if_neg (by omega), if_pos rfl]
    exact h
theorem s_add10 {due : Bool} {W : List Int} {op kn : Nat} {out : List Int} {x : Int} {M : Mem} {P : Mem → Prop} (hC : CY M due W op kn out) (hl : out.length < 64) (h : ∀ M', Fp exC M M' → CY M' due W op kn (out ++ [x]) → P M') : CD m3_add 2 [(13, ((9 : Nat) : Int)), (0, x)] M P := by
  have a10 : ((aln 10 : Nat) : Int) = 64 := by decide
  obtain ⟨c1, c2, c3, c4, c5, c6, c7, c8⟩ := hC
  apply q_3_add
  rw [c7]
  apply s_put (by omega) (by show (out.length : Int) < ((aln 10 : Nat) : Int); omega)
  rw [Int.toNat_natCast, mset_k (show (9 : Nat) ≠ 9 + 1 by decide), c7, w_1 (i := out.length) (by omega)]
  have el : (out ++ [x]).length = out.length + 1 := by rw [List.length_append]; rfl
  have f0 : Fp exC M M := Fp.rf
  refine h _ ((f0.set (Or.inr (Or.inr (Or.inr rfl)))).set (Or.inr (Or.inr (Or.inl ⟨rfl, Or.inl rfl⟩)))) ⟨?_, ?_, ?_, ?_, ?_, ?_, ?_, ?_⟩
  · rw [mset_k (by decide), mset_k (by decide)]; exact c1
  · rw [mset_k (by decide), mset_k (by decide)]; exact c2
  · rw [mset_k (by decide), mset_k (by decide)]; exact c3
  · intro i hi; rw [mset_k (by decide), mset_k (by decide)]; exact c4 i hi
  · rw [mset_k (by decide), mset_k (by decide)]; exact c5
  · rw [mset_j (by decide), mset_k (by decide)]; exact c6
  · rw [mset_s, el]
  · intro i hi
    rw [mset_k (by decide), getD_app hi]
    rw [el] at hi
    show mset M 10 out.length x 10 i = _
    by_cases q : i < out.length
    · rw [if_pos q, mset_j (by omega)]; exact c8 i q
    · have e : i = out.length := by omega
      subst e
      rw [if_neg q, mset_s]
theorem CY.pop {M : Mem} {d : Bool} {x : Int} {W : List Int} {op kn : Nat} {out : List Int} (h : CY M d (x :: W) op kn out) : CY (mset M 2 8 (W.length : Int)) d W op kn out := by
  obtain ⟨c1, c2, c3, c4, c5, c6, c7, c8⟩ := h
  refine ⟨?_, ?_, mset_s, ?_, ?_, ?_, ?_, ?_⟩
  · rw [mset_j (by decide)]; exact c1
  · rw [mset_j (by decide)]; exact c2
  · intro i hi
    rw [mset_k (by decide)]
    have := c4 i (by show i < W.length + 1; omega)
    rw [getD_rev, if_pos hi] at this
    exact this
  · rw [mset_j (by decide)]; exact c5
  · rw [mset_k (by decide)]; exact c6
  · rw [mset_k (by decide)]; exact c7
  · intro i hi; rw [mset_k (by decide)]; exact c8 i hi
theorem s_layWaiting {due : Bool} {op kn b : Nat} (hb : 1 ≤ b) : ∀ (W out : List Int) (M : Mem) (P : Mem → Prop), CY M due W op kn out → W.length ≤ 72 → out.length + nO W ≤ 64 → (∀ M', Fp exC M M' → CY M' due (wrst b W) op kn (out ++ popd b W) → P M') → A m7_layWaiting 3 0 0 [(17, ((2 : Nat) : Int)), (0, (b : Int))] [] M (Kd P)
  | [], out, M, P, hC, _, _, h => by
    apply r_7_layWaiting_0
    rw [hC.2.2.1]
    refine ⟨fun _ => h M Fp.rf (by show CY M due [] op kn (out ++ []); rw [List.append_nil]; exact hC), fun q => ?_⟩
    exact absurd q (by show ¬ 0 < (((0 : Nat) : Int)); omega)
  | x :: W, out, M, P, hC, hl, ho, h => by
    have hl' : W.length + 1 ≤ 72 := hl
    apply r_7_layWaiting_0
    rw [hC.2.2.1]
    refine ⟨fun q => absurd q (by show ¬ ((W.length + 1 : Nat) : Int) ≤ 0; omega), fun _ => ?_⟩
    apply s_latestWaiting hC hl
    apply s_bindingOf
    show ((bnd x : Int) < (b : Int) → P M) ∧ _
    refine ⟨fun q => ?_, fun q => ?_⟩
    · have hn : ¬ b ≤ bnd x := by omega
      rw [(popd_n hn).1, (popd_n hn).2, List.append_nil] at h
      exact h M Fp.rf hC
    · have q : (b : Int) ≤ (bnd x : Int) := q
      have hy : b ≤ bnd x := by omega
      rw [(popd_y hy).1, (popd_y hy).2] at h
      have hx := bnd_op (show 1 ≤ bnd x by omega)
      have hno : nO (x :: W) = nO W + 1 := by show nO W + (if x = 10030 then 0 else 1) = _; rw [if_neg (by omega)]
      apply s_latestWaiting hC hl
      apply s_add10 hC (by omega)
      intro M1 hF1 hC1
      obtain ⟨c1, c2, c3, c4, c5, c6, c7, c8⟩ := hC1
      have e8 : w32 (M1 2 8 - 1) = (W.length : Int) := by
        rw [c3]
        show w32 (((W.length + 1 : Nat) : Int) - 1) = _
        rw [w32_id (by omega) (by omega)]; omega
      rw [e8]
      have el : (out ++ [x]).length = out.length + 1 := by rw [List.length_append]; rfl
      have hC1' : CY M1 due (x :: W) op kn (out ++ [x]) := ⟨c1, c2, c3, c4, c5, c6, c7, c8⟩
      refine s_layWaiting hb W (out ++ [x]) _ P hC1'.pop (by omega) (by omega) ?_
      · intro M2 hF2 hC2
        refine h M2 ((hF1.set (Or.inl ⟨rfl, Or.inr (Or.inr (Or.inl rfl))⟩)).tr hF2) ?_
        rw [List.append_assoc] at hC2
        exact hC2
theorem s_fail7 {k c : Nat} {t : Nat → Int} {n : Nat} {M : Mem} {P : Int → Mem → Prop} (hK : KC M t n c) (h : ∀ M', Fp exF M M' → M' 2 3 = (k : Int) → M' 2 4 = (tkP t n c : Int) → P 0 M') : CI m7_fail 1 [(17, ((2 : Nat) : Int)), (0, (k : Int))] M P := by
  apply q_7_fail
  have f0 : Fp exF M M := Fp.rf
  refine h _ ((f0.set (Or.inr (Or.inr ⟨rfl, Or.inl rfl⟩))).set (Or.inr (Or.inr ⟨rfl, Or.inr rfl⟩))) ?_ ?_
  · rw [mset_j (by decide), mset_s]
  · rw [mset_s, mset_j (by decide)]; exact hK.2.1
theorem s_countKnot {due : Bool} {W : List Int} {op kn c : Nat} {out : List Int} {t : Nat → Int} {n : Nat} {M : Mem} {P : Int → Mem → Prop} (hC : CY M due W op kn out) (hK : KC M t n c) (hk : kn ≤ 64)
    (hy : kn < 64 → ∀ M', Fp exC M M' → CY M' due W op (kn + 1) out → P 1 M') (hn : 64 ≤ kn → ∀ M', Fp exF M M' → M' 2 3 = 2 → M' 2 4 = (tkP t n c : Int) → P 0 M') : CI m7_countKnot 2 [(17, ((2 : Nat) : Int))] M P := by
  obtain ⟨c1, c2, c3, c4, c5, c6, c7, c8⟩ := hC
  apply q_7_countKnot
  rw [c6, w_1 (i := kn) (by omega)]
  have f0 : Fp exC M M := Fp.rf
  refine ⟨fun q => hy (by omega) _ (f0.set (Or.inr (Or.inr (Or.inl ⟨rfl, Or.inr rfl⟩)))) ⟨?_, ?_, ?_, ?_, ?_, mset_s, ?_, ?_⟩, fun q => s_fail7 (k := 2) hK (fun M' hF h3 h4 => ⟨Or.inl rfl, hn (by omega) M' hF h3 h4⟩)⟩
  · rw [mset_k (by decide)]; exact c1
  · rw [mset_k (by decide)]; exact c2
  · rw [mset_k (by decide)]; exact c3
  · intro i hi; rw [mset_k (by decide)]; exact c4 i hi
  · rw [mset_k (by decide)]; exact c5
  · rw [mset_j (by decide)]; exact c7
  · intro i hi; rw [mset_k (by decide)]; exact c8 i hi
theorem s_letWait {due : Bool} {W : List Int} {op kn : Nat} {out : List Int} {x : Int} {M : Mem} {P : Int → Mem → Prop} (hC : CY M due W op kn out) (hl : W.length < 72) (h : ∀ M', Fp exC M M' → CY M' due (x :: W) op kn out → P 1 M') : CI m7_letWait 2 [(17, ((2 : Nat) : Int)), (0, x)] M P := by
  have a4 : ((aln 4 : Nat) : Int) = 72 := by decide
  obtain ⟨c1, c2, c3, c4, c5, c6, c7, c8⟩ := hC
  apply q_7_letWait
  rw [c3]
  apply s_put (by omega) (by omega)
  rw [Int.toNat_natCast, mset_k (by decide), c3, w_1 (i := W.length) (by omega)]
  have f0 : Fp exC M M := Fp.rf
  refine h _ ((f0.set (Or.inr (Or.inl rfl))).set (Or.inl ⟨rfl, Or.inr (Or.inr (Or.inl rfl))⟩)) ⟨?_, ?_, ?_, ?_, ?_, ?_, ?_, ?_⟩
  · rw [mset_j (by decide), mset_k (by decide)]; exact c1
  · rw [mset_j (by decide), mset_k (by decide)]; exact c2
  · rw [mset_s]; rfl
  · intro i hi
    have hi : i < W.length + 1 := hi
    rw [mset_k (by decide), getD_rev]
    by_cases q : i < W.length
    · rw [if_pos q, mset_j (by omega)]; exact c4 i q
    · have e : i = W.length := by omega
      subst e
      rw [if_neg q, if_pos rfl, mset_s]
  · rw [mset_j (by decide), mset_k (by decide)]; exact c5
  · rw [mset_k (by decide), mset_k (by decide)]; exact c6
  · rw [mset_k (by decide), mset_k (by decide)]; exact c7
  · intro i hi; rw [mset_k (by decide), mset_k (by decide)]; exact c8 i hi
