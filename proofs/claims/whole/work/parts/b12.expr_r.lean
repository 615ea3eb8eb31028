/-! the reference: an E, its small steps -/
theorem tk3 {t : Nat → Int} {n c : Nat} (h : tkS t n c = 3) : tkV t n c = 59 ∨ tkV t n c = 40 ∨ tkV t n c = 41 ∨ tkV t n c = 43 ∨ tkV t n c = 45 ∨ tkV t n c = 42 ∨ tkV t n c = 47 ∨ tkV t n c = 60 ∨ tkV t n c = 61 ∨ tkV t n c = 62 ∨ tkV t n c = 256 ∨ tkV t n c = 257 ∨ tkV t n c = 258 := by
  unfold tkS at h
  unfold tkV
  split at h
  · omega
  · next q1 =>
    rw [if_neg q1]
    split at h
    · split at h
      · split at h <;> omega
      · omega
    · next q2 =>
      rw [if_neg q2]
      split at h
      · omega
      · next q3 =>
        rw [if_neg q3]
        split at h
        · next q4 =>
          unfold isS at q4
          rw [decide_eq_true_eq] at q4
          unfold sgV
          split
          · omega
          · split
            · omega
            · split <;> omega
        · omega
theorem kz_0 {t : Nat → Int} {n c : Nat} (h : tkS t n c = 0) : kz t n c = kwd (tkV t n c) := if_pos h
theorem kz_3 {t : Nat → Int} {n c : Nat} (h : tkS t n c = 3) : kz t n c = ksg (tkV t n c) := by unfold kz; rw [if_neg (by omega), if_pos h]
theorem kz_e {t : Nat → Int} {n c : Nat} (h0 : tkS t n c ≠ 0) (h3 : tkS t n c ≠ 3) : kz t n c = -1 := by unfold kz; rw [if_neg h0, if_neg h3]
theorem kwd_rng (w : Int) : kwd w = -1 ∨ kwd w = 10010 ∨ kwd w = 10011 ∨ kwd w = 10012 ∨ (10 ≤ w ∧ kwd w = 9990 + w) := by
  unfold kwd
  split
  · omega
  · split
    · omega
    · split
      · omega
      · split <;> omega
theorem tkV_0 {t : Nat → Int} {n c : Nat} (h : tkS t n c = 0) : 0 ≤ tkV t n c ∧ tkV t n c < 18 := by
  unfold tkS at h
  unfold tkV
  split at h
  · omega
  · next q1 =>
    rw [if_neg q1]
    split at h
    · next q2 =>
      rw [if_pos q2]
      split at h
      · split at h
        · omega
        · next q3 =>
          rw [if_neg q3]
          have := wdx_bd (nmN t (tkP t n c) (tkE t n c)); omega
      · omega
    · split at h
      · omega
      · split at h <;> omega
/-- a sign's knot is that sign -/
theorem kz_sg {t : Nat → Int} {n c : Nat} {v : Int} (hv : 10013 ≤ ksg v) (h : kz t n c = ksg v) : tkS t n c = 3 ∧ ksg (tkV t n c) = ksg v := by
  by_cases h3 : tkS t n c = 3
  · exact ⟨h3, by rw [← h, kz_3 h3]⟩
  · exfalso
    by_cases h0 : tkS t n c = 0
    · rw [kz_0 h0] at h
      have := kwd_rng (tkV t n c)
      have := tkV_0 h0
      omega
    · rw [kz_e h0 h3] at h
      omega
def RY (M : Mem) (op kn : Nat) (ro : List Int) : Prop := M 59 23 = 0 ∧ M 59 27 = (op : Int) ∧ M 59 28 = (kn : Int) ∧ M 61 9 = (ro.length : Int) ∧ ∀ i, i < ro.length → enc (M 67 (64 + i)) (M 68 (64 + i)) = ro.getD i 0 ∧ kval (M 67 (64 + i)) (M 68 (64 + i))
def exR (k j : Nat) : Prop := tkset k j ∨ (k = 59 ∧ (j = 23 ∨ j = 24 ∨ j = 27 ∨ j = 28)) ∨ (k = 61 ∧ j = 9) ∨ ((k = 67 ∨ k = 68) ∧ 64 ≤ j)
theorem exR_T {M M' : Mem} {t : Nat → Int} {n : Nat} (h : TRm M t n) (hF : Fp exR M M') : TRm M' t n := h.fp hF (fun k j q => by unfold exR tkset at q; omega)
theorem KR.fp {M M' : Mem} {t : Nat → Int} {n c : Nat} {q : Nat → Nat → Prop} (h : KR M t n c) (hF : Fp q M M') (hq : ∀ j, 19 ≤ j → (j ≤ 22 ∨ j = 24) → ¬ q 59 j) : KR M' t n c := by
  unfold KR
  rw [hF 59 19 (hq 19 (by omega) (by omega)), hF 59 20 (hq 20 (by omega) (by omega)), hF 59 21 (hq 21 (by omega) (by omega)), hF 59 22 (hq 22 (by omega) (by omega)), hF 59 24 (hq 24 (by omega) (by omega))]
  exact h
theorem RY.fp {M M' : Mem} {op kn : Nat} {ro : List Int} {q : Nat → Nat → Prop} (h : RY M op kn ro) (hF : Fp q M M') (hq : ∀ k j, q k j → tkset k j) : RY M' op kn ro := by
  obtain ⟨h1, h2, h3, h4, h5⟩ := h
  have no : ∀ k j, ¬ (k = 59 ∧ 19 ≤ j ∧ j ≤ 22) → M' k j = M k j := fun k j hn => hF k j (fun hc => hn (hq k j hc))
  refine ⟨by rw [no 59 23 (by omega)]; exact h1, by rw [no 59 27 (by omega)]; exact h2, by rw [no 59 28 (by omega)]; exact h3, by rw [no 61 9 (by omega)]; exact h4, fun i hi => ?_⟩
  rw [no 67 (64 + i) (by omega), no 68 (64 + i) (by omega)]
  exact h5 i hi
theorem s_isSign {t : Nat → Int} {n c : Nat} {v : Int} {M : Mem} {P : Int → Mem → Prop} (h0 : M 59 23 = 0) (hK : KR M t n c) (hv : v = 40 ∨ v = 41 ∨ v = 42 ∨ v = 43 ∨ v = 45 ∨ v = 47 ∨ v = 59) (h : P (bi (kz t n c = ksg v)) M) : CI m11_isSign 1 [(20, ((59 : Nat) : Int)), (0, v)] M P := by
  have hv13 : 10013 ≤ ksg v := by rcases hv with rfl | rfl | rfl | rfl | rfl | rfl | rfl <;> decide
  apply q_11_isSign
  refine ⟨fun q => absurd h0 q, fun _ => ⟨fun q => ?_, fun q => ⟨fun q1 => ?_, fun q1 => ?_⟩⟩⟩
  · rwa [bi_f (fun z => q (by have := (kz_sg hv13 z).1; rw [hK.2.2.1, this]; rfl))] at h
  · have h3 : tkS t n c = 3 := by have := hK.2.2.1; omega
    rw [hK.2.2.2.1 (Or.inr (Or.inr h3))] at q1
    rwa [bi_f (fun z => by
      have := (kz_sg hv13 z).2
      apply q1
      rcases tk3 h3 with y | y | y | y | y | y | y | y | y | y | y | y | y <;> rw [y] at this ⊢ <;> rcases hv with rfl | rfl | rfl | rfl | rfl | rfl | rfl <;> first | rfl | (exfalso; revert this; decide))] at h
  · have h3 : tkS t n c = 3 := by have := hK.2.2.1; omega
    rw [hK.2.2.2.1 (Or.inr (Or.inr h3))] at q1
    rwa [bi_t (by rw [kz_3 h3, q1])] at h
theorem s_isWord {t : Nat → Int} {n c : Nat} {w : Int} {M : Mem} {P : Int → Mem → Prop} (h0 : M 59 23 = 0) (hK : KR M t n c) (hw : w = 7 ∨ w = 8 ∨ w = 9) (h : P (bi (kz t n c = kwd w)) M) : CI m11_isWord 1 [(20, ((59 : Nat) : Int)), (0, w)] M P := by
  have hk : kz t n c = kwd w → tkS t n c = 0 ∧ tkV t n c = w := fun z => by
    by_cases s0 : tkS t n c = 0
    · refine ⟨s0, ?_⟩
      rw [kz_0 s0] at z
      have := tkV_0 s0
      unfold kwd at z
      rcases hw with rfl | rfl | rfl <;> · repeat' split at z
                                           all_goals first | omega | (revert z; decide)
    · exfalso
      by_cases s3 : tkS t n c = 3
      · rw [kz_3 s3] at z
        rcases tk3 s3 with y | y | y | y | y | y | y | y | y | y | y | y | y <;> rw [y] at z <;> rcases hw with rfl | rfl | rfl <;> revert z <;> decide
      · rw [kz_e s0 s3] at z
        rcases hw with rfl | rfl | rfl <;> revert z <;> decide
  apply q_11_isWord
  refine ⟨fun q => absurd h0 q, fun _ => ⟨fun q => ?_, fun q => ⟨fun q1 => ?_, fun q1 => ?_⟩⟩⟩
  · rwa [bi_f (fun z => q (by rw [hK.2.2.1, (hk z).1]; rfl))] at h
  · have s0 : tkS t n c = 0 := by have := hK.2.2.1; omega
    rw [hK.2.2.2.1 (Or.inl s0)] at q1
    rwa [bi_f (fun z => q1 (hk z).2)] at h
  · have s0 : tkS t n c = 0 := by have := hK.2.2.1; omega
    rw [hK.2.2.2.1 (Or.inl s0)] at q1
    rwa [bi_t (by rw [kz_0 s0, q1])] at h
/-- a FAULT, told -/
def RB (M : Mem) (f pl : Nat) : Prop := M 59 23 = (f : Int) ∧ M 59 24 = (pl : Int)
theorem s_wrongR {f pl : Nat} {M : Mem} {P : Mem → Prop} (h0 : M 59 23 = 0) (h20 : M 59 20 = (pl : Int)) (h : ∀ M', Fp exR M M' → RB M' f pl → P M') : CD m11_wrong 2 [(20, ((59 : Nat) : Int)), (0, (f : Int))] M P := by
  have f0 : Fp exR M M := Fp.rf
  apply q_11_wrong
  apply q_11_wrongAt
  rw [h20]
  refine ⟨fun _ => h _ ((f0.set (Or.inr (Or.inl ⟨rfl, Or.inl rfl⟩))).set (Or.inr (Or.inl ⟨rfl, Or.inr (Or.inl rfl)⟩))) ⟨?_, mset_s⟩, fun q => absurd h0 q⟩
  rw [mset_j (by decide), mset_s]
theorem s_knotR {op kn c : Nat} {ro : List Int} {t : Nat → Int} {n : Nat} {M : Mem} {P : Mem → Prop} (hR : RY M op kn ro) (hK : KR M t n c) (hk : kn ≤ 64) (hy : kn < 64 → ∀ M', Fp exR M M' → KR M' t n c → RY M' op (kn + 1) ro → P M') (hn : 64 ≤ kn → ∀ M', Fp exR M M' → RB M' 2 (tkP t n c) → P M') : CD m11_knot 3 [(20, ((59 : Nat) : Int))] M P := by
  obtain ⟨h1, h2, h3, h4, h5⟩ := hR
  have f0 : Fp exR M M := Fp.rf
  apply q_11_knot
  rw [h3, w_1 (i := kn) (by omega)]
  refine ⟨fun _ => ⟨fun q => hy (by omega) _ (f0.set (Or.inr (Or.inl ⟨rfl, Or.inr (Or.inr (Or.inr rfl))⟩))) (hK.fp (q := fun k j => k = 59 ∧ j = 28) (Fp.rf.set ⟨rfl, rfl⟩) (fun j _ _ => by omega)) ⟨?_, ?_, mset_s, ?_, ?_⟩, fun q => s_wrongR (f := 2) h1 hK.2.1 (fun M' hF hB => hn (by omega) M' hF hB)⟩, fun q => absurd h1 q⟩
  · rw [mset_j (by decide)]; exact h1
  · rw [mset_j (by decide)]; exact h2
  · rw [mset_k (by decide)]; exact h4
  · intro i hi; rw [mset_k (by decide), mset_k (by decide)]; exact h5 i hi
theorem s_putsR {op kn c : Nat} {ro : List Int} {x i v : Int} {t : Nat → Int} {n : Nat} {M : Mem} {P : Mem → Prop} (hR : RY M op kn ro) (hK : KR M t n c) (hl : ro.length < 64) (he : enc i v = x) (hv : kval i v) (h : ∀ M', Fp exR M M' → KR M' t n c → RY M' op kn (ro ++ [x]) → P M') : CD m11_puts 2 [(20, ((59 : Nat) : Int)), (0, i), (0, v)] M P := by
  obtain ⟨h1, h2, h3, h4, h5⟩ := hR
  have e64 : w32 (64 + (ro.length : Int)) = ((64 + ro.length : Nat) : Int) := by rw [w32_id (by omega) (by omega)]; omega
  have e9 : w32 (5 + 4) = ((9 : Nat) : Int) := by decide
  apply q_11_puts
  refine ⟨fun _ => ?_, fun q => absurd h1 q⟩
  apply q_11_fresher
  rw [e9, Int.toNat_natCast, h4, e64]
  refine ⟨by omega, by omega, ?_⟩
  apply q_11_fresher
  rw [e9, Int.toNat_natCast, Int.toNat_natCast, mset_k (by decide), h4, e64]
  refine ⟨by omega, by omega, ?_⟩
  apply q_11_oneMore
  rw [e9, Int.toNat_natCast, Int.toNat_natCast, mset_k (by decide), mset_k (by decide), h4, w_1 (i := ro.length) (by omega)]
  have el : (ro ++ [x]).length = ro.length + 1 := by rw [List.length_append]; rfl
  have f0 : Fp (fun k j => (k = 61 ∧ j = 9) ∨ ((k = 67 ∨ k = 68) ∧ 64 ≤ j)) M M := Fp.rf
  have f1 := ((f0.set (k := 67) (j := 64 + ro.length) (v := i) (Or.inr ⟨Or.inl rfl, by omega⟩)).set (k := 68) (j := 64 + ro.length) (v := v) (Or.inr ⟨Or.inr rfl, by omega⟩)).set (k := 61) (j := 9) (v := ((ro.length + 1 : Nat) : Int)) (Or.inl ⟨rfl, rfl⟩)
  refine ⟨by omega, by omega, h _ (f1.mono (fun k j q => Or.inr (Or.inr q))) (hK.fp f1 (fun j _ _ => by omega)) ⟨?_, ?_, ?_, ?_, ?_⟩⟩
  · rw [mset_k (by decide), mset_k (by decide), mset_k (by decide)]; exact h1
  · rw [mset_k (by decide), mset_k (by decide), mset_k (by decide)]; exact h2
  · rw [mset_k (by decide), mset_k (by decide), mset_k (by decide)]; exact h3
  · rw [mset_s, el]
  · intro u hu
    rw [getD_app hu]
    rw [el] at hu
    have g67 : ∀ y, mset (mset (mset M 67 (64 + ro.length) i) 68 (64 + ro.length) v) 61 9 ((ro.length + 1 : Nat) : Int) 67 y = mset M 67 (64 + ro.length) i 67 y := fun y => by rw [mset_k (by decide), mset_k (by decide)]
    have g68 : ∀ y, mset (mset (mset M 67 (64 + ro.length) i) 68 (64 + ro.length) v) 61 9 ((ro.length + 1 : Nat) : Int) 68 y = mset (mset M 67 (64 + ro.length) i) 68 (64 + ro.length) v 68 y := fun y => by rw [mset_k (by decide)]
    rw [g67, g68]
    by_cases q : u < ro.length
    · rw [if_pos q, mset_j (by omega), mset_j (by omega), mset_k (by decide)]; exact h5 u q
    · have e : u = ro.length := by omega
      subst e
      rw [if_neg q, mset_s, mset_s]
      exact ⟨he, hv⟩
theorem s_goOnR (hW : WordR) {op kn c e : Nat} {ro : List Int} {t : Nat → Int} {n : Nat} {M : Mem} {P : Mem → Prop} (hT : TRm M t n) (hR : RY M op kn ro) (hK : KR M t n c) (he : tkE t n c = e) (hen : e ≤ n) (h : ∀ M', Fp exR M M' → KR M' t n e → RY M' op kn ro → P M') : CD m11_goOn 4 [(20, ((59 : Nat) : Int))] M P := by
  apply q_11_goOn
  refine ⟨fun q => absurd hR.1 q, fun _ => ?_⟩
  apply s_token hW hT hen (by rw [hK.1, he]) hK.p
  intro M1 hF1 hK1
  exact h M1 (hF1.mono (fun k j q => Or.inl q)) hK1 (hR.fp hF1 (fun k j q => q))
/-! once there is a FAULT, an E does nothing more -/
theorem f_isWord {x : Int} {M : Mem} {P : Int → Mem → Prop} (h : M 59 23 ≠ 0) (hp : P 0 M) : CI m11_isWord 1 [(20, ((59 : Nat) : Int)), (0, x)] M P := by
  apply q_11_isWord
  exact ⟨fun _ => hp, fun q => absurd q h⟩
theorem f_isSign {x : Int} {M : Mem} {P : Int → Mem → Prop} (h : M 59 23 ≠ 0) (hp : P 0 M) : CI m11_isSign 1 [(20, ((59 : Nat) : Int)), (0, x)] M P := by
  apply q_11_isSign
  exact ⟨fun _ => hp, fun q => absurd q h⟩
theorem f_knot {M : Mem} {P : Mem → Prop} (h : M 59 23 ≠ 0) (hp : P M) : CD m11_knot 3 [(20, ((59 : Nat) : Int))] M P := by
  apply q_11_knot
  exact ⟨fun q => absurd q h, fun _ => hp⟩
theorem f_goOn {M : Mem} {P : Mem → Prop} (h : M 59 23 ≠ 0) (hp : P M) : CD m11_goOn 4 [(20, ((59 : Nat) : Int))] M P := by
  apply q_11_goOn
  exact ⟨fun _ => hp, fun q => absurd q h⟩
theorem f_puts {a b : Int} {M : Mem} {P : Mem → Prop} (h : M 59 23 ≠ 0) (hp : P M) : CD m11_puts 2 [(20, ((59 : Nat) : Int)), (0, a), (0, b)] M P := by
  apply q_11_puts
  exact ⟨fun q => absurd q h, fun _ => hp⟩
theorem f_primary {d : Nat} (hd : 10 ≤ d) {M : Mem} {P : Mem → Prop} (h : M 59 23 ≠ 0) (hp : P M) : CD m11_primary (d + 1) [(20, ((59 : Nat) : Int))] M P := by
  apply q_11_primary hd
  exact ⟨fun q => absurd q h, fun _ => hp⟩
theorem f_product {d : Nat} (hd : 11 ≤ d) {M : Mem} {P : Mem → Prop} (h : M 59 23 ≠ 0) (hp : P M) : CD m11_product (d + 1) [(20, ((59 : Nat) : Int))] M P := by
  obtain ⟨e, rfl⟩ : ∃ e, d = e + 1 := ⟨d - 1, by omega⟩
  apply q_11_product (by omega)
  apply f_primary (by omega) h
  apply r_11_product_4 (by omega)
  apply f_isSign h
  exact ⟨fun q => absurd rfl q, fun _ => f_isSign h ⟨fun _ => hp, fun q => absurd rfl q⟩⟩
theorem f_sum {d : Nat} (hd : 12 ≤ d) {M : Mem} {P : Mem → Prop} (h : M 59 23 ≠ 0) (hp : P M) : CD m11_sum (d + 1) [(20, ((59 : Nat) : Int))] M P := by
  obtain ⟨e, rfl⟩ : ∃ e, d = e + 1 := ⟨d - 1, by omega⟩
  apply q_11_sum (by omega)
  apply f_product (by omega) h
  apply r_11_sum_4 (by omega)
  apply f_isSign h
  exact ⟨fun q => absurd rfl q, fun _ => f_isSign h ⟨fun _ => hp, fun q => absurd rfl q⟩⟩
theorem f_negation {d : Nat} (hd : 13 ≤ d) {M : Mem} {P : Mem → Prop} (h : M 59 23 ≠ 0) (hp : P M) : CD m11_negation (d + 1) [(20, ((59 : Nat) : Int))] M P := by
  obtain ⟨e, rfl⟩ : ∃ e, d = e + 1 := ⟨d - 1, by omega⟩
  apply q_11_negation (by omega)
  apply f_isWord h
  exact ⟨fun _ => f_sum (by omega) h ⟨fun _ => hp, fun q => absurd q h⟩, fun q => absurd rfl q⟩
theorem f_conjunction {d : Nat} (hd : 14 ≤ d) {M : Mem} {P : Mem → Prop} (h : M 59 23 ≠ 0) (hp : P M) : CD m11_conjunction (d + 1) [(20, ((59 : Nat) : Int))] M P := by
  obtain ⟨e, rfl⟩ : ∃ e, d = e + 1 := ⟨d - 1, by omega⟩
  apply q_11_conjunction (by omega)
  apply f_negation (by omega) h
  apply r_11_conjunction_4 (by omega)
  apply f_isWord h
  exact ⟨fun _ => hp, fun q => absurd rfl q⟩
