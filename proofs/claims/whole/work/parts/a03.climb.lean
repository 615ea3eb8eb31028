/-! RISE in the class -/
def ovR (O : Nat → Nat → Nat → Bool) (r a b : Nat) : Bool := O (wR r) (plR r a) (plR r b)
def stR (O : Nat → Nat → Nat → Bool) (c r h : Nat) : Int := if ovR O r h c = true then 1 else if ovR O r c h = true then -1 else 0
def gapR (O : Nat → Nat → Nat → Bool) (pp c r h : Nat) : Nat := cnt (fun p => ovR O r p c && !ovR O r p h) pp
def rnm (O : Nat → Nat → Nat → Bool) (ag : Nat → Int) (pp c r h : Nat) : Nat → Int := fun i => if i = 7 then (gapR O pp c r h : Int) else nmv ag c h h (wR r : Int) (stR O c r h) (stR O c r h) 0 i
def mayR (rt : Bool) (O : Nat → Nat → Nat → Bool) (ag : Nat → Int) (pp : Nat) (C : Nat → Int) (Bg E : Nat → Nat) (c r h : Nat) : Bool :=
  if rt = true then (match rvv C Bg E 5 (rnm O ag pp c r h) with | some v => decide (v ≠ 0) | none => ovR O r h c) else ovR O r h c
theorem stR_bd (O : Nat → Nat → Nat → Bool) (c r h : Nat) : -1 ≤ stR O c r h ∧ stR O c r h ≤ 1 := by
  unfold stR; split
  · omega
  · split <;> omega
theorem rnm_ok {O : Nat → Nat → Nat → Bool} {ag : Nat → Int} {pp c r h : Nat} (hp : pp ≤ 5) : Nok (rnm O ag pp c r h) := by
  intro i hi
  have h1 := cnt_le (fun p => ovR O r p c && !ovR O r p h) pp
  have hw := wR_lt r
  have hs := stR_bd O c r h
  unfold rnm
  split
  · unfold gapR; omega
  · exact nmv_ok (by omega) hs hs (by omega) i hi
def RTC (M : Mem) (rt : Bool) (C : Nat → Int) (Bg E : Nat → Nat) : Prop := M 21 8 = (rt.toNat : Int) ∧ (rt = true → M 27 5 = (Bg 5 : Int) ∧ M 28 5 = (E 5 : Int) ∧ fok C Bg E 5)
def CK (M : Mem) (O : Nat → Nat → Nat → Bool) (c : Nat) : Prop := M 52 9 = (c : Int) ∧ ∀ s p, s < 4 → p < 5 → M 53 (8 * s + p) = (mk (O s p) : Int)
theorem s_placeOfC {r p : Nat} {M : Mem} {P : Int → Mem → Prop} (hp : p < 5) (h : P (plR r p : Int) M) : CI m1_placeOf 1 [(0, (sC r : Int)), (0, (p : Int))] M P := by
  apply q_1_placeOf
  rw [w8_val (by have := sC_lt r; omega) (by omega), sC_w8 r p hp]
  exact h
theorem s_seasonOfC {r : Nat} {M : Mem} {P : Int → Mem → Prop} (h : P (wR r : Int) M) : CI m1_seasonOf 1 [(0, (sC r : Int))] M P := by
  apply q_1_seasonOf
  have e : ishr (sC r : Int) ((15 : Nat) : Int) = ((sC r >>> 15 : Nat) : Int) := ishr_n (by have := sC_lt r; omega) (by omega)
  rw [Nat.shiftRight_eq_div_pow] at e
  have e' : ishr (sC r : Int) 15 = (wR r : Int) := e.trans (by rw [← sC_w r])
  rw [e']
  exact h
theorem s_isAboveC {O : Nat → Nat → Nat → Bool} {c r a b : Nat} {M : Mem} {P : Int → Mem → Prop} (hK : CK M O c) (ha : a < 5) (hb : b < 5) (h : P (bi (ovR O r a b = true)) M) : CI m1_isAbove 2 [(11, ((52 : Nat) : Int)), (0, (sC r : Int)), (0, (a : Int)), (0, (b : Int))] M P := by
  have a53 : ((aln 53 : Nat) : Int) = 32 := by decide
  have hw := wR_lt r
  have hpa := plR_lt r a
  have hpb := plR_lt r b
  apply q_1_isAbove
  apply s_seasonOfC
  apply s_placeOfC ha
  have e : w32 (w32 ((wR r : Int) * 8) + (plR r a : Int)) = ((8 * wR r + plR r a : Nat) : Int) := by
    rw [w32_id (z := (wR r : Int) * 8) (by omega) (by omega), w32_id (by omega) (by omega)]; omega
  rw [e]
  apply s_at (by omega) (by omega)
  rw [Int.toNat_natCast, hK.2 _ _ hw hpa]
  apply s_placeOfC hb
  rw [bit_24 (by have := mk_lt (O (wR r) (plR r a)); omega) (by omega), mk_test (by omega)]
  unfold ovR at h
  refine ⟨fun q => ?_, fun q => ?_⟩
  · rwa [bi_f (fun z => by rw [z] at q; exact q rfl)] at h
  · rwa [bi_t (tn1 (by omega))] at h
theorem s_gapTo {O : Nat → Nat → Nat → Bool} {pp c r h : Nat} {M : Mem} {P : Int → Mem → Prop} (hp : pp ≤ 5) (hK : CK M O c) (hc : c < pp) (hh : h < pp) (hP : P (gapR O pp c r h : Int) M) : CI m1_gapTo 3 [(11, ((52 : Nat) : Int)), (0, (sC r : Int)), (0, (h : Int)), (0, (pp : Int))] M P := by
  apply q_1_gapTo
  unfold gapR at hP
  refine loop_up (Inv := fun k M1 => M1 = M) (G := fun k M1 => A m1_gapTo 3 0 6 [(11, ((52 : Nat) : Int)), (0, (sC r : Int)), (0, (h : Int)), (0, (pp : Int)), (0, (cnt (fun p => ovR O r p c && !ovR O r p h) k : Int)), (0, (k : Int))] [] M1 (Ki P)) pp ?_ ?_ 0 M (by omega) rfl
  · rintro M1 rfl
    apply r_1_gapTo_6
    exact ⟨fun _ => hP, fun q => by omega⟩
  · rintro k M1 hk rfl ih
    have hle := cnt_le (fun p => ovR O r p c && !ovR O r p h) k
    apply r_1_gapTo_6
    rw [hK.1, w_1 (i := k) (by omega), w_1 (i := cnt (fun p => ovR O r p c && !ovR O r p h) k) (by omega)]
    refine ⟨fun q => by omega, fun _ => ?_⟩
    apply s_isAboveC hK (by omega) (by omega)
    refine ⟨fun q => ?_, fun q => ?_⟩
    · rw [cnt_n (by
        cases z : ovR O r k c with
        | false => rfl
        | true => exact absurd z (bi_eq q))] at ih
      exact ih M1 rfl
    · have q := bi_ne q
      apply s_isAboveC hK (by omega) (by omega)
      refine ⟨fun q1 => ?_, fun q1 => ?_⟩
      · rw [cnt_n (by rw [bi_ne q1, q]; rfl)] at ih
        exact ih M1 rfl
      · rw [cnt_y (by
          cases z : ovR O r k h with
          | false => rw [q]; rfl
          | true => exact absurd z (bi_eq q1))] at ih
        exact ih M1 rfl
def n58 (k _j : Nat) : Prop := k = 58 ∨ k = 29
theorem s_mayChange {pp n nf : Nat} {s : Int} {F : FTab} {ag C : Nat → Int} {Bg E : Nat → Nat} {rt : Bool} {O : Nat → Nat → Nat → Bool} {c r h : Nat} {M : Mem} {P : Int → Mem → Prop} (hS : SC M pp n s nf F ag C Bg E) (hp : pp ≤ 5) (hR : RTC M rt C Bg E) (hK : CK M O c) (hc : c < pp) (hh : h < pp)
    (hP : ∀ M', Fp n58 M M' → P (bi (mayR rt O ag pp C Bg E c r h = true)) M') : CI m1_mayChange 5 [(11, ((52 : Nat) : Int)), (10, ((21 : Nat) : Int)), (0, (sC r : Int)), (0, (h : Int))] M P := by
  have a23 : ((aln 23 : Nat) : Int) = 5 := by decide
  have a58 : ((aln 58 : Nat) : Int) = 8 := by decide
  have hbk := hS.2.2.1
  have hag := hS.2.2.2.1
  have hw := wR_lt r
  apply q_1_mayChange
  rw [hK.1]
  apply s_isAboveC hK (by omega) (by omega)
  cases hrt : rt with
  | false =>
    rw [hR.1, hrt]
    refine ⟨fun q => absurd rfl q, fun _ => ⟨?_, ?_⟩⟩
    · have := bi_01 (ovR O r h c = true); omega
    · have := hP M Fp.rf
      unfold mayR at this
      rwa [if_neg (by rw [hrt]; decide)] at this
  | true =>
    rw [hR.1, hrt]
    refine ⟨fun _ => ?_, fun q => by cases q⟩
    obtain ⟨r5, r6, r7⟩ := hR.2 hrt
    unfold mayR at hP
    rw [if_pos hrt] at hP
    have leaf : ∀ M1, Fp n58 M M1 → (∀ i, i < 7 → M1 58 i = rnm O ag pp c r h i) → CI m1_gapTo 3 [(11, ((52 : Nat) : Int)), (0, (sC r : Int)), (0, (h : Int)), (0, (M1 21 2))] M1 (fun r49 M50 => (CD m10_put 1 [(30, ((58 : Nat) : Int)), (0, 7), (0, r49)] M50 (fun M53 => (CL m3_work 4 [(13, ((25 : Nat) : Int)), (0, 5), (30, ((58 : Nat) : Int))] M53 (fun r55 M56 => ((r55 ≠ (-9223372036854775808) → ((r55 = 0 → (P 0 M56)) ∧ (r55 ≠ 0 → (P 1 M56)))) ∧ (r55 = (-9223372036854775808) → ((bi (ovR O r h c = true) = 0 ∨ bi (ovR O r h c = true) = 1) ∧ P (bi (ovR O r h c = true)) M56)))))))) := by
      intro M1 hF hN
      have e2 : ∀ k, k ≠ 58 → k ≠ 29 → M1 k = M k := fun k z1 z2 => hF.row (fun j => by unfold n58; omega)
      rw [show M1 21 2 = (pp : Int) by rw [e2 21 (by omega) (by omega)]; exact hS.1]
      refine s_gapTo (O := O) (c := c) hp ?_ hc hh ?_
      · unfold CK
        rw [e2 52 (by omega) (by omega), e2 53 (by omega) (by omega)]
        exact hK
      · apply s_put (by omega) (by omega)
        have hN8 : ∀ i, i < 8 → mset M1 58 (7 : Int).toNat (gapR O pp c r h : Int) 58 i = rnm O ag pp c r h i := fun i hi => by
          show mset M1 58 7 _ 58 i = _
          by_cases z : i = 7
          · subst z; rw [mset_s]; rfl
          · rw [mset_j z]; exact hN i (by omega)
        have hb := hbk.2.2.2
        have hFs : Fp n58 M (mset M1 58 (7 : Int).toNat (gapR O pp c r h : Int)) := hF.set (Or.inl rfl)
        generalize mset M1 58 (7 : Int).toNat (gapR O pp c r h : Int) = M2 at hN8 hFs
        have e3 : ∀ k, k ≠ 58 → k ≠ 29 → M2 k = M k := fun k z1 z2 => hFs.row (fun j => by unfold n58; omega)
        have hC : M2 (25 + 1) = C := by rw [e3 26 (by omega) (by omega)]; exact hb.1
        refine s_work (o := 25) (p := 58) (j := 5) (b := Bg 5) (e := E 5) ⟨rfl, rfl, rfl, rfl⟩ rfl (by omega) (by omega) (by rw [e3 27 (by omega) (by omega)]; exact r5) (by rw [e3 28 (by omega) (by omega)]; exact r6) r7.1 r7.2.1 (by rw [hC]; exact r7.2.2) (fun i hi => by rw [hN8 i hi]; exact rnm_ok hp i hi) ?_
        intro M3 hF3
        rw [hC, evl_congr (N' := rnm O ag pp c r h) hN8 _ _ [] 1 r7.2.2]
        have h' := hP M3 (hFs.tr (fun k j q => by rw [hF3 k (fun z => q (Or.inr z))]))
        unfold rvv at h'
        have hbd : ∀ v, rv (evl C (rnm O ag pp c r h) (Bg 5) (E 5 - Bg 5) []) = some v → -1000000000000 ≤ v ∧ v ≤ 1000000000000 := fun v hv => rvv_bd (rnm_ok hp) r7.2.2 hv
        generalize rv (evl C (rnm O ag pp c r h) (Bg 5) (E 5 - Bg 5) []) = res at h' hbd
        cases res with
        | none =>
          show (_ ∧ _)
          refine ⟨fun q => absurd rfl q, fun _ => ⟨?_, h'⟩⟩
          have := bi_01 (ovR O r h c = true); omega
        | some v =>
          have := hbd v rfl
          show (_ ∧ _)
          have h' : P (bi (decide (v ≠ 0) = true)) M3 := h'
          refine ⟨fun _ => ⟨fun q => ?_, fun q => ?_⟩, fun q => by
            have q : v = -9223372036854775808 := q
            omega⟩
          · have q : v = 0 := q
            rwa [bi_f (by rw [q]; decide)] at h'
          · have q : v ≠ 0 := q
            rwa [bi_t (decide_eq_true q)] at h'
    have tail : ∀ v : Int, v = stR O c r h → ∀ v3 : Int, v3 = bi (ag c < ag h) → (∀ i, i < 7 → (mset (mset (mset (mset (mset (mset (mset M 58 0 v) 58 1 v) 58 2 0) 58 3 v3) 58 4 0) 58 5 (wR r : Int)) 58 6 1) 58 i = rnm O ag pp c r h i) := by
      rintro v rfl v3 rfl i hi
      unfold rnm
      rw [if_neg (by omega)]
      match i, hi with
      | 0, _ => simp [mset, nmv]
      | 1, _ => simp [mset, nmv]
      | 2, _ => simp [mset, nmv]
      | 3, _ => simp [mset, nmv]
      | 4, _ => simp [mset, nmv]; exact (bi_f (fun z => z)).symm
      | 5, _ => simp [mset, nmv]
      | 6, _ => simp [mset, nmv]; exact (bi_t trivial).symm
    have hFt : ∀ v v3 : Int, Fp n58 M (mset (mset (mset (mset (mset (mset (mset M 58 0 v) 58 1 v) 58 2 0) 58 3 v3) 58 4 0) 58 5 (wR r : Int)) 58 6 1) := fun v v3 => ((((((Fp.rf.set (Or.inl rfl)).set (Or.inl rfl)).set (Or.inl rfl)).set (Or.inl rfl)).set (Or.inl rfl)).set (Or.inl rfl)).set (Or.inl rfl)
    rw [hK.1]
    apply s_isAboveC hK (by omega) (by omega)
    have hne : (23 : Nat) ≠ 58 ∧ (52 : Nat) ≠ 58 := by decide
    refine ⟨fun q1 => ⟨fun q2 => ?_, fun q2 => ?_⟩, fun q1 => ?_⟩ <;>
    · apply s_put (by omega) (by omega)
      apply s_put (by omega) (by omega)
      apply s_put (by omega) (by omega)
      apply s_at (by omega) (by omega)
      simp only [mset_k hne.2, hK.1]
      apply s_at (by omega) (by omega)
      simp only [mset_k hne.1, Int.toNat_natCast, hag h hh, hag c hc]
      refine ⟨fun q3 => ?_, fun q3 => ?_⟩ <;>
      · apply s_put (by omega) (by omega)
        apply s_put (by omega) (by omega)
        apply s_seasonOfC
        apply s_put (by omega) (by omega)
        apply s_put (by omega) (by omega)
        refine leaf _ (hFt _ _) (tail _ ?_ _ ?_)
        · unfold stR
          first
          | rw [if_pos (bi_ne q1)]
          | (rw [if_neg (bi_eq q1)]; first | rw [if_pos (bi_ne q2)] | rw [if_neg (bi_eq q2)])
        · first
          | exact (bi_f (by omega)).symm
          | exact (bi_t (by omega)).symm
