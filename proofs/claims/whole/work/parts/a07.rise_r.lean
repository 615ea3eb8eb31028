/-! RISE in the reference: one state -/
def RTR (M : Mem) (rt : Bool) (C : Nat → Int) (Bg E : Nat → Nat) : Prop := (rt = false → M 66 5 = M 65 5) ∧ (rt = true → M 65 5 = (Bg 5 : Int) ∧ M 66 5 = (E 5 : Int) ∧ fok C Bg E 5 ∧ ∀ i, Bg 5 ≤ i → i < E 5 → C i = enc (M 67 i) (M 68 i) ∧ kval (M 67 i) (M 68 i))
/-- where each stands, and all ORDERs by season -/
def PLm (M : Mem) (pl : Nat → Nat) : Prop := ∀ p, p < 5 → M 92 p = (pl p : Int)
def SEm (M : Mem) (O : Nat → Nat → Nat → Bool) : Prop := ∀ w a b, w < 4 → a < 5 → b < 5 → M 88 (25 * w + (5 * a + b)) = ((O w a b).toNat : Int)
theorem s_isOverR {O : Nat → Nat → Nat → Bool} {r a b : Nat} {M : Mem} {P : Int → Mem → Prop} (hP : PLm M (plR r)) (hO : SEm M O) (ha : a < 5) (hb : b < 5) (h : P (bi (ovR O r a b = true)) M) : CI m11_isOver 2 [(20, ((59 : Nat) : Int)), (0, (a : Int)), (0, (b : Int)), (0, (wR r : Int))] M P := by
  have pa := plR_lt r a
  have pb := plR_lt r b
  have hw := wR_lt r
  apply q_11_isOver
  rw [Int.toNat_natCast, Int.toNat_natCast, hP a ha, hP b hb]
  refine ⟨by omega, by omega, ?_⟩
  apply s_pair (by omega) (by omega)
  have e : w32 (w32 (25 * (wR r : Int)) + ((5 * plR r a + plR r b : Nat) : Int)) = ((25 * wR r + (5 * plR r a + plR r b) : Nat) : Int) := by
    rw [w32_id (z := 25 * (wR r : Int)) (by omega) (by omega), w32_id (by omega) (by omega)]; omega
  rw [e, Int.toNat_natCast, hO _ _ _ hw pa pb]
  unfold ovR at h
  refine ⟨by omega, ?_, ?_⟩
  · cases O (wR r) (plR r a) (plR r b) <;> simp
  · cases z : O (wR r) (plR r a) (plR r b) with
    | false => rw [z, bi_f (by decide)] at h; exact h
    | true => rw [z, bi_t rfl] at h; exact h
def mrset (k j : Nat) : Prop := gset k j ∨ k = 77
theorem s_mayRise {pp n nf : Nat} {s : Int} {F : FTab} {ag C : Nat → Int} {Bg E : Nat → Nat} {rt : Bool} {O : Nat → Nat → Nat → Bool} {c r h : Nat} {M : Mem} {P : Int → Mem → Prop} (hS : SR M pp n s nf F ag C Bg E) (hp : pp ≤ 5) (hR : RTR M rt C Bg E) (hP : PLm M (plR r)) (hO : SEm M O) (hc : c < pp) (hh : h < pp)
    (hQ : ∀ M', Fp mrset M M' → P (bi (mayR rt O ag pp C Bg E c r h = true)) M') : CI m11_mayRise 4 [(20, ((59 : Nat) : Int)), (0, (c : Int)), (0, (h : Int)), (0, (wR r : Int))] M P := by
  have hag := hS.2.2.2.1
  have hw := wR_lt r
  have tail : A m11_mayRise 4 0 37 [(20, ((59 : Nat) : Int)), (0, (c : Int)), (0, (h : Int)), (0, (wR r : Int)), (0, stR O c r h), (0, 0), (0, 0)] [] M (Ki P) := by
    refine loop_up (Inv := fun k M1 => M1 = M) (G := fun k M1 => A m11_mayRise 4 0 37 [(20, ((59 : Nat) : Int)), (0, (c : Int)), (0, (h : Int)), (0, (wR r : Int)), (0, stR O c r h), (0, (cnt (fun p => ovR O r p c && !ovR O r p h) k : Int)), (0, (k : Int))] [] M1 (Ki P)) pp ?_ ?_ 0 M (by omega) rfl
    · rintro M1 rfl
      apply r_11_mayRise_37
      rw [hS.1]
      refine ⟨fun _ => ?_, fun q => by omega⟩
      apply s_calls (by omega) (by omega) (by omega)
      intro M2 hF2 hN2
      have hN3 : ∀ i, i < 8 → mset M2 77 7 (cnt (fun p => ovR O r p c && !ovR O r p h) pp : Int) 77 i = rnm O ag pp c r h i := fun i hi => by
        unfold rnm
        by_cases z : i = 7
        · subst z; rw [mset_s, if_pos rfl]; rfl
        · rw [mset_j z, hN2 i hi, if_neg z, nmv_ag (hag c hc) (hag h hh) (hag h hh)]
      have hF3 : Fp mrset M1 (mset M2 77 7 (cnt (fun p => ovR O r p c && !ovR O r p h) pp : Int)) := (hF2.mono (fun k j q => Or.inr q)).set (Or.inr rfl)
      generalize mset M2 77 7 (cnt (fun p => ovR O r p c && !ovR O r p h) pp : Int) = M3 at hN3 hF3
      have e6 : ∀ k, 61 ≤ k → k ≤ 68 → M3 k = M1 k := fun k z1 z2 => hF3.row (fun j => by unfold mrset gset; omega)
      have hst : stR O c r h = 1 ↔ ovR O r h c = true := by
        unfold stR
        by_cases z : ovR O r h c = true
        · rw [if_pos z]; exact ⟨fun _ => z, fun _ => rfl⟩
        · rw [if_neg z]
          refine ⟨fun q => ?_, fun q => absurd q z⟩
          split at q <;> omega
      have alone : ovR O r h c = mayR rt O ag pp C Bg E c r h → ∀ M4, Fp mrset M1 M4 → (stR O c r h ≠ 1 → P 0 M4) ∧ (stR O c r h = 1 → P 1 M4) := fun e M4 hF4 => by
        have h' := hQ M4 hF4
        rw [← e] at h'
        refine ⟨fun q => ?_, fun q => ?_⟩
        · rwa [bi_f (fun z => q (hst.mpr z))] at h'
        · rwa [bi_t (hst.mp q)] at h'
      rw [e6 65 (by omega) (by omega), e6 66 (by omega) (by omega)]
      cases hrt : rt with
      | false =>
        refine ⟨fun _ => alone ?_ M3 hF3, fun q => absurd (hR.1 hrt) q⟩
        unfold mayR; rw [if_neg (by rw [hrt]; decide)]
      | true =>
        obtain ⟨r5, r6, r7, r8⟩ := hR.2 hrt
        have hlt : Bg 5 < E 5 := by
          have h1 := r7.1
          rcases Nat.lt_or_ge (Bg 5) (E 5) with z | z
          · exact z
          · exfalso
            have h2 := r7.2.2
            rw [show E 5 - Bg 5 = 0 by omega] at h2
            cases h2
        rw [r5, r6]
        refine ⟨fun q => by omega, fun _ => ?_⟩
        have hmay : mayR rt O ag pp C Bg E c r h = (match rvv C Bg E 5 (rnm O ag pp c r h) with | some v => decide (v ≠ 0) | none => ovR O r h c) := by
          unfold mayR; rw [if_pos hrt]; rfl
        have hev : evl C (M3 77) (Bg 5) (E 5 - Bg 5) [] = evl C (rnm O ag pp c r h) (Bg 5) (E 5 - Bg 5) [] := evl_congr hN3 _ _ [] 1 r7.2.2
        refine s_goes (j := 5) (b := Bg 5) (e := E 5) (C := C) (by omega) (by rw [e6 65 (by omega) (by omega)]; exact r5) (by rw [e6 66 (by omega) (by omega)]; exact r6) r7.1 r7.2.1 (by rw [e6 67 (by omega) (by omega), e6 68 (by omega) (by omega)]; exact r8) r7.2.2 (fun i hi => by rw [hN3 i hi]; exact rnm_ok hp i hi) ?_ ?_
        · intro v hv M4 hF4 h78
          rw [hev] at hv
          have h' := hQ M4 (hF3.tr (hF4.mono (fun k j q => Or.inl q)))
          rw [hmay] at h'
          unfold rvv at h'
          rw [hv] at h'
          have h' : P (bi (decide (v ≠ 0) = true)) M4 := h'
          rw [h78]
          refine ⟨fun _ => ⟨fun q => ?_, fun q => ?_⟩, fun q => by cases q⟩
          · rwa [bi_f (by rw [q]; decide)] at h'
          · rwa [bi_t (decide_eq_true q)] at h'
        · intro hv M4 hF4
          rw [hev] at hv
          refine ⟨fun q => absurd rfl q, fun _ => alone ?_ M4 (hF3.tr (hF4.mono (fun k j q => Or.inl q)))⟩
          rw [hmay]
          unfold rvv
          rw [hv]
    · rintro k M1 hk rfl ih
      have hle := cnt_le (fun p => ovR O r p c && !ovR O r p h) k
      apply r_11_mayRise_37
      rw [hS.1, w_1 (i := k) (by omega), w_1 (i := cnt (fun p => ovR O r p c && !ovR O r p h) k) (by omega)]
      have e0 : w32 ((cnt (fun p => ovR O r p c && !ovR O r p h) k : Int) + 0) = (cnt (fun p => ovR O r p c && !ovR O r p h) k : Int) := by rw [w32_id (by omega) (by omega)]; omega
      rw [e0]
      refine ⟨fun q => by omega, fun _ => ?_⟩
      apply s_isOverR hP hO (by omega) (by omega)
      refine ⟨fun q => ?_, fun q => ?_⟩
      · rw [cnt_n (by
          cases z : ovR O r k c with
          | false => rfl
          | true => exact absurd z (bi_eq q))] at ih
        exact ih M1 rfl
      · have q := bi_ne q
        apply s_isOverR hP hO (by omega) (by omega)
        refine ⟨fun q1 => ?_, fun q1 => ?_⟩
        · rw [cnt_n (by rw [bi_ne q1, q]; rfl)] at ih
          exact ih M1 rfl
        · rw [cnt_y (by
            cases z : ovR O r k h with
            | false => rw [q]; rfl
            | true => exact absurd z (bi_eq q1))] at ih
          exact ih M1 rfl
  apply q_11_mayRise
  apply s_isOverR hP hO (by omega) (by omega)
  unfold stR at tail
  refine ⟨fun q => ?_, fun q => ?_⟩
  · rw [if_neg (bi_eq q)] at tail
    apply s_isOverR hP hO (by omega) (by omega)
    refine ⟨fun q1 => ?_, fun q1 => ?_⟩
    · rwa [if_neg (bi_eq q1)] at tail
    · rwa [if_pos (bi_ne q1)] at tail
  · rwa [if_pos (bi_ne q)] at tail
