/-! CourtTongue: its regions (made by wip/whole/gall.py) -/
theorem q_10_at {p0 : Nat} {x1 : Int} {M : Mem} {P : Int → Mem → Prop} (h : ((x1 < 0 → (P 0 M)) ∧ (0 ≤ x1 → ((((aln p0 : Nat) : Int) ≤ x1 → (P 0 M)) ∧ (x1 < ((aln p0 : Nat) : Int) → ((0 ≤ x1 ∧ x1 < ((aln p0 : Nat) : Int)) ∧ (P (M p0 (x1).toNat) M))))))) : CI m10_at 1 [(30, (p0 : Int)), (0, x1)] M P := by
  refine CI_of (by decide +kernel) (Nat.le_of_ble_eq_true rfl) ?_
  show A m10_at 1 0 0 [(30, (p0 : Int)), (0, x1)] [] M (Ki P)
  refine A_iload_n (i := 1) (f := 1) rfl (by decide +kernel) rfl ?_
  refine A_if_lt (off := 15) (tgt := 16) (by decide +kernel) (by omega) (fun b1 => ?_) (fun b1 => ?_)
  · have h2 := h.1 b1
    refine A_iconst (a := 0) (by decide +kernel) (by unfold in32; omega) ?_
    exact A_ret ⟨by decide +kernel, Or.inl rfl⟩ ⟨_, rfl, h2⟩
  · have h3 := h.2 (Int.not_lt.mp b1)
    refine A_iload_n (i := 1) (f := 1) rfl (by decide +kernel) rfl ?_
    refine A_aload_n (i := 0) (f := 0) (by omega) rfl (by decide +kernel) rfl ?_
    refine B_alen (v := ((aln p0 : Nat) : Int)) (by decide +kernel) (by decide) rfl ?_
    refine A_ic_ge (off := 9) (tgt := 16) (by decide +kernel) (by omega) (fun b4 => ?_) (fun b4 => ?_)
    · have h5 := h3.1 b4
      refine A_iconst (a := 0) (by decide +kernel) (by unfold in32; omega) ?_
      exact A_ret ⟨by decide +kernel, Or.inl rfl⟩ ⟨_, rfl, h5⟩
    · have h6 := h3.2 (Int.not_le.mp b4)
      refine A_aload_n (i := 0) (f := 0) (by omega) rfl (by decide +kernel) rfl ?_
      refine A_iload_n (i := 1) (f := 1) rfl (by decide +kernel) rfl ?_
      refine B_iald (v := (M p0 (x1).toNat)) (by decide +kernel) h6.1 rfl ?_
      have h7 := h6.2
      refine A_goto (off := 4) (tgt := 17) (by decide +kernel) (by omega) ?_
      exact A_ret ⟨by decide +kernel, Or.inl rfl⟩ ⟨_, rfl, h7⟩
theorem q_10_at_t {p0 : Nat} {x1 : Int} {M : Mem} {P : Int → Mem → Prop} (h : ((x1 < 0 → (P 0 M)) ∧ (0 ≤ x1 → ((((aln p0 : Nat) : Int) ≤ x1 → (P 0 M)) ∧ (x1 < ((aln p0 : Nat) : Int) → ((0 ≤ x1 ∧ x1 < ((aln p0 : Nat) : Int)) ∧ (P (M p0 (x1).toNat) M))))))) : CI m10_at 1 [(34, (p0 : Int)), (0, x1)] M P := by
  refine CI_of (by decide +kernel) (Nat.le_of_ble_eq_true rfl) ?_
  show A m10_at 1 0 0 [(34, (p0 : Int)), (0, x1)] [] M (Ki P)
  refine A_iload_n (i := 1) (f := 1) rfl (by decide +kernel) rfl ?_
  refine A_if_lt (off := 15) (tgt := 16) (by decide +kernel) (by omega) (fun b1 => ?_) (fun b1 => ?_)
  · have h2 := h.1 b1
    refine A_iconst (a := 0) (by decide +kernel) (by unfold in32; omega) ?_
    exact A_ret ⟨by decide +kernel, Or.inl rfl⟩ ⟨_, rfl, h2⟩
  · have h3 := h.2 (Int.not_lt.mp b1)
    refine A_iload_n (i := 1) (f := 1) rfl (by decide +kernel) rfl ?_
    refine A_aload_n (i := 0) (f := 0) (by omega) rfl (by decide +kernel) rfl ?_
    refine B_talen (v := ((aln p0 : Nat) : Int)) (by decide +kernel) rfl ?_
    refine A_ic_ge (off := 9) (tgt := 16) (by decide +kernel) (by omega) (fun b4 => ?_) (fun b4 => ?_)
    · have h5 := h3.1 b4
      refine A_iconst (a := 0) (by decide +kernel) (by unfold in32; omega) ?_
      exact A_ret ⟨by decide +kernel, Or.inl rfl⟩ ⟨_, rfl, h5⟩
    · have h6 := h3.2 (Int.not_le.mp b4)
      refine A_aload_n (i := 0) (f := 0) (by omega) rfl (by decide +kernel) rfl ?_
      refine A_iload_n (i := 1) (f := 1) rfl (by decide +kernel) rfl ?_
      refine B_tald (v := (M p0 (x1).toNat)) (by decide +kernel) h6.1 rfl ?_
      have h7 := h6.2
      refine A_goto (off := 4) (tgt := 17) (by decide +kernel) (by omega) ?_
      exact A_ret ⟨by decide +kernel, Or.inl rfl⟩ ⟨_, rfl, h7⟩
theorem q_10_put {p0 : Nat} {x1 : Int} {x2 : Int} {M : Mem} {P : Mem → Prop} (h : ((x1 < 0 → (P M)) ∧ (0 ≤ x1 → ((((aln p0 : Nat) : Int) ≤ x1 → (P M)) ∧ (x1 < ((aln p0 : Nat) : Int) → ((0 ≤ x1 ∧ x1 < ((aln p0 : Nat) : Int)) ∧ (P (mset M p0 (x1).toNat x2)))))))) : CD m10_put 1 [(30, (p0 : Int)), (0, x1), (0, x2)] M P := by
  refine CD_of (by decide +kernel) (Nat.le_of_ble_eq_true rfl) ?_
  show A m10_put 1 0 0 [(30, (p0 : Int)), (0, x1), (0, x2)] [] M (Kd P)
  refine A_iload_n (i := 1) (f := 1) rfl (by decide +kernel) rfl ?_
  refine A_if_lt (off := 13) (tgt := 14) (by decide +kernel) (by omega) (fun b1 => ?_) (fun b1 => ?_)
  · have h2 := h.1 b1
    exact A_ret ⟨by decide +kernel, rfl⟩ ⟨rfl, h2⟩
  · have h3 := h.2 (Int.not_lt.mp b1)
    refine A_iload_n (i := 1) (f := 1) rfl (by decide +kernel) rfl ?_
    refine A_aload_n (i := 0) (f := 0) (by omega) rfl (by decide +kernel) rfl ?_
    refine B_alen (v := ((aln p0 : Nat) : Int)) (by decide +kernel) (by decide) rfl ?_
    refine A_ic_ge (off := 7) (tgt := 14) (by decide +kernel) (by omega) (fun b4 => ?_) (fun b4 => ?_)
    · have h5 := h3.1 b4
      exact A_ret ⟨by decide +kernel, rfl⟩ ⟨rfl, h5⟩
    · have h6 := h3.2 (Int.not_le.mp b4)
      refine A_aload_n (i := 0) (f := 0) (by omega) rfl (by decide +kernel) rfl ?_
      refine A_iload_n (i := 1) (f := 1) rfl (by decide +kernel) rfl ?_
      refine A_iload_n (i := 2) (f := 2) rfl (by decide +kernel) rfl ?_
      refine B_iast (M' := (mset M p0 (x1).toNat x2)) (by decide +kernel) h6.1 rfl ?_
      have h7 := h6.2
      exact A_ret ⟨by decide +kernel, rfl⟩ ⟨rfl, h7⟩
theorem q_10_longAt {p0 : Nat} {x1 : Int} {M : Mem} {P : Int → Mem → Prop} (h : ((x1 < 0 → (P 0 M)) ∧ (0 ≤ x1 → ((((aln p0 : Nat) : Int) ≤ x1 → (P 0 M)) ∧ (x1 < ((aln p0 : Nat) : Int) → ((0 ≤ x1 ∧ x1 < ((aln p0 : Nat) : Int)) ∧ (P (M p0 (x1).toNat) M))))))) : CL m10_longAt 1 [(32, (p0 : Int)), (0, x1)] M P := by
  refine CL_of (by decide +kernel) (Nat.le_of_ble_eq_true rfl) ?_
  show A m10_longAt 1 0 0 [(32, (p0 : Int)), (0, x1)] [] M (Kl P)
  refine A_iload_n (i := 1) (f := 1) rfl (by decide +kernel) rfl ?_
  refine A_if_lt (off := 15) (tgt := 16) (by decide +kernel) (by omega) (fun b1 => ?_) (fun b1 => ?_)
  · have h2 := h.1 b1
    refine A_lconst (n := 0) (a := 0) (by decide +kernel) (by unfold in64; omega) (by decide +kernel) ?_
    exact A_ret ⟨by decide +kernel, rfl⟩ ⟨_, rfl, h2⟩
  · have h3 := h.2 (Int.not_lt.mp b1)
    refine A_iload_n (i := 1) (f := 1) rfl (by decide +kernel) rfl ?_
    refine A_aload_n (i := 0) (f := 0) (by omega) rfl (by decide +kernel) rfl ?_
    refine B_alen (v := ((aln p0 : Nat) : Int)) (by decide +kernel) (by decide) rfl ?_
    refine A_ic_ge (off := 9) (tgt := 16) (by decide +kernel) (by omega) (fun b4 => ?_) (fun b4 => ?_)
    · have h5 := h3.1 b4
      refine A_lconst (n := 0) (a := 0) (by decide +kernel) (by unfold in64; omega) (by decide +kernel) ?_
      exact A_ret ⟨by decide +kernel, rfl⟩ ⟨_, rfl, h5⟩
    · have h6 := h3.2 (Int.not_le.mp b4)
      refine A_aload_n (i := 0) (f := 0) (by omega) rfl (by decide +kernel) rfl ?_
      refine A_iload_n (i := 1) (f := 1) rfl (by decide +kernel) rfl ?_
      refine B_lald (v := (M p0 (x1).toNat)) (by decide +kernel) h6.1 rfl ?_
      have h7 := h6.2
      refine A_goto (off := 4) (tgt := 17) (by decide +kernel) (by omega) ?_
      exact A_ret ⟨by decide +kernel, rfl⟩ ⟨_, rfl, h7⟩
theorem q_10_putLong {p0 : Nat} {x1 : Int} {x2 : Int} {M : Mem} {P : Mem → Prop} (h : ((x1 < 0 → (P M)) ∧ (0 ≤ x1 → ((((aln p0 : Nat) : Int) ≤ x1 → (P M)) ∧ (x1 < ((aln p0 : Nat) : Int) → ((0 ≤ x1 ∧ x1 < ((aln p0 : Nat) : Int)) ∧ (P (mset M p0 (x1).toNat x2)))))))) : CD m10_putLong 1 [(32, (p0 : Int)), (0, x1), (1, x2)] M P := by
  refine CD_of (by decide +kernel) (Nat.le_of_ble_eq_true rfl) ?_
  show A m10_putLong 1 0 0 [(32, (p0 : Int)), (0, x1), (1, x2), (2, 0)] [] M (Kd P)
  refine A_iload_n (i := 1) (f := 1) rfl (by decide +kernel) rfl ?_
  refine A_if_lt (off := 13) (tgt := 14) (by decide +kernel) (by omega) (fun b1 => ?_) (fun b1 => ?_)
  · have h2 := h.1 b1
    exact A_ret ⟨by decide +kernel, rfl⟩ ⟨rfl, h2⟩
  · have h3 := h.2 (Int.not_lt.mp b1)
    refine A_iload_n (i := 1) (f := 1) rfl (by decide +kernel) rfl ?_
    refine A_aload_n (i := 0) (f := 0) (by omega) rfl (by decide +kernel) rfl ?_
    refine B_alen (v := ((aln p0 : Nat) : Int)) (by decide +kernel) (by decide) rfl ?_
    refine A_ic_ge (off := 7) (tgt := 14) (by decide +kernel) (by omega) (fun b4 => ?_) (fun b4 => ?_)
    · have h5 := h3.1 b4
      exact A_ret ⟨by decide +kernel, rfl⟩ ⟨rfl, h5⟩
    · have h6 := h3.2 (Int.not_le.mp b4)
      refine A_aload_n (i := 0) (f := 0) (by omega) rfl (by decide +kernel) rfl ?_
      refine A_iload_n (i := 1) (f := 1) rfl (by decide +kernel) rfl ?_
      refine A_lload_n (i := 2) (f := 2) rfl (by decide +kernel) rfl ?_
      refine B_last (M' := (mset M p0 (x1).toNat x2)) (by decide +kernel) h6.1 rfl ?_
      have h7 := h6.2
      exact A_ret ⟨by decide +kernel, rfl⟩ ⟨rfl, h7⟩
theorem q_10_isChain {x0 : Int} {x1 : Int} {x2 : Int} {M : Mem} {P : Int → Mem → Prop} (h : ((x0 = 0 → (P 1 M)) ∧ (x0 ≠ 0 → ((x0 ≠ x1 → (P 1 M)) ∧ (x0 = x1 → ((x2 ≠ x0 → (P 0 M)) ∧ (x2 = x0 → (P 1 M)))))))) : CI m10_isChain 1 [(0, x0), (0, x1), (0, x2)] M P := by
  refine CI_of (by decide +kernel) (Nat.le_of_ble_eq_true rfl) ?_
  show A m10_isChain 1 0 0 [(0, x0), (0, x1), (0, x2)] [] M (Ki P)
  refine A_iload_n (i := 0) (f := 0) rfl (by decide +kernel) rfl ?_
  refine A_if_eq (off := 13) (tgt := 14) (by decide +kernel) (by omega) (fun b1 => ?_) (fun b1 => ?_)
  · have h2 := h.1 b1
    refine A_iconst (a := 1) (by decide +kernel) (by unfold in32; omega) ?_
    refine A_goto (off := 4) (tgt := 19) (by decide +kernel) (by omega) ?_
    exact A_ret ⟨by decide +kernel, Or.inr ⟨rfl, by decide⟩⟩ ⟨_, rfl, h2⟩
  · have h3 := h.2 b1
    refine A_iload_n (i := 0) (f := 0) rfl (by decide +kernel) rfl ?_
    refine A_iload_n (i := 1) (f := 1) rfl (by decide +kernel) rfl ?_
    refine A_ic_ne (off := 8) (tgt := 14) (by decide +kernel) (by omega) (fun b4 => ?_) (fun b4 => ?_)
    · have h5 := h3.1 b4
      refine A_iconst (a := 1) (by decide +kernel) (by unfold in32; omega) ?_
      refine A_goto (off := 4) (tgt := 19) (by decide +kernel) (by omega) ?_
      exact A_ret ⟨by decide +kernel, Or.inr ⟨rfl, by decide⟩⟩ ⟨_, rfl, h5⟩
    · have h6 := h3.2 (Decidable.not_not.mp b4)
      refine A_iload_n (i := 2) (f := 2) rfl (by decide +kernel) rfl ?_
      refine A_iload_n (i := 0) (f := 0) rfl (by decide +kernel) rfl ?_
      refine A_ic_ne (off := 7) (tgt := 18) (by decide +kernel) (by omega) (fun b7 => ?_) (fun b7 => ?_)
      · have h8 := h6.1 b7
        refine A_iconst (a := 0) (by decide +kernel) (by unfold in32; omega) ?_
        exact A_ret ⟨by decide +kernel, Or.inr ⟨rfl, by decide⟩⟩ ⟨_, rfl, h8⟩
      · have h9 := h6.2 (Decidable.not_not.mp b7)
        refine A_iconst (a := 1) (by decide +kernel) (by unfold in32; omega) ?_
        refine A_goto (off := 4) (tgt := 19) (by decide +kernel) (by omega) ?_
        exact A_ret ⟨by decide +kernel, Or.inr ⟨rfl, by decide⟩⟩ ⟨_, rfl, h9⟩
theorem q_10_goesOn {x0 : Int} {x1 : Int} {x2 : Int} {M : Mem} {P : Int → Mem → Prop} (h : (CI m10_isChain 1 [(0, x0), (0, x1), (0, x2)] M (fun r1 M2 => ((r1 = 0 → (P 0 M2)) ∧ (r1 ≠ 0 → (CI m10_isChain 1 [(0, x2), (0, (w32 (-x1))), (0, x0)] M2 (fun r7 M8 => ((r7 = 0 → (P 0 M8)) ∧ (r7 ≠ 0 → (CI m10_isChain 1 [(0, (w32 (-x0))), (0, x2), (0, x1)] M8 (fun r13 M14 => ((r13 = 0 → (P 0 M14)) ∧ (r13 ≠ 0 → (P 1 M14)))))))))))))) : CI m10_goesOn 2 [(0, x0), (0, x1), (0, x2)] M P := by
  refine CI_of (by decide +kernel) (Nat.le_of_ble_eq_true rfl) ?_
  show A m10_goesOn 2 0 0 [(0, x0), (0, x1), (0, x2)] [] M (Ki P)
  refine A_iload_n (i := 0) (f := 0) rfl (by decide +kernel) rfl ?_
  refine A_iload_n (i := 1) (f := 1) rfl (by decide +kernel) rfl ?_
  refine A_iload_n (i := 2) (f := 2) rfl (by decide +kernel) rfl ?_
  refine A_cSi (args := [(0, x0), (0, x1), (0, x2)]) (st := []) (by decide +kernel) cv_m10_isChain st_m10_isChain lk_10_349 rfl (by omega) (Nat.le_of_ble_eq_true rfl) h (fun r1 M2 _ h3 => ?_)
  refine A_if_eq (off := 27) (tgt := 33) (by decide +kernel) (by omega) (fun b4 => ?_) (fun b4 => ?_)
  · have h5 := h3.1 b4
    refine A_iconst (a := 0) (by decide +kernel) (by unfold in32; omega) ?_
    exact A_ret ⟨by decide +kernel, Or.inr ⟨rfl, by decide⟩⟩ ⟨_, rfl, h5⟩
  · have h6 := h3.2 b4
    refine A_iload_n (i := 2) (f := 2) rfl (by decide +kernel) rfl ?_
    refine A_iload_n (i := 1) (f := 1) rfl (by decide +kernel) rfl ?_
    refine A_ineg (by decide +kernel) ?_
    refine A_iload_n (i := 0) (f := 0) rfl (by decide +kernel) rfl ?_
    refine A_cSi (args := [(0, x2), (0, (w32 (-x1))), (0, x0)]) (st := []) (by decide +kernel) cv_m10_isChain st_m10_isChain lk_10_349 rfl (by omega) (Nat.le_of_ble_eq_true rfl) h6 (fun r7 M8 _ h9 => ?_)
    refine A_if_eq (off := 17) (tgt := 33) (by decide +kernel) (by omega) (fun b10 => ?_) (fun b10 => ?_)
    · have h11 := h9.1 b10
      refine A_iconst (a := 0) (by decide +kernel) (by unfold in32; omega) ?_
      exact A_ret ⟨by decide +kernel, Or.inr ⟨rfl, by decide⟩⟩ ⟨_, rfl, h11⟩
    · have h12 := h9.2 b10
      refine A_iload_n (i := 0) (f := 0) rfl (by decide +kernel) rfl ?_
      refine A_ineg (by decide +kernel) ?_
      refine A_iload_n (i := 2) (f := 2) rfl (by decide +kernel) rfl ?_
      refine A_iload_n (i := 1) (f := 1) rfl (by decide +kernel) rfl ?_
      refine A_cSi (args := [(0, (w32 (-x0))), (0, x2), (0, x1)]) (st := []) (by decide +kernel) cv_m10_isChain st_m10_isChain lk_10_349 rfl (by omega) (Nat.le_of_ble_eq_true rfl) h12 (fun r13 M14 _ h15 => ?_)
      refine A_if_eq (off := 7) (tgt := 33) (by decide +kernel) (by omega) (fun b16 => ?_) (fun b16 => ?_)
      · have h17 := h15.1 b16
        refine A_iconst (a := 0) (by decide +kernel) (by unfold in32; omega) ?_
        exact A_ret ⟨by decide +kernel, Or.inr ⟨rfl, by decide⟩⟩ ⟨_, rfl, h17⟩
      · have h18 := h15.2 b16
        refine A_iconst (a := 1) (by decide +kernel) (by unfold in32; omega) ?_
        refine A_goto (off := 4) (tgt := 34) (by decide +kernel) (by omega) ?_
        exact A_ret ⟨by decide +kernel, Or.inr ⟨rfl, by decide⟩⟩ ⟨_, rfl, h18⟩
