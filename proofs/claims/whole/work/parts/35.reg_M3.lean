/-! CourtTongueModel: its regions (made by wip/whole/gall.py) -/
theorem q_11_unhear {x1 : Int} {M : Mem} {P : Int → Mem → Prop} (h : ((x1 < 0 → (P (-1) (mset M 59 0 0))) ∧ (0 ≤ x1 → ((((mset M 59 0 0) 59 46) ≤ x1 → (P (-1) (mset M 59 0 0))) ∧ (x1 < ((mset M 59 0 0) 59 46) → ((((mset M 59 0 0) 59 46) ≠ 24 → ((0 ≤ ((mset M 59 0 0) 59 46) ∧ ((mset M 59 0 0) 59 46) < 24) ∧ ((0 ≤ ((mset (mset M 59 0 0) 82 (((mset M 59 0 0) 59 46)).toNat (-1)) 59 46) ∧ ((mset (mset M 59 0 0) 82 (((mset M 59 0 0) 59 46)).toNat (-1)) 59 46) < 24) ∧ (P (w32 (((mset (mset (mset (mset M 59 0 0) 82 (((mset M 59 0 0) 59 46)).toNat (-1)) 83 (((mset (mset M 59 0 0) 82 (((mset M 59 0 0) 59 46)).toNat (-1)) 59 46)).toNat x1) 59 46 (w32 (((mset (mset (mset M 59 0 0) 82 (((mset M 59 0 0) 59 46)).toNat (-1)) 83 (((mset (mset M 59 0 0) 82 (((mset M 59 0 0) 59 46)).toNat (-1)) 59 46)).toNat x1) 59 46) + 1))) 59 46) - 1)) (mset (mset (mset (mset M 59 0 0) 82 (((mset M 59 0 0) 59 46)).toNat (-1)) 83 (((mset (mset M 59 0 0) 82 (((mset M 59 0 0) 59 46)).toNat (-1)) 59 46)).toNat x1) 59 46 (w32 (((mset (mset (mset M 59 0 0) 82 (((mset M 59 0 0) 59 46)).toNat (-1)) 83 (((mset (mset M 59 0 0) 82 (((mset M 59 0 0) 59 46)).toNat (-1)) 59 46)).toNat x1) 59 46) + 1))))))) ∧ (((mset M 59 0 0) 59 46) = 24 → (P (-1) (mset M 59 0 0))))))))) : CI m11_unhear 1 [(20, ((59 : Nat) : Int)), (0, x1)] M P := by
  refine CI_of (by decide +kernel) (Nat.le_of_ble_eq_true rfl) ?_
  show A m11_unhear 1 0 0 [(20, ((59 : Nat) : Int)), (0, x1)] [] M (Ki P)
  refine A_aload_n (i := 0) (f := 0) (by omega) rfl (by decide +kernel) rfl ?_
  refine A_iconst (a := 0) (by decide +kernel) (by unfold in32; omega) ?_
  refine B_putp (M' := (mset M 59 0 0)) (q := (RX11, TX11, 59)) (ci := 10) (j := 0) (p := 0) (by decide +kernel) rfl (by decide) rfl (Or.inl ⟨rfl, rfl⟩) rfl fl_11_118 rfl ?_
  refine A_iload_n (i := 1) (f := 1) rfl (by decide +kernel) rfl ?_
  refine A_if_lt (off := 20) (tgt := 26) (by decide +kernel) (by omega) (fun b1 => ?_) (fun b1 => ?_)
  · have h2 := h.1 b1
    refine A_iconst (a := (-1)) (by decide +kernel) (by unfold in32; omega) ?_
    exact A_ret ⟨by decide +kernel, Or.inl rfl⟩ ⟨_, rfl, h2⟩
  · have h3 := h.2 (Int.not_lt.mp b1)
    refine A_iload_n (i := 1) (f := 1) rfl (by decide +kernel) rfl ?_
    refine A_aload_n (i := 0) (f := 0) (by omega) rfl (by decide +kernel) rfl ?_
    refine B_getp (v := ((mset M 59 0 0) 59 46)) (q := (RX11, TX11, 59)) (ci := 10) (j := 46) (p := 46) (by decide +kernel) rfl (by decide) rfl (Or.inl rfl) fl_11_299 rfl ?_
    refine A_ic_ge (off := 12) (tgt := 26) (by decide +kernel) (by omega) (fun b4 => ?_) (fun b4 => ?_)
    · have h5 := h3.1 b4
      refine A_iconst (a := (-1)) (by decide +kernel) (by unfold in32; omega) ?_
      exact A_ret ⟨by decide +kernel, Or.inl rfl⟩ ⟨_, rfl, h5⟩
    · have h6 := h3.2 (Int.not_le.mp b4)
      refine A_aload_n (i := 0) (f := 0) (by omega) rfl (by decide +kernel) rfl ?_
      refine B_getp (v := ((mset M 59 0 0) 59 46)) (q := (RX11, TX11, 59)) (ci := 10) (j := 46) (p := 46) (by decide +kernel) rfl (by decide) rfl (Or.inl rfl) fl_11_299 rfl ?_
      refine A_bipush (a := 24) (by decide +kernel) (by unfold in32; omega) (by decide +kernel) ?_
      refine A_ic_ne (off := 5) (tgt := 28) (by decide +kernel) (by omega) (fun b7 => ?_) (fun b7 => ?_)
      · have h8 := h6.1 b7
        refine A_aload_n (i := 0) (f := 0) (by omega) rfl (by decide +kernel) rfl ?_
        refine B_getr (o' := ((82 : Nat) : Int)) (q := (RX11, TX11, 59)) (ci := 10) (j := 48) (by decide +kernel) rfl (by decide) rfl (by omega) fl_11_85 rfl ?_
        refine A_aload_n (i := 0) (f := 0) (by omega) rfl (by decide +kernel) rfl ?_
        refine B_getp (v := ((mset M 59 0 0) 59 46)) (q := (RX11, TX11, 59)) (ci := 10) (j := 46) (p := 46) (by decide +kernel) rfl (by decide) rfl (Or.inl rfl) fl_11_299 rfl ?_
        refine A_iconst (a := (-1)) (by decide +kernel) (by unfold in32; omega) ?_
        refine B_iast (M' := (mset (mset M 59 0 0) 82 (((mset M 59 0 0) 59 46)).toNat (-1))) (by decide +kernel) h8.1 rfl ?_
        have h10 := h8.2
        refine A_aload_n (i := 0) (f := 0) (by omega) rfl (by decide +kernel) rfl ?_
        refine B_getr (o' := ((83 : Nat) : Int)) (q := (RX11, TX11, 59)) (ci := 10) (j := 49) (by decide +kernel) rfl (by decide) rfl (by omega) fl_11_88 rfl ?_
        refine A_aload_n (i := 0) (f := 0) (by omega) rfl (by decide +kernel) rfl ?_
        refine B_getp (v := ((mset (mset M 59 0 0) 82 (((mset M 59 0 0) 59 46)).toNat (-1)) 59 46)) (q := (RX11, TX11, 59)) (ci := 10) (j := 46) (p := 46) (by decide +kernel) rfl (by decide) rfl (Or.inl rfl) fl_11_299 rfl ?_
        refine A_iload_n (i := 1) (f := 1) rfl (by decide +kernel) rfl ?_
        refine B_iast (M' := (mset (mset (mset M 59 0 0) 82 (((mset M 59 0 0) 59 46)).toNat (-1)) 83 (((mset (mset M 59 0 0) 82 (((mset M 59 0 0) 59 46)).toNat (-1)) 59 46)).toNat x1)) (by decide +kernel) h10.1 rfl ?_
        have h11 := h10.2
        refine A_aload_n (i := 0) (f := 0) (by omega) rfl (by decide +kernel) rfl ?_
        refine A_dup (by decide +kernel) (by simp) ?_
        refine B_getp (v := ((mset (mset (mset M 59 0 0) 82 (((mset M 59 0 0) 59 46)).toNat (-1)) 83 (((mset (mset M 59 0 0) 82 (((mset M 59 0 0) 59 46)).toNat (-1)) 59 46)).toNat x1) 59 46)) (q := (RX11, TX11, 59)) (ci := 10) (j := 46) (p := 46) (by decide +kernel) rfl (by decide) rfl (Or.inl rfl) fl_11_299 rfl ?_
        refine A_iconst (a := 1) (by decide +kernel) (by unfold in32; omega) ?_
        refine A_iadd (by decide +kernel) ?_
        refine B_putp (M' := (mset (mset (mset (mset M 59 0 0) 82 (((mset M 59 0 0) 59 46)).toNat (-1)) 83 (((mset (mset M 59 0 0) 82 (((mset M 59 0 0) 59 46)).toNat (-1)) 59 46)).toNat x1) 59 46 (w32 (((mset (mset (mset M 59 0 0) 82 (((mset M 59 0 0) 59 46)).toNat (-1)) 83 (((mset (mset M 59 0 0) 82 (((mset M 59 0 0) 59 46)).toNat (-1)) 59 46)).toNat x1) 59 46) + 1)))) (q := (RX11, TX11, 59)) (ci := 10) (j := 46) (p := 46) (by decide +kernel) rfl (by decide) rfl (Or.inl ⟨rfl, rfl⟩) rfl fl_11_299 rfl ?_
        refine A_aload_n (i := 0) (f := 0) (by omega) rfl (by decide +kernel) rfl ?_
        refine B_getp (v := ((mset (mset (mset (mset M 59 0 0) 82 (((mset M 59 0 0) 59 46)).toNat (-1)) 83 (((mset (mset M 59 0 0) 82 (((mset M 59 0 0) 59 46)).toNat (-1)) 59 46)).toNat x1) 59 46 (w32 (((mset (mset (mset M 59 0 0) 82 (((mset M 59 0 0) 59 46)).toNat (-1)) 83 (((mset (mset M 59 0 0) 82 (((mset M 59 0 0) 59 46)).toNat (-1)) 59 46)).toNat x1) 59 46) + 1))) 59 46)) (q := (RX11, TX11, 59)) (ci := 10) (j := 46) (p := 46) (by decide +kernel) rfl (by decide) rfl (Or.inl rfl) fl_11_299 rfl ?_
        refine A_iconst (a := 1) (by decide +kernel) (by unfold in32; omega) ?_
        refine A_isub (by decide +kernel) ?_
        exact A_ret ⟨by decide +kernel, Or.inl rfl⟩ ⟨_, rfl, h11⟩
      · have h9 := h6.2 (Decidable.not_not.mp b7)
        refine A_iconst (a := (-1)) (by decide +kernel) (by unfold in32; omega) ?_
        exact A_ret ⟨by decide +kernel, Or.inl rfl⟩ ⟨_, rfl, h9⟩
theorem q_11_known {x1 : Int} {M : Mem} {P : Int → Mem → Prop} (h : ((x1 < (-1) → (P 0 (mset M 59 0 0))) ∧ ((-1) ≤ x1 → ((x1 ≤ ((mset M 59 0 0) 59 46) → (P 1 (mset (mset M 59 0 0) 59 47 x1))) ∧ (((mset M 59 0 0) 59 46) < x1 → (P 0 (mset M 59 0 0))))))) : CI m11_known 1 [(20, ((59 : Nat) : Int)), (0, x1)] M P := by
  refine CI_of (by decide +kernel) (Nat.le_of_ble_eq_true rfl) ?_
  show A m11_known 1 0 0 [(20, ((59 : Nat) : Int)), (0, x1)] [] M (Ki P)
  refine A_aload_n (i := 0) (f := 0) (by omega) rfl (by decide +kernel) rfl ?_
  refine A_iconst (a := 0) (by decide +kernel) (by unfold in32; omega) ?_
  refine B_putp (M' := (mset M 59 0 0)) (q := (RX11, TX11, 59)) (ci := 10) (j := 0) (p := 0) (by decide +kernel) rfl (by decide) rfl (Or.inl ⟨rfl, rfl⟩) rfl fl_11_118 rfl ?_
  refine A_iload_n (i := 1) (f := 1) rfl (by decide +kernel) rfl ?_
  refine A_iconst (a := (-1)) (by decide +kernel) (by unfold in32; omega) ?_
  refine A_ic_lt (off := 11) (tgt := 18) (by decide +kernel) (by omega) (fun b1 => ?_) (fun b1 => ?_)
  · have h2 := h.1 b1
    refine A_iconst (a := 0) (by decide +kernel) (by unfold in32; omega) ?_
    exact A_ret ⟨by decide +kernel, Or.inr ⟨rfl, by decide⟩⟩ ⟨_, rfl, h2⟩
  · have h3 := h.2 (Int.not_lt.mp b1)
    refine A_iload_n (i := 1) (f := 1) rfl (by decide +kernel) rfl ?_
    refine A_aload_n (i := 0) (f := 0) (by omega) rfl (by decide +kernel) rfl ?_
    refine B_getp (v := ((mset M 59 0 0) 59 46)) (q := (RX11, TX11, 59)) (ci := 10) (j := 46) (p := 46) (by decide +kernel) rfl (by decide) rfl (Or.inl rfl) fl_11_299 rfl ?_
    refine A_ic_le (off := 5) (tgt := 20) (by decide +kernel) (by omega) (fun b4 => ?_) (fun b4 => ?_)
    · have h5 := h3.1 b4
      refine A_aload_n (i := 0) (f := 0) (by omega) rfl (by decide +kernel) rfl ?_
      refine A_iload_n (i := 1) (f := 1) rfl (by decide +kernel) rfl ?_
      refine B_putp (M' := (mset (mset M 59 0 0) 59 47 x1)) (q := (RX11, TX11, 59)) (ci := 10) (j := 47) (p := 47) (by decide +kernel) rfl (by decide) rfl (Or.inl ⟨rfl, rfl⟩) rfl fl_11_82 rfl ?_
      refine A_iconst (a := 1) (by decide +kernel) (by unfold in32; omega) ?_
      exact A_ret ⟨by decide +kernel, Or.inr ⟨rfl, by decide⟩⟩ ⟨_, rfl, h5⟩
    · have h6 := h3.2 (Int.not_le.mp b4)
      refine A_iconst (a := 0) (by decide +kernel) (by unfold in32; omega) ?_
      exact A_ret ⟨by decide +kernel, Or.inr ⟨rfl, by decide⟩⟩ ⟨_, rfl, h6⟩
theorem q_11_knownMany  {M : Mem} {P : Int → Mem → Prop} (h : (((M 59 47) ≠ (-1) → (P (M 59 47) M)) ∧ ((M 59 47) = (-1) → (P (M 59 46) M)))) : CI m11_knownMany 1 [(20, ((59 : Nat) : Int))] M P := by
  refine CI_of (by decide +kernel) (Nat.le_of_ble_eq_true rfl) ?_
  show A m11_knownMany 1 0 0 [(20, ((59 : Nat) : Int))] [] M (Ki P)
  refine A_aload_n (i := 0) (f := 0) (by omega) rfl (by decide +kernel) rfl ?_
  refine B_getp (v := (M 59 47)) (q := (RX11, TX11, 59)) (ci := 10) (j := 47) (p := 47) (by decide +kernel) rfl (by decide) rfl (Or.inl rfl) fl_11_82 rfl ?_
  refine A_iconst (a := (-1)) (by decide +kernel) (by unfold in32; omega) ?_
  refine A_ic_ne (off := 10) (tgt := 15) (by decide +kernel) (by omega) (fun b1 => ?_) (fun b1 => ?_)
  · have h2 := h.1 b1
    refine A_aload_n (i := 0) (f := 0) (by omega) rfl (by decide +kernel) rfl ?_
    refine B_getp (v := (M 59 47)) (q := (RX11, TX11, 59)) (ci := 10) (j := 47) (p := 47) (by decide +kernel) rfl (by decide) rfl (Or.inl rfl) fl_11_82 rfl ?_
    exact A_ret ⟨by decide +kernel, Or.inl rfl⟩ ⟨_, rfl, h2⟩
  · have h3 := h.2 (Decidable.not_not.mp b1)
    refine A_aload_n (i := 0) (f := 0) (by omega) rfl (by decide +kernel) rfl ?_
    refine B_getp (v := (M 59 46)) (q := (RX11, TX11, 59)) (ci := 10) (j := 46) (p := 46) (by decide +kernel) rfl (by decide) rfl (Or.inl rfl) fl_11_299 rfl ?_
    refine A_goto (off := 7) (tgt := 19) (by decide +kernel) (by omega) ?_
    exact A_ret ⟨by decide +kernel, Or.inl rfl⟩ ⟨_, rfl, h3⟩
theorem q_11_strikes  {M : Mem} {P : Mem → Prop} (h : A m11_strikes 2 0 2 [(20, ((59 : Nat) : Int)), (0, 0)] [] M (Kd P)) : CD m11_strikes 2 [(20, ((59 : Nat) : Int))] M P := by
  refine CD_of (by decide +kernel) (Nat.le_of_ble_eq_true rfl) ?_
  show A m11_strikes 2 0 0 [(20, ((59 : Nat) : Int)), (2, 0)] [] M (Kd P)
  refine A_iconst (a := 0) (by decide +kernel) (by unfold in32; omega) ?_
  refine A_istore_n (i := 1) (f := 1) rfl (by decide +kernel) (by decide) (fun w h0 hw => by simp at hw; first | (rw [← hw]; decide) | (rw [← hw]; simp)) ?_
  exact A_weak (lsub.keep (lsub.keep lsub.nil)) h
theorem r_11_strikes_2 {x1 : Int} {M : Mem} {P : Mem → Prop} (h : (CI m11_knownMany 1 [(20, ((59 : Nat) : Int))] M (fun r1 M2 => ((r1 ≤ x1 → (CI m11_knownMany 1 [(20, ((59 : Nat) : Int))] M2 (fun r7 M8 => A m11_strikes 2 0 30 [(20, ((59 : Nat) : Int)), (0, (w32 (r7 - 1)))] [] M8 (Kd P)))) ∧ (x1 < r1 → ((0 ≤ x1 ∧ x1 < 24) ∧ A m11_strikes 2 0 2 [(20, ((59 : Nat) : Int)), (0, (w32 (x1 + 1)))] [] (mset M2 87 (x1).toNat 0) (Kd P))))))) : A m11_strikes 2 0 2 [(20, ((59 : Nat) : Int)), (0, x1)] [] M (Kd P) := by
  refine A_iload_n (i := 1) (f := 1) rfl (by decide +kernel) rfl ?_
  refine A_aload_n (i := 0) (f := 0) (by omega) rfl (by decide +kernel) rfl ?_
  refine A_cVi (q := (RX11, TX11, 59)) (ci := 10) (o := ((59 : Nat) : Int)) (args := []) (st := [(0, x1)]) (by decide +kernel) cv_m11_knownMany rfl rfl in_m11_knownMany se_m11_knownMany lk_11_428 rfl (by omega) (Nat.le_of_ble_eq_true rfl) h (fun r1 M2 _ h3 => ?_)
  refine A_ic_ge (off := 16) (tgt := 23) (by decide +kernel) (by omega) (fun b4 => ?_) (fun b4 => ?_)
  · have h5 := h3.1 b4
    refine A_aload_n (i := 0) (f := 0) (by omega) rfl (by decide +kernel) rfl ?_
    refine A_cVi (q := (RX11, TX11, 59)) (ci := 10) (o := ((59 : Nat) : Int)) (args := []) (st := []) (by decide +kernel) cv_m11_knownMany rfl rfl in_m11_knownMany se_m11_knownMany lk_11_428 rfl (by omega) (Nat.le_of_ble_eq_true rfl) h5 (fun r7 M8 _ h9 => ?_)
    refine A_iconst (a := 1) (by decide +kernel) (by unfold in32; omega) ?_
    refine A_isub (by decide +kernel) ?_
    refine A_istore_n (i := 1) (f := 1) rfl (by decide +kernel) (by decide) (fun w h0 hw => by simp at hw; first | (rw [← hw]; decide) | (rw [← hw]; simp)) ?_
    exact A_weak (lsub.keep (lsub.keep lsub.nil)) h9
  · have h6 := h3.2 (Int.not_le.mp b4)
    refine A_aload_n (i := 0) (f := 0) (by omega) rfl (by decide +kernel) rfl ?_
    refine B_getr (o' := ((87 : Nat) : Int)) (q := (RX11, TX11, 59)) (ci := 10) (j := 53) (by decide +kernel) rfl (by decide) rfl (by omega) fl_11_100 rfl ?_
    refine A_iload_n (i := 1) (f := 1) rfl (by decide +kernel) rfl ?_
    refine A_iconst (a := 0) (by decide +kernel) (by unfold in32; omega) ?_
    refine B_zast (M' := (mset M2 87 (x1).toNat 0)) (by decide +kernel) h6.1 (by decide) rfl ?_
    have h10 := h6.2
    refine A_iinc (i := 1) (n := 1) (by decide +kernel) (by decide) rfl (fun w h0 hw => by simp at hw; first | (rw [← hw]; decide) | (rw [← hw]; simp)) ?_
    refine A_goto (off := (-18)) (tgt := 2) (by decide +kernel) (by omega) ?_
    exact A_weak (lsub.keep (lsub.keep lsub.nil)) h10
theorem r_11_strikes_30 {x1 : Int} {M : Mem} {P : Mem → Prop} (h : ((x1 < 0 → (P M)) ∧ (0 ≤ x1 → ((0 ≤ x1 ∧ x1 < 24) ∧ (((M 87 (x1).toNat) ≠ 0 → A m11_strikes 2 0 30 [(20, ((59 : Nat) : Int)), (0, (w32 (x1 + (-1))))] [] M (Kd P)) ∧ ((M 87 (x1).toNat) = 0 → ((0 ≤ x1 ∧ x1 < 24) ∧ (((M 82 (x1).toNat) ≠ (-1) → A m11_strikes 2 0 30 [(20, ((59 : Nat) : Int)), (0, (w32 (x1 + (-1))))] [] M (Kd P)) ∧ ((M 82 (x1).toNat) = (-1) → ((0 ≤ x1 ∧ x1 < 24) ∧ ((0 ≤ (M 83 (x1).toNat) ∧ (M 83 (x1).toNat) < 24) ∧ A m11_strikes 2 0 30 [(20, ((59 : Nat) : Int)), (0, (w32 (x1 + (-1))))] [] (mset M 87 ((M 83 (x1).toNat)).toNat 1) (Kd P)))))))))))) : A m11_strikes 2 0 30 [(20, ((59 : Nat) : Int)), (0, x1)] [] M (Kd P) := by
  refine A_iload_n (i := 1) (f := 1) rfl (by decide +kernel) rfl ?_
  refine A_if_lt (off := 40) (tgt := 71) (by decide +kernel) (by omega) (fun b1 => ?_) (fun b1 => ?_)
  · have h2 := h.1 b1
    exact A_ret ⟨by decide +kernel, rfl⟩ ⟨rfl, h2⟩
  · have h3 := h.2 (Int.not_lt.mp b1)
    refine A_aload_n (i := 0) (f := 0) (by omega) rfl (by decide +kernel) rfl ?_
    refine B_getr (o' := ((87 : Nat) : Int)) (q := (RX11, TX11, 59)) (ci := 10) (j := 53) (by decide +kernel) rfl (by decide) rfl (by omega) fl_11_100 rfl ?_
    refine A_iload_n (i := 1) (f := 1) rfl (by decide +kernel) rfl ?_
    refine B_zald (v := (M 87 (x1).toNat)) (by decide +kernel) h3.1 rfl ?_
    have h4 := h3.2
    refine A_if_ne (off := 25) (tgt := 65) (by decide +kernel) (by omega) (fun b5 => ?_) (fun b5 => ?_)
    · have h6 := h4.1 b5
      refine A_iinc (i := 1) (n := (-1)) (by decide +kernel) (by decide) rfl (fun w h0 hw => by simp at hw; first | (rw [← hw]; decide) | (rw [← hw]; simp)) ?_
      refine A_goto (off := (-38)) (tgt := 30) (by decide +kernel) (by omega) ?_
      exact A_weak (lsub.keep (lsub.keep lsub.nil)) h6
    · have h7 := h4.2 (Decidable.not_not.mp b5)
      refine A_aload_n (i := 0) (f := 0) (by omega) rfl (by decide +kernel) rfl ?_
      refine B_getr (o' := ((82 : Nat) : Int)) (q := (RX11, TX11, 59)) (ci := 10) (j := 48) (by decide +kernel) rfl (by decide) rfl (by omega) fl_11_85 rfl ?_
      refine A_iload_n (i := 1) (f := 1) rfl (by decide +kernel) rfl ?_
      refine B_iald (v := (M 82 (x1).toNat)) (by decide +kernel) h7.1 rfl ?_
      have h8 := h7.2
      refine A_iconst (a := (-1)) (by decide +kernel) (by unfold in32; omega) ?_
      refine A_ic_ne (off := 15) (tgt := 65) (by decide +kernel) (by omega) (fun b9 => ?_) (fun b9 => ?_)
      · have h10 := h8.1 b9
        refine A_iinc (i := 1) (n := (-1)) (by decide +kernel) (by decide) rfl (fun w h0 hw => by simp at hw; first | (rw [← hw]; decide) | (rw [← hw]; simp)) ?_
        refine A_goto (off := (-38)) (tgt := 30) (by decide +kernel) (by omega) ?_
        exact A_weak (lsub.keep (lsub.keep lsub.nil)) h10
      · have h11 := h8.2 (Decidable.not_not.mp b9)
        refine A_aload_n (i := 0) (f := 0) (by omega) rfl (by decide +kernel) rfl ?_
        refine B_getr (o' := ((87 : Nat) : Int)) (q := (RX11, TX11, 59)) (ci := 10) (j := 53) (by decide +kernel) rfl (by decide) rfl (by omega) fl_11_100 rfl ?_
        refine A_aload_n (i := 0) (f := 0) (by omega) rfl (by decide +kernel) rfl ?_
        refine B_getr (o' := ((83 : Nat) : Int)) (q := (RX11, TX11, 59)) (ci := 10) (j := 49) (by decide +kernel) rfl (by decide) rfl (by omega) fl_11_88 rfl ?_
        refine A_iload_n (i := 1) (f := 1) rfl (by decide +kernel) rfl ?_
        refine B_iald (v := (M 83 (x1).toNat)) (by decide +kernel) h11.1 rfl ?_
        have h12 := h11.2
        refine A_iconst (a := 1) (by decide +kernel) (by unfold in32; omega) ?_
        refine B_zast (M' := (mset M 87 ((M 83 (x1).toNat)).toNat 1)) (by decide +kernel) h12.1 (by decide) rfl ?_
        have h13 := h12.2
        refine A_iinc (i := 1) (n := (-1)) (by decide +kernel) (by decide) rfl (fun w h0 hw => by simp at hw; first | (rw [← hw]; decide) | (rw [← hw]; simp)) ?_
        refine A_goto (off := (-38)) (tgt := 30) (by decide +kernel) (by omega) ?_
        exact A_weak (lsub.keep (lsub.keep lsub.nil)) h13
theorem q_11_isHeard {x1 : Int} {M : Mem} {P : Int → Mem → Prop} (h : ((0 ≤ x1 ∧ x1 < 24) ∧ (((M 87 (x1).toNat) ≠ 0 → (P 0 M)) ∧ ((M 87 (x1).toNat) = 0 → ((0 ≤ x1 ∧ x1 < 24) ∧ (((M 82 (x1).toNat) = (-1) → (P 0 M)) ∧ ((M 82 (x1).toNat) ≠ (-1) → (P 1 M)))))))) : CI m11_isHeard 1 [(20, ((59 : Nat) : Int)), (0, x1)] M P := by
  refine CI_of (by decide +kernel) (Nat.le_of_ble_eq_true rfl) ?_
  show A m11_isHeard 1 0 0 [(20, ((59 : Nat) : Int)), (0, x1)] [] M (Ki P)
  refine A_aload_n (i := 0) (f := 0) (by omega) rfl (by decide +kernel) rfl ?_
  refine B_getr (o' := ((87 : Nat) : Int)) (q := (RX11, TX11, 59)) (ci := 10) (j := 53) (by decide +kernel) rfl (by decide) rfl (by omega) fl_11_100 rfl ?_
  refine A_iload_n (i := 1) (f := 1) rfl (by decide +kernel) rfl ?_
  refine B_zald (v := (M 87 (x1).toNat)) (by decide +kernel) h.1 rfl ?_
  have h1 := h.2
  refine A_if_ne (off := 17) (tgt := 23) (by decide +kernel) (by omega) (fun b2 => ?_) (fun b2 => ?_)
  · have h3 := h1.1 b2
    refine A_iconst (a := 0) (by decide +kernel) (by unfold in32; omega) ?_
    exact A_ret ⟨by decide +kernel, Or.inr ⟨rfl, by decide⟩⟩ ⟨_, rfl, h3⟩
  · have h4 := h1.2 (Decidable.not_not.mp b2)
    refine A_aload_n (i := 0) (f := 0) (by omega) rfl (by decide +kernel) rfl ?_
    refine B_getr (o' := ((82 : Nat) : Int)) (q := (RX11, TX11, 59)) (ci := 10) (j := 48) (by decide +kernel) rfl (by decide) rfl (by omega) fl_11_85 rfl ?_
    refine A_iload_n (i := 1) (f := 1) rfl (by decide +kernel) rfl ?_
    refine B_iald (v := (M 82 (x1).toNat)) (by decide +kernel) h4.1 rfl ?_
    have h5 := h4.2
    refine A_iconst (a := (-1)) (by decide +kernel) (by unfold in32; omega) ?_
    refine A_ic_eq (off := 7) (tgt := 23) (by decide +kernel) (by omega) (fun b6 => ?_) (fun b6 => ?_)
    · have h7 := h5.1 b6
      refine A_iconst (a := 0) (by decide +kernel) (by unfold in32; omega) ?_
      exact A_ret ⟨by decide +kernel, Or.inr ⟨rfl, by decide⟩⟩ ⟨_, rfl, h7⟩
    · have h8 := h5.2 b6
      refine A_iconst (a := 1) (by decide +kernel) (by unfold in32; omega) ?_
      refine A_goto (off := 4) (tgt := 24) (by decide +kernel) (by omega) ?_
      exact A_ret ⟨by decide +kernel, Or.inr ⟨rfl, by decide⟩⟩ ⟨_, rfl, h8⟩
theorem q_11_firstWrong  {M : Mem} {P : Int → Mem → Prop} (h : A m11_firstWrong 6 0 2 [(20, ((59 : Nat) : Int)), (0, 0)] [] M (Ki P)) : CI m11_firstWrong 6 [(20, ((59 : Nat) : Int))] M P := by
  refine CI_of (by decide +kernel) (Nat.le_of_ble_eq_true rfl) ?_
  show A m11_firstWrong 6 0 0 [(20, ((59 : Nat) : Int)), (2, 0)] [] M (Ki P)
  refine A_iconst (a := 0) (by decide +kernel) (by unfold in32; omega) ?_
  refine A_istore_n (i := 1) (f := 1) rfl (by decide +kernel) (by decide) (fun w h0 hw => by simp at hw; first | (rw [← hw]; decide) | (rw [← hw]; simp)) ?_
  exact A_weak (lsub.keep (lsub.keep lsub.nil)) h
theorem r_11_firstWrong_2 {x1 : Int} {M : Mem} {P : Int → Mem → Prop} (h : (CI m11_knownMany 1 [(20, ((59 : Nat) : Int))] M (fun r1 M2 => ((r1 ≤ x1 → (P (-1) M2)) ∧ (x1 < r1 → (CI m11_isHeard 1 [(20, ((59 : Nat) : Int)), (0, x1)] M2 (fun r7 M8 => ((r7 = 0 → A m11_firstWrong 6 0 2 [(20, ((59 : Nat) : Int)), (0, (w32 (x1 + 1)))] [] M8 (Ki P)) ∧ (r7 ≠ 0 → ((0 ≤ x1 ∧ x1 < 24) ∧ ((0 ≤ x1 ∧ x1 < 24) ∧ ((0 ≤ x1 ∧ x1 < 24) ∧ ((0 ≤ x1 ∧ x1 < 24) ∧ (CI m11_right 5 [(20, ((59 : Nat) : Int)), (0, (M8 82 (x1).toNat)), (0, (M8 83 (x1).toNat)), (0, (M8 84 (x1).toNat)), (0, (M8 85 (x1).toNat))] M8 (fun r17 M18 => ((0 ≤ x1 ∧ x1 < 24) ∧ ((r17 = (M18 86 (x1).toNat) → A m11_firstWrong 6 0 2 [(20, ((59 : Nat) : Int)), (0, (w32 (x1 + 1)))] [] M18 (Ki P)) ∧ (r17 ≠ (M18 86 (x1).toNat) → (P x1 M18))))))))))))))))))) : A m11_firstWrong 6 0 2 [(20, ((59 : Nat) : Int)), (0, x1)] [] M (Ki P) := by
  refine A_iload_n (i := 1) (f := 1) rfl (by decide +kernel) rfl ?_
  refine A_aload_n (i := 0) (f := 0) (by omega) rfl (by decide +kernel) rfl ?_
  refine A_cVi (q := (RX11, TX11, 59)) (ci := 10) (o := ((59 : Nat) : Int)) (args := []) (st := [(0, x1)]) (by decide +kernel) cv_m11_knownMany rfl rfl in_m11_knownMany se_m11_knownMany lk_11_428 rfl (by omega) (Nat.le_of_ble_eq_true rfl) h (fun r1 M2 _ h3 => ?_)
  refine A_ic_ge (off := 56) (tgt := 63) (by decide +kernel) (by omega) (fun b4 => ?_) (fun b4 => ?_)
  · have h5 := h3.1 b4
    refine A_iconst (a := (-1)) (by decide +kernel) (by unfold in32; omega) ?_
    exact A_ret ⟨by decide +kernel, Or.inl rfl⟩ ⟨_, rfl, h5⟩
  · have h6 := h3.2 (Int.not_le.mp b4)
    refine A_aload_n (i := 0) (f := 0) (by omega) rfl (by decide +kernel) rfl ?_
    refine A_iload_n (i := 1) (f := 1) rfl (by decide +kernel) rfl ?_
    refine A_cVi (q := (RX11, TX11, 59)) (ci := 10) (o := ((59 : Nat) : Int)) (args := [(0, x1)]) (st := []) (by decide +kernel) cv_m11_isHeard rfl rfl in_m11_isHeard se_m11_isHeard lk_11_431 rfl (by omega) (Nat.le_of_ble_eq_true rfl) h6 (fun r7 M8 _ h9 => ?_)
    refine A_if_eq (off := 42) (tgt := 57) (by decide +kernel) (by omega) (fun b10 => ?_) (fun b10 => ?_)
    · have h11 := h9.1 b10
      refine A_iinc (i := 1) (n := 1) (by decide +kernel) (by decide) rfl (fun w h0 hw => by simp at hw; first | (rw [← hw]; decide) | (rw [← hw]; simp)) ?_
      refine A_goto (off := (-58)) (tgt := 2) (by decide +kernel) (by omega) ?_
      exact A_weak (lsub.keep (lsub.keep lsub.nil)) h11
    · have h12 := h9.2 b10
      refine A_aload_n (i := 0) (f := 0) (by omega) rfl (by decide +kernel) rfl ?_
      refine A_aload_n (i := 0) (f := 0) (by omega) rfl (by decide +kernel) rfl ?_
      refine B_getr (o' := ((82 : Nat) : Int)) (q := (RX11, TX11, 59)) (ci := 10) (j := 48) (by decide +kernel) rfl (by decide) rfl (by omega) fl_11_85 rfl ?_
      refine A_iload_n (i := 1) (f := 1) rfl (by decide +kernel) rfl ?_
      refine B_iald (v := (M8 82 (x1).toNat)) (by decide +kernel) h12.1 rfl ?_
      have h13 := h12.2
      refine A_aload_n (i := 0) (f := 0) (by omega) rfl (by decide +kernel) rfl ?_
      refine B_getr (o' := ((83 : Nat) : Int)) (q := (RX11, TX11, 59)) (ci := 10) (j := 49) (by decide +kernel) rfl (by decide) rfl (by omega) fl_11_88 rfl ?_
      refine A_iload_n (i := 1) (f := 1) rfl (by decide +kernel) rfl ?_
      refine B_iald (v := (M8 83 (x1).toNat)) (by decide +kernel) h13.1 rfl ?_
      have h14 := h13.2
      refine A_aload_n (i := 0) (f := 0) (by omega) rfl (by decide +kernel) rfl ?_
      refine B_getr (o' := ((84 : Nat) : Int)) (q := (RX11, TX11, 59)) (ci := 10) (j := 50) (by decide +kernel) rfl (by decide) rfl (by omega) fl_11_91 rfl ?_
      refine A_iload_n (i := 1) (f := 1) rfl (by decide +kernel) rfl ?_
      refine B_iald (v := (M8 84 (x1).toNat)) (by decide +kernel) h14.1 rfl ?_
      have h15 := h14.2
      refine A_aload_n (i := 0) (f := 0) (by omega) rfl (by decide +kernel) rfl ?_
      refine B_getr (o' := ((85 : Nat) : Int)) (q := (RX11, TX11, 59)) (ci := 10) (j := 51) (by decide +kernel) rfl (by decide) rfl (by omega) fl_11_94 rfl ?_
      refine A_iload_n (i := 1) (f := 1) rfl (by decide +kernel) rfl ?_
      refine B_iald (v := (M8 85 (x1).toNat)) (by decide +kernel) h15.1 rfl ?_
      have h16 := h15.2
      refine A_cVi (q := (RX11, TX11, 59)) (ci := 10) (o := ((59 : Nat) : Int)) (args := [(0, (M8 82 (x1).toNat)), (0, (M8 83 (x1).toNat)), (0, (M8 84 (x1).toNat)), (0, (M8 85 (x1).toNat))]) (st := []) (by decide +kernel) cv_m11_right rfl rfl in_m11_right se_m11_right lk_11_369 rfl (by omega) (Nat.le_of_ble_eq_true rfl) h16 (fun r17 M18 _ h19 => ?_)
      refine A_aload_n (i := 0) (f := 0) (by omega) rfl (by decide +kernel) rfl ?_
      refine B_getr (o' := ((86 : Nat) : Int)) (q := (RX11, TX11, 59)) (ci := 10) (j := 52) (by decide +kernel) rfl (by decide) rfl (by omega) fl_11_97 rfl ?_
      refine A_iload_n (i := 1) (f := 1) rfl (by decide +kernel) rfl ?_
      refine B_iald (v := (M18 86 (x1).toNat)) (by decide +kernel) h19.1 rfl ?_
      have h20 := h19.2
      refine A_ic_eq (off := 5) (tgt := 57) (by decide +kernel) (by omega) (fun b21 => ?_) (fun b21 => ?_)
      · have h22 := h20.1 b21
        refine A_iinc (i := 1) (n := 1) (by decide +kernel) (by decide) rfl (fun w h0 hw => by simp at hw; first | (rw [← hw]; decide) | (rw [← hw]; simp)) ?_
        refine A_goto (off := (-58)) (tgt := 2) (by decide +kernel) (by omega) ?_
        exact A_weak (lsub.keep (lsub.keep lsub.nil)) h22
      · have h23 := h20.2 b21
        refine A_iload_n (i := 1) (f := 1) rfl (by decide +kernel) rfl ?_
        exact A_ret ⟨by decide +kernel, Or.inl rfl⟩ ⟨_, rfl, h23⟩
theorem q_11_pairs  {M : Mem} {P : Int → Mem → Prop} (h : (P (w32 (Int.tdiv (w32 ((M 61 0) * (w32 ((M 61 0) - 1)))) 2)) M)) : CI m11_pairs 1 [(20, ((59 : Nat) : Int))] M P := by
  refine CI_of (by decide +kernel) (Nat.le_of_ble_eq_true rfl) ?_
  show A m11_pairs 1 0 0 [(20, ((59 : Nat) : Int))] [] M (Ki P)
  refine A_aload_n (i := 0) (f := 0) (by omega) rfl (by decide +kernel) rfl ?_
  refine B_getr (o' := ((61 : Nat) : Int)) (q := (RX11, TX11, 59)) (ci := 10) (j := 3) (by decide +kernel) rfl (by decide) rfl (by omega) fl_11_13 rfl ?_
  refine A_iconst (a := 0) (by decide +kernel) (by unfold in32; omega) ?_
  refine B_iald (v := (M 61 0)) (by decide +kernel) (by decide) rfl ?_
  refine A_aload_n (i := 0) (f := 0) (by omega) rfl (by decide +kernel) rfl ?_
  refine B_getr (o' := ((61 : Nat) : Int)) (q := (RX11, TX11, 59)) (ci := 10) (j := 3) (by decide +kernel) rfl (by decide) rfl (by omega) fl_11_13 rfl ?_
  refine A_iconst (a := 0) (by decide +kernel) (by unfold in32; omega) ?_
  refine B_iald (v := (M 61 0)) (by decide +kernel) (by decide) rfl ?_
  refine A_iconst (a := 1) (by decide +kernel) (by unfold in32; omega) ?_
  refine A_isub (by decide +kernel) ?_
  refine A_imul (by decide +kernel) ?_
  refine A_iconst (a := 2) (by decide +kernel) (by unfold in32; omega) ?_
  refine A_idiv (by decide +kernel) (by omega) ?_
  exact A_ret ⟨by decide +kernel, Or.inl rfl⟩ ⟨_, rfl, h⟩
theorem q_11_codes  {M : Mem} {P : Int → Mem → Prop} (h : A m11_codes 2 0 4 [(20, ((59 : Nat) : Int)), (0, 1), (0, 0)] [] M (Ki P)) : CI m11_codes 2 [(20, ((59 : Nat) : Int))] M P := by
  refine CI_of (by decide +kernel) (Nat.le_of_ble_eq_true rfl) ?_
  show A m11_codes 2 0 0 [(20, ((59 : Nat) : Int)), (2, 0), (2, 0)] [] M (Ki P)
  refine A_iconst (a := 1) (by decide +kernel) (by unfold in32; omega) ?_
  refine A_istore_n (i := 1) (f := 1) rfl (by decide +kernel) (by decide) (fun w h0 hw => by simp at hw; first | (rw [← hw]; decide) | (rw [← hw]; simp)) ?_
  refine A_iconst (a := 0) (by decide +kernel) (by unfold in32; omega) ?_
  refine A_istore_n (i := 2) (f := 2) rfl (by decide +kernel) (by decide) (fun w h0 hw => by simp at hw; first | (rw [← hw]; decide) | (rw [← hw]; simp)) ?_
  exact A_weak (lsub.keep (lsub.keep (lsub.keep lsub.nil))) h
theorem r_11_codes_4 {x1 : Int} {x2 : Int} {M : Mem} {P : Int → Mem → Prop} (h : (CI m11_pairs 1 [(20, ((59 : Nat) : Int))] M (fun r1 M2 => ((r1 ≤ x2 → (P x1 M2)) ∧ (x2 < r1 → A m11_codes 2 0 4 [(20, ((59 : Nat) : Int)), (0, (w32 (x1 * 3))), (0, (w32 (x2 + 1)))] [] M2 (Ki P)))))) : A m11_codes 2 0 4 [(20, ((59 : Nat) : Int)), (0, x1), (0, x2)] [] M (Ki P) := by
  refine A_iload_n (i := 2) (f := 2) rfl (by decide +kernel) rfl ?_
  refine A_aload_n (i := 0) (f := 0) (by omega) rfl (by decide +kernel) rfl ?_
  refine A_cVi (q := (RX11, TX11, 59)) (ci := 10) (o := ((59 : Nat) : Int)) (args := []) (st := [(0, x2)]) (by decide +kernel) cv_m11_pairs rfl rfl in_m11_pairs se_m11_pairs lk_11_434 rfl (by omega) (Nat.le_of_ble_eq_true rfl) h (fun r1 M2 _ h3 => ?_)
  refine A_ic_ge (off := 13) (tgt := 22) (by decide +kernel) (by omega) (fun b4 => ?_) (fun b4 => ?_)
  · have h5 := h3.1 b4
    refine A_iload_n (i := 1) (f := 1) rfl (by decide +kernel) rfl ?_
    exact A_ret ⟨by decide +kernel, Or.inl rfl⟩ ⟨_, rfl, h5⟩
  · have h6 := h3.2 (Int.not_le.mp b4)
    refine A_iload_n (i := 1) (f := 1) rfl (by decide +kernel) rfl ?_
    refine A_iconst (a := 3) (by decide +kernel) (by unfold in32; omega) ?_
    refine A_imul (by decide +kernel) ?_
    refine A_istore_n (i := 1) (f := 1) rfl (by decide +kernel) (by decide) (fun w h0 hw => by simp at hw; first | (rw [← hw]; decide) | (rw [← hw]; simp)) ?_
    refine A_iinc (i := 2) (n := 1) (by decide +kernel) (by decide) rfl (fun w h0 hw => by simp at hw; first | (rw [← hw]; decide) | (rw [← hw]; simp)) ?_
    refine A_goto (off := (-15)) (tgt := 4) (by decide +kernel) (by omega) ?_
    exact A_weak (lsub.keep (lsub.keep (lsub.keep lsub.nil))) h6
theorem q_11_layCode {x1 : Int} {M : Mem} {P : Int → Mem → Prop} (h : A m11_layCode 2 0 14 [(20, ((59 : Nat) : Int)), (2, 0), (0, x1), (0, (M 61 0)), (0, (w32 ((M 61 0) - 1))), (2, 0), (2, 0)] [] M (Ki P)) : CI m11_layCode 2 [(20, ((59 : Nat) : Int)), (0, x1)] M P := by
  refine CI_of (by decide +kernel) (Nat.le_of_ble_eq_true rfl) ?_
  show A m11_layCode 2 0 0 [(20, ((59 : Nat) : Int)), (0, x1), (2, 0), (2, 0), (2, 0), (2, 0), (2, 0)] [] M (Ki P)
  refine A_iload_n (i := 1) (f := 1) rfl (by decide +kernel) rfl ?_
  refine A_istore_n (i := 2) (f := 2) rfl (by decide +kernel) (by decide) (fun w h0 hw => by simp at hw; first | (rw [← hw]; decide) | (rw [← hw]; simp)) ?_
  refine A_aload_n (i := 0) (f := 0) (by omega) rfl (by decide +kernel) rfl ?_
  refine B_getr (o' := ((61 : Nat) : Int)) (q := (RX11, TX11, 59)) (ci := 10) (j := 3) (by decide +kernel) rfl (by decide) rfl (by omega) fl_11_13 rfl ?_
  refine A_iconst (a := 0) (by decide +kernel) (by unfold in32; omega) ?_
  refine B_iald (v := (M 61 0)) (by decide +kernel) (by decide) rfl ?_
  refine A_istore_n (i := 3) (f := 3) rfl (by decide +kernel) (by decide) (fun w h0 hw => by simp at hw; first | (rw [← hw]; decide) | (rw [← hw]; simp)) ?_
  refine A_iload_n (i := 3) (f := 3) rfl (by decide +kernel) rfl ?_
  refine A_iconst (a := 1) (by decide +kernel) (by unfold in32; omega) ?_
  refine A_isub (by decide +kernel) ?_
  refine A_istore (i := 4) (by decide +kernel) (by decide) (fun w h0 hw => by simp at hw; first | (rw [← hw]; decide) | (rw [← hw]; simp)) ?_
  exact A_weak (lsub.keep (lsub.drop (lsub.keep (lsub.keep (lsub.keep (lsub.drop (lsub.drop lsub.nil))))))) h
theorem r_11_layCode_14 {x2 : Int} {x3 : Int} {x4 : Int} {M : Mem} {P : Int → Mem → Prop} (h : ((x4 < 0 → A m11_layCode 2 0 111 [(20, ((59 : Nat) : Int)), (2, 0), (2, 0), (0, x3), (0, 0), (2, 0), (2, 0)] [] M (Ki P)) ∧ (0 ≤ x4 → A m11_layCode 2 0 24 [(20, ((59 : Nat) : Int)), (2, 0), (0, x2), (0, x3), (0, x4), (0, (w32 (x3 - 1))), (2, 0)] [] M (Ki P)))) : A m11_layCode 2 0 14 [(20, ((59 : Nat) : Int)), (2, 0), (0, x2), (0, x3), (0, x4), (2, 0), (2, 0)] [] M (Ki P) := by
  refine A_iload (i := 4) (by decide +kernel) rfl ?_
  refine A_if_lt (off := 92) (tgt := 108) (by decide +kernel) (by omega) (fun b1 => ?_) (fun b1 => ?_)
  · have h2 := h.1 b1
    refine A_iconst (a := 0) (by decide +kernel) (by unfold in32; omega) ?_
    refine A_istore (i := 4) (by decide +kernel) (by decide) (fun w h0 hw => by simp at hw; first | (rw [← hw]; decide) | (rw [← hw]; simp)) ?_
    exact A_weak (lsub.keep (lsub.drop (lsub.drop (lsub.keep (lsub.keep (lsub.drop (lsub.drop lsub.nil))))))) h2
  · have h3 := h.2 (Int.not_lt.mp b1)
    refine A_iload_n (i := 3) (f := 3) rfl (by decide +kernel) rfl ?_
    refine A_iconst (a := 1) (by decide +kernel) (by unfold in32; omega) ?_
    refine A_isub (by decide +kernel) ?_
    refine A_istore (i := 5) (by decide +kernel) (by decide) (fun w h0 hw => by simp at hw; first | (rw [← hw]; decide) | (rw [← hw]; simp)) ?_
    exact A_weak (lsub.keep (lsub.drop (lsub.keep (lsub.keep (lsub.keep (lsub.keep (lsub.drop lsub.nil))))))) h3
theorem r_11_layCode_24 {x2 : Int} {x3 : Int} {x4 : Int} {x5 : Int} {M : Mem} {P : Int → Mem → Prop} (h : ((x5 ≤ x4 → (CI m11_pair 1 [(0, x4), (0, x4)] M (fun r4 M5 => ((0 ≤ r4 ∧ r4 < 25) ∧ A m11_layCode 2 0 14 [(20, ((59 : Nat) : Int)), (2, 0), (0, x2), (0, x3), (0, (w32 (x4 + (-1)))), (2, 0), (2, 0)] [] (mset M5 74 (r4).toNat 0) (Ki P))))) ∧ (x4 < x5 → (CI m11_pair 1 [(0, x4), (0, x5)] M (fun r8 M9 => (((w32 (Int.tmod x2 3)) ≠ 1 → ((0 ≤ r8 ∧ r8 < 25) ∧ (CI m11_pair 1 [(0, x5), (0, x4)] (mset M9 74 (r8).toNat 0) (fun r15 M16 => (((w32 (Int.tmod x2 3)) ≠ 2 → ((0 ≤ r15 ∧ r15 < 25) ∧ A m11_layCode 2 0 24 [(20, ((59 : Nat) : Int)), (2, 0), (0, (w32 (Int.tdiv x2 3))), (0, x3), (0, x4), (0, (w32 (x5 + (-1)))), (2, 0)] [] (mset M16 74 (r15).toNat 0) (Ki P))) ∧ ((w32 (Int.tmod x2 3)) = 2 → ((0 ≤ r15 ∧ r15 < 25) ∧ A m11_layCode 2 0 24 [(20, ((59 : Nat) : Int)), (2, 0), (0, (w32 (Int.tdiv x2 3))), (0, x3), (0, x4), (0, (w32 (x5 + (-1)))), (2, 0)] [] (mset M16 74 (r15).toNat 1) (Ki P)))))))) ∧ ((w32 (Int.tmod x2 3)) = 1 → ((0 ≤ r8 ∧ r8 < 25) ∧ (CI m11_pair 1 [(0, x5), (0, x4)] (mset M9 74 (r8).toNat 1) (fun r24 M25 => (((w32 (Int.tmod x2 3)) ≠ 2 → ((0 ≤ r24 ∧ r24 < 25) ∧ A m11_layCode 2 0 24 [(20, ((59 : Nat) : Int)), (2, 0), (0, (w32 (Int.tdiv x2 3))), (0, x3), (0, x4), (0, (w32 (x5 + (-1)))), (2, 0)] [] (mset M25 74 (r24).toNat 0) (Ki P))) ∧ ((w32 (Int.tmod x2 3)) = 2 → ((0 ≤ r24 ∧ r24 < 25) ∧ A m11_layCode 2 0 24 [(20, ((59 : Nat) : Int)), (2, 0), (0, (w32 (Int.tdiv x2 3))), (0, x3), (0, x4), (0, (w32 (x5 + (-1)))), (2, 0)] [] (mset M25 74 (r24).toNat 1) (Ki P)))))))))))))) : A m11_layCode 2 0 24 [(20, ((59 : Nat) : Int)), (2, 0), (0, x2), (0, x3), (0, x4), (0, x5), (2, 0)] [] M (Ki P) := by
  refine A_iload (i := 5) (by decide +kernel) rfl ?_
  refine A_iload (i := 4) (by decide +kernel) rfl ?_
  refine A_ic_le (off := 61) (tgt := 89) (by decide +kernel) (by omega) (fun b1 => ?_) (fun b1 => ?_)
  · have h2 := h.1 b1
    refine A_aload_n (i := 0) (f := 0) (by omega) rfl (by decide +kernel) rfl ?_
    refine B_getr (o' := ((74 : Nat) : Int)) (q := (RX11, TX11, 59)) (ci := 10) (j := 29) (by decide +kernel) rfl (by decide) rfl (by omega) fl_11_57 rfl ?_
    refine A_iload (i := 4) (by decide +kernel) rfl ?_
    refine A_iload (i := 4) (by decide +kernel) rfl ?_
    refine A_cSi (args := [(0, x4), (0, x4)]) (st := [(31, ((74 : Nat) : Int))]) (by decide +kernel) cv_m11_pair st_m11_pair lk_11_242 rfl (by omega) (Nat.le_of_ble_eq_true rfl) h2 (fun r4 M5 _ h6 => ?_)
    refine A_iconst (a := 0) (by decide +kernel) (by unfold in32; omega) ?_
    refine B_zast (M' := (mset M5 74 (r4).toNat 0)) (by decide +kernel) h6.1 (by decide) rfl ?_
    have h7 := h6.2
    refine A_iinc (i := 4) (n := (-1)) (by decide +kernel) (by decide) rfl (fun w h0 hw => by simp at hw; first | (rw [← hw]; decide) | (rw [← hw]; simp)) ?_
    refine A_goto (off := (-91)) (tgt := 14) (by decide +kernel) (by omega) ?_
    exact A_weak (lsub.keep (lsub.drop (lsub.keep (lsub.keep (lsub.keep (lsub.drop (lsub.drop lsub.nil))))))) h7
  · have h3 := h.2 (Int.not_le.mp b1)
    refine A_aload_n (i := 0) (f := 0) (by omega) rfl (by decide +kernel) rfl ?_
    refine B_getr (o' := ((74 : Nat) : Int)) (q := (RX11, TX11, 59)) (ci := 10) (j := 29) (by decide +kernel) rfl (by decide) rfl (by omega) fl_11_57 rfl ?_
    refine A_iload (i := 4) (by decide +kernel) rfl ?_
    refine A_iload (i := 5) (by decide +kernel) rfl ?_
    refine A_cSi (args := [(0, x4), (0, x5)]) (st := [(31, ((74 : Nat) : Int))]) (by decide +kernel) cv_m11_pair st_m11_pair lk_11_242 rfl (by omega) (Nat.le_of_ble_eq_true rfl) h3 (fun r8 M9 _ h10 => ?_)
    refine A_iload_n (i := 2) (f := 2) rfl (by decide +kernel) rfl ?_
    refine A_iconst (a := 3) (by decide +kernel) (by unfold in32; omega) ?_
    refine A_irem (by decide +kernel) (by omega) ?_
    refine A_iconst (a := 1) (by decide +kernel) (by unfold in32; omega) ?_
    refine A_ic_ne (off := 7) (tgt := 53) (by decide +kernel) (by omega) (fun b11 => ?_) (fun b11 => ?_)
    · have h12 := h10.1 b11
      refine A_iconst (a := 0) (by decide +kernel) (by unfold in32; omega) ?_
      refine B_zast (M' := (mset M9 74 (r8).toNat 0)) (by decide +kernel) h12.1 (by decide) rfl ?_
      have h14 := h12.2
      refine A_aload_n (i := 0) (f := 0) (by omega) rfl (by decide +kernel) rfl ?_
      refine B_getr (o' := ((74 : Nat) : Int)) (q := (RX11, TX11, 59)) (ci := 10) (j := 29) (by decide +kernel) rfl (by decide) rfl (by omega) fl_11_57 rfl ?_
      refine A_iload (i := 5) (by decide +kernel) rfl ?_
      refine A_iload (i := 4) (by decide +kernel) rfl ?_
      refine A_cSi (args := [(0, x5), (0, x4)]) (st := [(31, ((74 : Nat) : Int))]) (by decide +kernel) cv_m11_pair st_m11_pair lk_11_242 rfl (by omega) (Nat.le_of_ble_eq_true rfl) h14 (fun r15 M16 _ h17 => ?_)
      refine A_iload_n (i := 2) (f := 2) rfl (by decide +kernel) rfl ?_
      refine A_iconst (a := 3) (by decide +kernel) (by unfold in32; omega) ?_
      refine A_irem (by decide +kernel) (by omega) ?_
      refine A_iconst (a := 2) (by decide +kernel) (by unfold in32; omega) ?_
      refine A_ic_ne (off := 7) (tgt := 77) (by decide +kernel) (by omega) (fun b18 => ?_) (fun b18 => ?_)
      · have h19 := h17.1 b18
        refine A_iconst (a := 0) (by decide +kernel) (by unfold in32; omega) ?_
        refine B_zast (M' := (mset M16 74 (r15).toNat 0)) (by decide +kernel) h19.1 (by decide) rfl ?_
        have h21 := h19.2
        refine A_iload_n (i := 2) (f := 2) rfl (by decide +kernel) rfl ?_
        refine A_iconst (a := 3) (by decide +kernel) (by unfold in32; omega) ?_
        refine A_idiv (by decide +kernel) (by omega) ?_
        refine A_istore_n (i := 2) (f := 2) rfl (by decide +kernel) (by decide) (fun w h0 hw => by simp at hw; first | (rw [← hw]; decide) | (rw [← hw]; simp)) ?_
        refine A_iinc (i := 5) (n := (-1)) (by decide +kernel) (by decide) rfl (fun w h0 hw => by simp at hw; first | (rw [← hw]; decide) | (rw [← hw]; simp)) ?_
        refine A_goto (off := (-62)) (tgt := 24) (by decide +kernel) (by omega) ?_
        exact A_weak (lsub.keep (lsub.drop (lsub.keep (lsub.keep (lsub.keep (lsub.keep (lsub.drop lsub.nil))))))) h21
      · have h20 := h17.2 (Decidable.not_not.mp b18)
        refine A_iconst (a := 1) (by decide +kernel) (by unfold in32; omega) ?_
        refine A_goto (off := 4) (tgt := 78) (by decide +kernel) (by omega) ?_
        refine B_zast (M' := (mset M16 74 (r15).toNat 1)) (by decide +kernel) h20.1 (by decide) rfl ?_
        have h22 := h20.2
        refine A_iload_n (i := 2) (f := 2) rfl (by decide +kernel) rfl ?_
        refine A_iconst (a := 3) (by decide +kernel) (by unfold in32; omega) ?_
        refine A_idiv (by decide +kernel) (by omega) ?_
        refine A_istore_n (i := 2) (f := 2) rfl (by decide +kernel) (by decide) (fun w h0 hw => by simp at hw; first | (rw [← hw]; decide) | (rw [← hw]; simp)) ?_
        refine A_iinc (i := 5) (n := (-1)) (by decide +kernel) (by decide) rfl (fun w h0 hw => by simp at hw; first | (rw [← hw]; decide) | (rw [← hw]; simp)) ?_
        refine A_goto (off := (-62)) (tgt := 24) (by decide +kernel) (by omega) ?_
        exact A_weak (lsub.keep (lsub.drop (lsub.keep (lsub.keep (lsub.keep (lsub.keep (lsub.drop lsub.nil))))))) h22
    · have h13 := h10.2 (Decidable.not_not.mp b11)
      refine A_iconst (a := 1) (by decide +kernel) (by unfold in32; omega) ?_
      refine A_goto (off := 4) (tgt := 54) (by decide +kernel) (by omega) ?_
      refine B_zast (M' := (mset M9 74 (r8).toNat 1)) (by decide +kernel) h13.1 (by decide) rfl ?_
      have h23 := h13.2
      refine A_aload_n (i := 0) (f := 0) (by omega) rfl (by decide +kernel) rfl ?_
      refine B_getr (o' := ((74 : Nat) : Int)) (q := (RX11, TX11, 59)) (ci := 10) (j := 29) (by decide +kernel) rfl (by decide) rfl (by omega) fl_11_57 rfl ?_
      refine A_iload (i := 5) (by decide +kernel) rfl ?_
      refine A_iload (i := 4) (by decide +kernel) rfl ?_
      refine A_cSi (args := [(0, x5), (0, x4)]) (st := [(31, ((74 : Nat) : Int))]) (by decide +kernel) cv_m11_pair st_m11_pair lk_11_242 rfl (by omega) (Nat.le_of_ble_eq_true rfl) h23 (fun r24 M25 _ h26 => ?_)
      refine A_iload_n (i := 2) (f := 2) rfl (by decide +kernel) rfl ?_
      refine A_iconst (a := 3) (by decide +kernel) (by unfold in32; omega) ?_
      refine A_irem (by decide +kernel) (by omega) ?_
      refine A_iconst (a := 2) (by decide +kernel) (by unfold in32; omega) ?_
      refine A_ic_ne (off := 7) (tgt := 77) (by decide +kernel) (by omega) (fun b27 => ?_) (fun b27 => ?_)
      · have h28 := h26.1 b27
        refine A_iconst (a := 0) (by decide +kernel) (by unfold in32; omega) ?_
        refine B_zast (M' := (mset M25 74 (r24).toNat 0)) (by decide +kernel) h28.1 (by decide) rfl ?_
        have h30 := h28.2
        refine A_iload_n (i := 2) (f := 2) rfl (by decide +kernel) rfl ?_
        refine A_iconst (a := 3) (by decide +kernel) (by unfold in32; omega) ?_
        refine A_idiv (by decide +kernel) (by omega) ?_
        refine A_istore_n (i := 2) (f := 2) rfl (by decide +kernel) (by decide) (fun w h0 hw => by simp at hw; first | (rw [← hw]; decide) | (rw [← hw]; simp)) ?_
        refine A_iinc (i := 5) (n := (-1)) (by decide +kernel) (by decide) rfl (fun w h0 hw => by simp at hw; first | (rw [← hw]; decide) | (rw [← hw]; simp)) ?_
        refine A_goto (off := (-62)) (tgt := 24) (by decide +kernel) (by omega) ?_
        exact A_weak (lsub.keep (lsub.drop (lsub.keep (lsub.keep (lsub.keep (lsub.keep (lsub.drop lsub.nil))))))) h30
      · have h29 := h26.2 (Decidable.not_not.mp b27)
        refine A_iconst (a := 1) (by decide +kernel) (by unfold in32; omega) ?_
        refine A_goto (off := 4) (tgt := 78) (by decide +kernel) (by omega) ?_
        refine B_zast (M' := (mset M25 74 (r24).toNat 1)) (by decide +kernel) h29.1 (by decide) rfl ?_
        have h31 := h29.2
        refine A_iload_n (i := 2) (f := 2) rfl (by decide +kernel) rfl ?_
        refine A_iconst (a := 3) (by decide +kernel) (by unfold in32; omega) ?_
        refine A_idiv (by decide +kernel) (by omega) ?_
        refine A_istore_n (i := 2) (f := 2) rfl (by decide +kernel) (by decide) (fun w h0 hw => by simp at hw; first | (rw [← hw]; decide) | (rw [← hw]; simp)) ?_
        refine A_iinc (i := 5) (n := (-1)) (by decide +kernel) (by decide) rfl (fun w h0 hw => by simp at hw; first | (rw [← hw]; decide) | (rw [← hw]; simp)) ?_
        refine A_goto (off := (-62)) (tgt := 24) (by decide +kernel) (by omega) ?_
        exact A_weak (lsub.keep (lsub.drop (lsub.keep (lsub.keep (lsub.keep (lsub.keep (lsub.drop lsub.nil))))))) h31
theorem r_11_layCode_111 {x3 : Int} {x4 : Int} {M : Mem} {P : Int → Mem → Prop} (h : ((x3 ≤ x4 → (P 1 M)) ∧ (x4 < x3 → A m11_layCode 2 0 120 [(20, ((59 : Nat) : Int)), (2, 0), (2, 0), (0, x3), (0, x4), (0, 0), (2, 0)] [] M (Ki P)))) : A m11_layCode 2 0 111 [(20, ((59 : Nat) : Int)), (2, 0), (2, 0), (0, x3), (0, x4), (2, 0), (2, 0)] [] M (Ki P) := by
  refine A_iload (i := 4) (by decide +kernel) rfl ?_
  refine A_iload_n (i := 3) (f := 3) rfl (by decide +kernel) rfl ?_
  refine A_ic_ge (off := 86) (tgt := 200) (by decide +kernel) (by omega) (fun b1 => ?_) (fun b1 => ?_)
  · have h2 := h.1 b1
    refine A_iconst (a := 1) (by decide +kernel) (by unfold in32; omega) ?_
    exact A_ret ⟨by decide +kernel, Or.inr ⟨rfl, by decide⟩⟩ ⟨_, rfl, h2⟩
  · have h3 := h.2 (Int.not_le.mp b1)
    refine A_iconst (a := 0) (by decide +kernel) (by unfold in32; omega) ?_
    refine A_istore (i := 5) (by decide +kernel) (by decide) (fun w h0 hw => by simp at hw; first | (rw [← hw]; decide) | (rw [← hw]; simp)) ?_
    exact A_weak (lsub.keep (lsub.drop (lsub.drop (lsub.keep (lsub.keep (lsub.keep (lsub.drop lsub.nil))))))) h3
theorem r_11_layCode_120 {x3 : Int} {x4 : Int} {x5 : Int} {M : Mem} {P : Int → Mem → Prop} (h : ((x3 ≤ x5 → A m11_layCode 2 0 111 [(20, ((59 : Nat) : Int)), (2, 0), (2, 0), (0, x3), (0, (w32 (x4 + 1))), (2, 0), (2, 0)] [] M (Ki P)) ∧ (x5 < x3 → A m11_layCode 2 0 129 [(20, ((59 : Nat) : Int)), (2, 0), (2, 0), (0, x3), (0, x4), (0, x5), (0, 0)] [] M (Ki P)))) : A m11_layCode 2 0 120 [(20, ((59 : Nat) : Int)), (2, 0), (2, 0), (0, x3), (0, x4), (0, x5), (2, 0)] [] M (Ki P) := by
  refine A_iload (i := 5) (by decide +kernel) rfl ?_
  refine A_iload_n (i := 3) (f := 3) rfl (by decide +kernel) rfl ?_
  refine A_ic_ge (off := 71) (tgt := 194) (by decide +kernel) (by omega) (fun b1 => ?_) (fun b1 => ?_)
  · have h2 := h.1 b1
    refine A_iinc (i := 4) (n := 1) (by decide +kernel) (by decide) rfl (fun w h0 hw => by simp at hw; first | (rw [← hw]; decide) | (rw [← hw]; simp)) ?_
    refine A_goto (off := (-86)) (tgt := 111) (by decide +kernel) (by omega) ?_
    exact A_weak (lsub.keep (lsub.drop (lsub.drop (lsub.keep (lsub.keep (lsub.drop (lsub.drop lsub.nil))))))) h2
  · have h3 := h.2 (Int.not_le.mp b1)
    refine A_iconst (a := 0) (by decide +kernel) (by unfold in32; omega) ?_
    refine A_istore (i := 6) (by decide +kernel) (by decide) (fun w h0 hw => by simp at hw; first | (rw [← hw]; decide) | (rw [← hw]; simp)) ?_
    exact A_weak (lsub.keep (lsub.drop (lsub.drop (lsub.keep (lsub.keep (lsub.keep (lsub.keep lsub.nil))))))) h3
theorem r_11_layCode_129 {x3 : Int} {x4 : Int} {x5 : Int} {x6 : Int} {M : Mem} {P : Int → Mem → Prop} (h : ((x3 ≤ x6 → A m11_layCode 2 0 120 [(20, ((59 : Nat) : Int)), (2, 0), (2, 0), (0, x3), (0, x4), (0, (w32 (x5 + 1))), (2, 0)] [] M (Ki P)) ∧ (x6 < x3 → (CI m11_pair 1 [(0, x4), (0, x5)] M (fun r4 M5 => ((0 ≤ r4 ∧ r4 < 25) ∧ (((M5 74 (r4).toNat) = 0 → A m11_layCode 2 0 120 [(20, ((59 : Nat) : Int)), (2, 0), (2, 0), (0, x3), (0, x4), (0, (w32 (x5 + 1))), (2, 0)] [] M5 (Ki P)) ∧ ((M5 74 (r4).toNat) ≠ 0 → (CI m11_pair 1 [(0, x5), (0, x6)] M5 (fun r11 M12 => ((0 ≤ r11 ∧ r11 < 25) ∧ (((M12 74 (r11).toNat) = 0 → A m11_layCode 2 0 129 [(20, ((59 : Nat) : Int)), (2, 0), (2, 0), (0, x3), (0, x4), (0, x5), (0, (w32 (x6 + 1)))] [] M12 (Ki P)) ∧ ((M12 74 (r11).toNat) ≠ 0 → (CI m11_pair 1 [(0, x4), (0, x6)] M12 (fun r18 M19 => ((0 ≤ r18 ∧ r18 < 25) ∧ (((M19 74 (r18).toNat) ≠ 0 → A m11_layCode 2 0 129 [(20, ((59 : Nat) : Int)), (2, 0), (2, 0), (0, x3), (0, x4), (0, x5), (0, (w32 (x6 + 1)))] [] M19 (Ki P)) ∧ ((M19 74 (r18).toNat) = 0 → (P 0 M19))))))))))))))))))) : A m11_layCode 2 0 129 [(20, ((59 : Nat) : Int)), (2, 0), (2, 0), (0, x3), (0, x4), (0, x5), (0, x6)] [] M (Ki P) := by
  refine A_iload (i := 6) (by decide +kernel) rfl ?_
  refine A_iload_n (i := 3) (f := 3) rfl (by decide +kernel) rfl ?_
  refine A_ic_ge (off := 56) (tgt := 188) (by decide +kernel) (by omega) (fun b1 => ?_) (fun b1 => ?_)
  · have h2 := h.1 b1
    refine A_iinc (i := 5) (n := 1) (by decide +kernel) (by decide) rfl (fun w h0 hw => by simp at hw; first | (rw [← hw]; decide) | (rw [← hw]; simp)) ?_
    refine A_goto (off := (-71)) (tgt := 120) (by decide +kernel) (by omega) ?_
    exact A_weak (lsub.keep (lsub.drop (lsub.drop (lsub.keep (lsub.keep (lsub.keep (lsub.drop lsub.nil))))))) h2
  · have h3 := h.2 (Int.not_le.mp b1)
    refine A_aload_n (i := 0) (f := 0) (by omega) rfl (by decide +kernel) rfl ?_
    refine B_getr (o' := ((74 : Nat) : Int)) (q := (RX11, TX11, 59)) (ci := 10) (j := 29) (by decide +kernel) rfl (by decide) rfl (by omega) fl_11_57 rfl ?_
    refine A_iload (i := 4) (by decide +kernel) rfl ?_
    refine A_iload (i := 5) (by decide +kernel) rfl ?_
    refine A_cSi (args := [(0, x4), (0, x5)]) (st := [(31, ((74 : Nat) : Int))]) (by decide +kernel) cv_m11_pair st_m11_pair lk_11_242 rfl (by omega) (Nat.le_of_ble_eq_true rfl) h3 (fun r4 M5 _ h6 => ?_)
    refine B_zald (v := (M5 74 (r4).toNat)) (by decide +kernel) h6.1 rfl ?_
    have h7 := h6.2
    refine A_if_eq (off := 41) (tgt := 188) (by decide +kernel) (by omega) (fun b8 => ?_) (fun b8 => ?_)
    · have h9 := h7.1 b8
      refine A_iinc (i := 5) (n := 1) (by decide +kernel) (by decide) rfl (fun w h0 hw => by simp at hw; first | (rw [← hw]; decide) | (rw [← hw]; simp)) ?_
      refine A_goto (off := (-71)) (tgt := 120) (by decide +kernel) (by omega) ?_
      exact A_weak (lsub.keep (lsub.drop (lsub.drop (lsub.keep (lsub.keep (lsub.keep (lsub.drop lsub.nil))))))) h9
    · have h10 := h7.2 b8
      refine A_aload_n (i := 0) (f := 0) (by omega) rfl (by decide +kernel) rfl ?_
      refine B_getr (o' := ((74 : Nat) : Int)) (q := (RX11, TX11, 59)) (ci := 10) (j := 29) (by decide +kernel) rfl (by decide) rfl (by omega) fl_11_57 rfl ?_
      refine A_iload (i := 5) (by decide +kernel) rfl ?_
      refine A_iload (i := 6) (by decide +kernel) rfl ?_
      refine A_cSi (args := [(0, x5), (0, x6)]) (st := [(31, ((74 : Nat) : Int))]) (by decide +kernel) cv_m11_pair st_m11_pair lk_11_242 rfl (by omega) (Nat.le_of_ble_eq_true rfl) h10 (fun r11 M12 _ h13 => ?_)
      refine B_zald (v := (M12 74 (r11).toNat)) (by decide +kernel) h13.1 rfl ?_
      have h14 := h13.2
      refine A_if_eq (off := 20) (tgt := 182) (by decide +kernel) (by omega) (fun b15 => ?_) (fun b15 => ?_)
      · have h16 := h14.1 b15
        refine A_iinc (i := 6) (n := 1) (by decide +kernel) (by decide) rfl (fun w h0 hw => by simp at hw; first | (rw [← hw]; decide) | (rw [← hw]; simp)) ?_
        refine A_goto (off := (-56)) (tgt := 129) (by decide +kernel) (by omega) ?_
        exact A_weak (lsub.keep (lsub.drop (lsub.drop (lsub.keep (lsub.keep (lsub.keep (lsub.keep lsub.nil))))))) h16
      · have h17 := h14.2 b15
        refine A_aload_n (i := 0) (f := 0) (by omega) rfl (by decide +kernel) rfl ?_
        refine B_getr (o' := ((74 : Nat) : Int)) (q := (RX11, TX11, 59)) (ci := 10) (j := 29) (by decide +kernel) rfl (by decide) rfl (by omega) fl_11_57 rfl ?_
        refine A_iload (i := 4) (by decide +kernel) rfl ?_
        refine A_iload (i := 6) (by decide +kernel) rfl ?_
        refine A_cSi (args := [(0, x4), (0, x6)]) (st := [(31, ((74 : Nat) : Int))]) (by decide +kernel) cv_m11_pair st_m11_pair lk_11_242 rfl (by omega) (Nat.le_of_ble_eq_true rfl) h17 (fun r18 M19 _ h20 => ?_)
        refine B_zald (v := (M19 74 (r18).toNat)) (by decide +kernel) h20.1 rfl ?_
        have h21 := h20.2
        refine A_if_ne (off := 5) (tgt := 182) (by decide +kernel) (by omega) (fun b22 => ?_) (fun b22 => ?_)
        · have h23 := h21.1 b22
          refine A_iinc (i := 6) (n := 1) (by decide +kernel) (by decide) rfl (fun w h0 hw => by simp at hw; first | (rw [← hw]; decide) | (rw [← hw]; simp)) ?_
          refine A_goto (off := (-56)) (tgt := 129) (by decide +kernel) (by omega) ?_
          exact A_weak (lsub.keep (lsub.drop (lsub.drop (lsub.keep (lsub.keep (lsub.keep (lsub.keep lsub.nil))))))) h23
        · have h24 := h21.2 (Decidable.not_not.mp b22)
          refine A_iconst (a := 0) (by decide +kernel) (by unfold in32; omega) ?_
          exact A_ret ⟨by decide +kernel, Or.inr ⟨rfl, by decide⟩⟩ ⟨_, rfl, h24⟩
theorem q_11_possible  {M : Mem} {P : Int → Mem → Prop} (h : (CD m11_strikes 2 [(20, ((59 : Nat) : Int))] (mset M 59 0 0) (fun M2 => A m11_possible 7 0 13 [(20, ((59 : Nat) : Int)), (0, 0), (0, 0)] [] M2 (Ki P)))) : CI m11_possible 7 [(20, ((59 : Nat) : Int))] M P := by
  refine CI_of (by decide +kernel) (Nat.le_of_ble_eq_true rfl) ?_
  show A m11_possible 7 0 0 [(20, ((59 : Nat) : Int)), (2, 0), (2, 0)] [] M (Ki P)
  refine A_aload_n (i := 0) (f := 0) (by omega) rfl (by decide +kernel) rfl ?_
  refine A_iconst (a := 0) (by decide +kernel) (by unfold in32; omega) ?_
  refine B_putp (M' := (mset M 59 0 0)) (q := (RX11, TX11, 59)) (ci := 10) (j := 0) (p := 0) (by decide +kernel) rfl (by decide) rfl (Or.inl ⟨rfl, rfl⟩) rfl fl_11_118 rfl ?_
  refine A_aload_n (i := 0) (f := 0) (by omega) rfl (by decide +kernel) rfl ?_
  refine A_cVd (q := (RX11, TX11, 59)) (ci := 10) (o := ((59 : Nat) : Int)) (args := []) (st := []) (by decide +kernel) cv_m11_strikes rfl rfl in_m11_strikes se_m11_strikes lk_11_437 rfl (by omega) (Nat.le_of_ble_eq_true rfl) h (fun M2 h3 => ?_)
  refine A_iconst (a := 0) (by decide +kernel) (by unfold in32; omega) ?_
  refine A_istore_n (i := 1) (f := 1) rfl (by decide +kernel) (by decide) (fun w h0 hw => by simp at hw; first | (rw [← hw]; decide) | (rw [← hw]; simp)) ?_
  refine A_iconst (a := 0) (by decide +kernel) (by unfold in32; omega) ?_
  refine A_istore_n (i := 2) (f := 2) rfl (by decide +kernel) (by decide) (fun w h0 hw => by simp at hw; first | (rw [← hw]; decide) | (rw [← hw]; simp)) ?_
  exact A_weak (lsub.keep (lsub.keep (lsub.keep lsub.nil))) h3
theorem r_11_possible_13 {x1 : Int} {x2 : Int} {M : Mem} {P : Int → Mem → Prop} (h : (CI m11_codes 2 [(20, ((59 : Nat) : Int))] M (fun r1 M2 => ((r1 ≤ x2 → (P x1 M2)) ∧ (x2 < r1 → (CI m11_layCode 2 [(20, ((59 : Nat) : Int)), (0, x2)] M2 (fun r7 M8 => ((r7 = 0 → A m11_possible 7 0 13 [(20, ((59 : Nat) : Int)), (0, x1), (0, (w32 (x2 + 1)))] [] M8 (Ki P)) ∧ (r7 ≠ 0 → (CI m11_firstWrong 6 [(20, ((59 : Nat) : Int))] M8 (fun r13 M14 => ((r13 ≠ (-1) → A m11_possible 7 0 13 [(20, ((59 : Nat) : Int)), (0, x1), (0, (w32 (x2 + 1)))] [] M14 (Ki P)) ∧ (r13 = (-1) → A m11_possible 7 0 13 [(20, ((59 : Nat) : Int)), (0, (w32 (x1 + 1))), (0, (w32 (x2 + 1)))] [] M14 (Ki P)))))))))))))) : A m11_possible 7 0 13 [(20, ((59 : Nat) : Int)), (0, x1), (0, x2)] [] M (Ki P) := by
  refine A_iload_n (i := 2) (f := 2) rfl (by decide +kernel) rfl ?_
  refine A_aload_n (i := 0) (f := 0) (by omega) rfl (by decide +kernel) rfl ?_
  refine A_cVi (q := (RX11, TX11, 59)) (ci := 10) (o := ((59 : Nat) : Int)) (args := []) (st := [(0, x2)]) (by decide +kernel) cv_m11_codes rfl rfl in_m11_codes se_m11_codes lk_11_440 rfl (by omega) (Nat.le_of_ble_eq_true rfl) h (fun r1 M2 _ h3 => ?_)
  refine A_ic_ge (off := 28) (tgt := 46) (by decide +kernel) (by omega) (fun b4 => ?_) (fun b4 => ?_)
  · have h5 := h3.1 b4
    refine A_iload_n (i := 1) (f := 1) rfl (by decide +kernel) rfl ?_
    exact A_ret ⟨by decide +kernel, Or.inl rfl⟩ ⟨_, rfl, h5⟩
  · have h6 := h3.2 (Int.not_le.mp b4)
    refine A_aload_n (i := 0) (f := 0) (by omega) rfl (by decide +kernel) rfl ?_
    refine A_iload_n (i := 2) (f := 2) rfl (by decide +kernel) rfl ?_
    refine A_cVi (q := (RX11, TX11, 59)) (ci := 10) (o := ((59 : Nat) : Int)) (args := [(0, x2)]) (st := []) (by decide +kernel) cv_m11_layCode rfl rfl in_m11_layCode se_m11_layCode lk_11_443 rfl (by omega) (Nat.le_of_ble_eq_true rfl) h6 (fun r7 M8 _ h9 => ?_)
    refine A_if_eq (off := 14) (tgt := 40) (by decide +kernel) (by omega) (fun b10 => ?_) (fun b10 => ?_)
    · have h11 := h9.1 b10
      refine A_iinc (i := 2) (n := 1) (by decide +kernel) (by decide) rfl (fun w h0 hw => by simp at hw; first | (rw [← hw]; decide) | (rw [← hw]; simp)) ?_
      refine A_goto (off := (-30)) (tgt := 13) (by decide +kernel) (by omega) ?_
      exact A_weak (lsub.keep (lsub.keep (lsub.keep lsub.nil))) h11
    · have h12 := h9.2 b10
      refine A_aload_n (i := 0) (f := 0) (by omega) rfl (by decide +kernel) rfl ?_
      refine A_cVi (q := (RX11, TX11, 59)) (ci := 10) (o := ((59 : Nat) : Int)) (args := []) (st := []) (by decide +kernel) cv_m11_firstWrong rfl rfl in_m11_firstWrong se_m11_firstWrong lk_11_446 rfl (by omega) (Nat.le_of_ble_eq_true rfl) h12 (fun r13 M14 _ h15 => ?_)
      refine A_iconst (a := (-1)) (by decide +kernel) (by unfold in32; omega) ?_
      refine A_ic_ne (off := 6) (tgt := 40) (by decide +kernel) (by omega) (fun b16 => ?_) (fun b16 => ?_)
      · have h17 := h15.1 b16
        refine A_iinc (i := 2) (n := 1) (by decide +kernel) (by decide) rfl (fun w h0 hw => by simp at hw; first | (rw [← hw]; decide) | (rw [← hw]; simp)) ?_
        refine A_goto (off := (-30)) (tgt := 13) (by decide +kernel) (by omega) ?_
        exact A_weak (lsub.keep (lsub.keep (lsub.keep lsub.nil))) h17
      · have h18 := h15.2 (Decidable.not_not.mp b16)
        refine A_iinc (i := 1) (n := 1) (by decide +kernel) (by decide) rfl (fun w h0 hw => by simp at hw; first | (rw [← hw]; decide) | (rw [← hw]; simp)) ?_
        refine A_iinc (i := 2) (n := 1) (by decide +kernel) (by decide) rfl (fun w h0 hw => by simp at hw; first | (rw [← hw]; decide) | (rw [← hw]; simp)) ?_
        refine A_goto (off := (-30)) (tgt := 13) (by decide +kernel) (by omega) ?_
        exact A_weak (lsub.keep (lsub.keep (lsub.keep lsub.nil))) h18
theorem q_11_sure {x1 : Int} {x2 : Int} {M : Mem} {P : Int → Mem → Prop} (h : (CI m11_areTwo 2 [(20, ((59 : Nat) : Int)), (0, x1), (0, x2)] (mset M 59 0 0) (fun r1 M2 => ((r1 ≠ 0 → (CD m11_strikes 2 [(20, ((59 : Nat) : Int))] M2 (fun M8 => A m11_sure 7 0 26 [(20, ((59 : Nat) : Int)), (0, x1), (0, x2), (0, (-2)), (0, 0), (2, 0)] [] M8 (Ki P)))) ∧ (r1 = 0 → (P (-1) M2)))))) : CI m11_sure 7 [(20, ((59 : Nat) : Int)), (0, x1), (0, x2)] M P := by
  refine CI_of (by decide +kernel) (Nat.le_of_ble_eq_true rfl) ?_
  show A m11_sure 7 0 0 [(20, ((59 : Nat) : Int)), (0, x1), (0, x2), (2, 0), (2, 0), (2, 0)] [] M (Ki P)
  refine A_aload_n (i := 0) (f := 0) (by omega) rfl (by decide +kernel) rfl ?_
  refine A_iconst (a := 0) (by decide +kernel) (by unfold in32; omega) ?_
  refine B_putp (M' := (mset M 59 0 0)) (q := (RX11, TX11, 59)) (ci := 10) (j := 0) (p := 0) (by decide +kernel) rfl (by decide) rfl (Or.inl ⟨rfl, rfl⟩) rfl fl_11_118 rfl ?_
  refine A_aload_n (i := 0) (f := 0) (by omega) rfl (by decide +kernel) rfl ?_
  refine A_iload_n (i := 1) (f := 1) rfl (by decide +kernel) rfl ?_
  refine A_iload_n (i := 2) (f := 2) rfl (by decide +kernel) rfl ?_
  refine A_cVi (q := (RX11, TX11, 59)) (ci := 10) (o := ((59 : Nat) : Int)) (args := [(0, x1), (0, x2)]) (st := []) (by decide +kernel) cv_m11_areTwo rfl rfl in_m11_areTwo se_m11_areTwo lk_11_312 rfl (by omega) (Nat.le_of_ble_eq_true rfl) h (fun r1 M2 _ h3 => ?_)
  refine A_if_ne (off := 5) (tgt := 16) (by decide +kernel) (by omega) (fun b4 => ?_) (fun b4 => ?_)
  · have h5 := h3.1 b4
    refine A_aload_n (i := 0) (f := 0) (by omega) rfl (by decide +kernel) rfl ?_
    refine A_cVd (q := (RX11, TX11, 59)) (ci := 10) (o := ((59 : Nat) : Int)) (args := []) (st := []) (by decide +kernel) cv_m11_strikes rfl rfl in_m11_strikes se_m11_strikes lk_11_437 rfl (by omega) (Nat.le_of_ble_eq_true rfl) h5 (fun M8 h9 => ?_)
    refine A_bipush (a := (-2)) (by decide +kernel) (by unfold in32; omega) (by decide +kernel) ?_
    refine A_istore_n (i := 3) (f := 3) rfl (by decide +kernel) (by decide) (fun w h0 hw => by simp at hw; first | (rw [← hw]; decide) | (rw [← hw]; simp)) ?_
    refine A_iconst (a := 0) (by decide +kernel) (by unfold in32; omega) ?_
    refine A_istore (i := 4) (by decide +kernel) (by decide) (fun w h0 hw => by simp at hw; first | (rw [← hw]; decide) | (rw [← hw]; simp)) ?_
    exact A_weak (lsub.keep (lsub.keep (lsub.keep (lsub.keep (lsub.keep (lsub.drop lsub.nil)))))) h9
  · have h6 := h3.2 (Decidable.not_not.mp b4)
    refine A_iconst (a := (-1)) (by decide +kernel) (by unfold in32; omega) ?_
    exact A_ret ⟨by decide +kernel, Or.inl rfl⟩ ⟨_, rfl, h6⟩
theorem r_11_sure_26 {x1 : Int} {x2 : Int} {x3 : Int} {x4 : Int} {M : Mem} {P : Int → Mem → Prop} (h : (CI m11_codes 2 [(20, ((59 : Nat) : Int))] M (fun r1 M2 => ((r1 ≤ x4 → (P x3 M2)) ∧ (x4 < r1 → (CI m11_layCode 2 [(20, ((59 : Nat) : Int)), (0, x4)] M2 (fun r7 M8 => ((r7 = 0 → A m11_sure 7 0 26 [(20, ((59 : Nat) : Int)), (0, x1), (0, x2), (0, x3), (0, (w32 (x4 + 1))), (2, 0)] [] M8 (Ki P)) ∧ (r7 ≠ 0 → (CI m11_firstWrong 6 [(20, ((59 : Nat) : Int))] M8 (fun r13 M14 => ((r13 = (-1) → (CI m11_standsLaid 2 [(20, ((59 : Nat) : Int)), (0, x1), (0, x2)] M14 (fun r19 M20 => ((x3 = (-2) → A m11_sure 7 0 26 [(20, ((59 : Nat) : Int)), (0, x1), (0, x2), (0, r19), (0, (w32 (x4 + 1))), (2, 0)] [] M20 (Ki P)) ∧ (x3 ≠ (-2) → ((x3 = r19 → A m11_sure 7 0 26 [(20, ((59 : Nat) : Int)), (0, x1), (0, x2), (0, r19), (0, (w32 (x4 + 1))), (2, 0)] [] M20 (Ki P)) ∧ (x3 ≠ r19 → (P 3 M20)))))))) ∧ (r13 ≠ (-1) → A m11_sure 7 0 26 [(20, ((59 : Nat) : Int)), (0, x1), (0, x2), (0, x3), (0, (w32 (x4 + 1))), (2, 0)] [] M14 (Ki P)))))))))))))) : A m11_sure 7 0 26 [(20, ((59 : Nat) : Int)), (0, x1), (0, x2), (0, x3), (0, x4), (2, 0)] [] M (Ki P) := by
  refine A_iload (i := 4) (by decide +kernel) rfl ?_
  refine A_aload_n (i := 0) (f := 0) (by omega) rfl (by decide +kernel) rfl ?_
  refine A_cVi (q := (RX11, TX11, 59)) (ci := 10) (o := ((59 : Nat) : Int)) (args := []) (st := [(0, x4)]) (by decide +kernel) cv_m11_codes rfl rfl in_m11_codes se_m11_codes lk_11_440 rfl (by omega) (Nat.le_of_ble_eq_true rfl) h (fun r1 M2 _ h3 => ?_)
  refine A_ic_ge (off := 54) (tgt := 86) (by decide +kernel) (by omega) (fun b4 => ?_) (fun b4 => ?_)
  · have h5 := h3.1 b4
    refine A_iload_n (i := 3) (f := 3) rfl (by decide +kernel) rfl ?_
    exact A_ret ⟨by decide +kernel, Or.inl rfl⟩ ⟨_, rfl, h5⟩
  · have h6 := h3.2 (Int.not_le.mp b4)
    refine A_aload_n (i := 0) (f := 0) (by omega) rfl (by decide +kernel) rfl ?_
    refine A_iload (i := 4) (by decide +kernel) rfl ?_
    refine A_cVi (q := (RX11, TX11, 59)) (ci := 10) (o := ((59 : Nat) : Int)) (args := [(0, x4)]) (st := []) (by decide +kernel) cv_m11_layCode rfl rfl in_m11_layCode se_m11_layCode lk_11_443 rfl (by omega) (Nat.le_of_ble_eq_true rfl) h6 (fun r7 M8 _ h9 => ?_)
    refine A_if_eq (off := 39) (tgt := 80) (by decide +kernel) (by omega) (fun b10 => ?_) (fun b10 => ?_)
    · have h11 := h9.1 b10
      refine A_iinc (i := 4) (n := 1) (by decide +kernel) (by decide) rfl (fun w h0 hw => by simp at hw; first | (rw [← hw]; decide) | (rw [← hw]; simp)) ?_
      refine A_goto (off := (-57)) (tgt := 26) (by decide +kernel) (by omega) ?_
      exact A_weak (lsub.keep (lsub.keep (lsub.keep (lsub.keep (lsub.keep (lsub.drop lsub.nil)))))) h11
    · have h12 := h9.2 b10
      refine A_aload_n (i := 0) (f := 0) (by omega) rfl (by decide +kernel) rfl ?_
      refine A_cVi (q := (RX11, TX11, 59)) (ci := 10) (o := ((59 : Nat) : Int)) (args := []) (st := []) (by decide +kernel) cv_m11_firstWrong rfl rfl in_m11_firstWrong se_m11_firstWrong lk_11_446 rfl (by omega) (Nat.le_of_ble_eq_true rfl) h12 (fun r13 M14 _ h15 => ?_)
      refine A_iconst (a := (-1)) (by decide +kernel) (by unfold in32; omega) ?_
      refine A_ic_eq (off := 6) (tgt := 55) (by decide +kernel) (by omega) (fun b16 => ?_) (fun b16 => ?_)
      · have h17 := h15.1 b16
        refine A_aload_n (i := 0) (f := 0) (by omega) rfl (by decide +kernel) rfl ?_
        refine A_iload_n (i := 1) (f := 1) rfl (by decide +kernel) rfl ?_
        refine A_iload_n (i := 2) (f := 2) rfl (by decide +kernel) rfl ?_
        refine A_cVi (q := (RX11, TX11, 59)) (ci := 10) (o := ((59 : Nat) : Int)) (args := [(0, x1), (0, x2)]) (st := []) (by decide +kernel) cv_m11_standsLaid rfl rfl in_m11_standsLaid se_m11_standsLaid lk_11_318 rfl (by omega) (Nat.le_of_ble_eq_true rfl) h17 (fun r19 M20 _ h21 => ?_)
        refine A_istore (i := 5) (by decide +kernel) (by decide) (fun w h0 hw => by simp at hw; first | (rw [← hw]; decide) | (rw [← hw]; simp)) ?_
        refine A_iload_n (i := 3) (f := 3) rfl (by decide +kernel) rfl ?_
        refine A_bipush (a := (-2)) (by decide +kernel) (by unfold in32; omega) (by decide +kernel) ?_
        refine A_ic_eq (off := 11) (tgt := 77) (by decide +kernel) (by omega) (fun b22 => ?_) (fun b22 => ?_)
        · have h23 := h21.1 b22
          refine A_iload (i := 5) (by decide +kernel) rfl ?_
          refine A_istore_n (i := 3) (f := 3) rfl (by decide +kernel) (by decide) (fun w h0 hw => by simp at hw; first | (rw [← hw]; decide) | (rw [← hw]; simp)) ?_
          refine A_iinc (i := 4) (n := 1) (by decide +kernel) (by decide) rfl (fun w h0 hw => by simp at hw; first | (rw [← hw]; decide) | (rw [← hw]; simp)) ?_
          refine A_goto (off := (-57)) (tgt := 26) (by decide +kernel) (by omega) ?_
          exact A_weak (lsub.keep (lsub.keep (lsub.keep (lsub.keep (lsub.keep (lsub.drop lsub.nil)))))) h23
        · have h24 := h21.2 b22
          refine A_iload_n (i := 3) (f := 3) rfl (by decide +kernel) rfl ?_
          refine A_iload (i := 5) (by decide +kernel) rfl ?_
          refine A_ic_eq (off := 5) (tgt := 77) (by decide +kernel) (by omega) (fun b25 => ?_) (fun b25 => ?_)
          · have h26 := h24.1 b25
            refine A_iload (i := 5) (by decide +kernel) rfl ?_
            refine A_istore_n (i := 3) (f := 3) rfl (by decide +kernel) (by decide) (fun w h0 hw => by simp at hw; first | (rw [← hw]; decide) | (rw [← hw]; simp)) ?_
            refine A_iinc (i := 4) (n := 1) (by decide +kernel) (by decide) rfl (fun w h0 hw => by simp at hw; first | (rw [← hw]; decide) | (rw [← hw]; simp)) ?_
            refine A_goto (off := (-57)) (tgt := 26) (by decide +kernel) (by omega) ?_
            exact A_weak (lsub.keep (lsub.keep (lsub.keep (lsub.keep (lsub.keep (lsub.drop lsub.nil)))))) h26
          · have h27 := h24.2 b25
            refine A_iconst (a := 3) (by decide +kernel) (by unfold in32; omega) ?_
            exact A_ret ⟨by decide +kernel, Or.inl rfl⟩ ⟨_, rfl, h27⟩
      · have h18 := h15.2 b16
        refine A_goto (off := 28) (tgt := 80) (by decide +kernel) (by omega) ?_
        refine A_iinc (i := 4) (n := 1) (by decide +kernel) (by decide) rfl (fun w h0 hw => by simp at hw; first | (rw [← hw]; decide) | (rw [← hw]; simp)) ?_
        refine A_goto (off := (-57)) (tgt := 26) (by decide +kernel) (by omega) ?_
        exact A_weak (lsub.keep (lsub.keep (lsub.keep (lsub.keep (lsub.keep (lsub.drop lsub.nil)))))) h18
theorem q_11_cannot  {M : Mem} {P : Int → Mem → Prop} (h : (CD m11_strikes 2 [(20, ((59 : Nat) : Int))] (mset M 59 0 0) (fun M2 => A m11_cannot 7 0 13 [(20, ((59 : Nat) : Int)), (0, (-1)), (0, 0), (2, 0)] [] M2 (Ki P)))) : CI m11_cannot 7 [(20, ((59 : Nat) : Int))] M P := by
  refine CI_of (by decide +kernel) (Nat.le_of_ble_eq_true rfl) ?_
  show A m11_cannot 7 0 0 [(20, ((59 : Nat) : Int)), (2, 0), (2, 0), (2, 0)] [] M (Ki P)
  refine A_aload_n (i := 0) (f := 0) (by omega) rfl (by decide +kernel) rfl ?_
  refine A_iconst (a := 0) (by decide +kernel) (by unfold in32; omega) ?_
  refine B_putp (M' := (mset M 59 0 0)) (q := (RX11, TX11, 59)) (ci := 10) (j := 0) (p := 0) (by decide +kernel) rfl (by decide) rfl (Or.inl ⟨rfl, rfl⟩) rfl fl_11_118 rfl ?_
  refine A_aload_n (i := 0) (f := 0) (by omega) rfl (by decide +kernel) rfl ?_
  refine A_cVd (q := (RX11, TX11, 59)) (ci := 10) (o := ((59 : Nat) : Int)) (args := []) (st := []) (by decide +kernel) cv_m11_strikes rfl rfl in_m11_strikes se_m11_strikes lk_11_437 rfl (by omega) (Nat.le_of_ble_eq_true rfl) h (fun M2 h3 => ?_)
  refine A_iconst (a := (-1)) (by decide +kernel) (by unfold in32; omega) ?_
  refine A_istore_n (i := 1) (f := 1) rfl (by decide +kernel) (by decide) (fun w h0 hw => by simp at hw; first | (rw [← hw]; decide) | (rw [← hw]; simp)) ?_
  refine A_iconst (a := 0) (by decide +kernel) (by unfold in32; omega) ?_
  refine A_istore_n (i := 2) (f := 2) rfl (by decide +kernel) (by decide) (fun w h0 hw => by simp at hw; first | (rw [← hw]; decide) | (rw [← hw]; simp)) ?_
  exact A_weak (lsub.keep (lsub.keep (lsub.keep (lsub.drop lsub.nil)))) h3
theorem r_11_cannot_13 {x1 : Int} {x2 : Int} {M : Mem} {P : Int → Mem → Prop} (h : (CI m11_codes 2 [(20, ((59 : Nat) : Int))] M (fun r1 M2 => ((r1 ≤ x2 → (P x1 M2)) ∧ (x2 < r1 → (CI m11_layCode 2 [(20, ((59 : Nat) : Int)), (0, x2)] M2 (fun r7 M8 => ((r7 ≠ 0 → (CI m11_firstWrong 6 [(20, ((59 : Nat) : Int))] M8 (fun r13 M14 => ((r13 ≠ (-1) → A m11_cannot 7 0 13 [(20, ((59 : Nat) : Int)), (0, (if x1 < r13 then r13 else x1)), (0, (w32 (x2 + 1))), (2, 0)] [] M14 (Ki P)) ∧ (r13 = (-1) → (P (-1) M14)))))) ∧ (r7 = 0 → A m11_cannot 7 0 13 [(20, ((59 : Nat) : Int)), (0, x1), (0, (w32 (x2 + 1))), (2, 0)] [] M8 (Ki P)))))))))) : A m11_cannot 7 0 13 [(20, ((59 : Nat) : Int)), (0, x1), (0, x2), (2, 0)] [] M (Ki P) := by
  refine A_iload_n (i := 2) (f := 2) rfl (by decide +kernel) rfl ?_
  refine A_aload_n (i := 0) (f := 0) (by omega) rfl (by decide +kernel) rfl ?_
  refine A_cVi (q := (RX11, TX11, 59)) (ci := 10) (o := ((59 : Nat) : Int)) (args := []) (st := [(0, x2)]) (by decide +kernel) cv_m11_codes rfl rfl in_m11_codes se_m11_codes lk_11_440 rfl (by omega) (Nat.le_of_ble_eq_true rfl) h (fun r1 M2 _ h3 => ?_)
  refine A_ic_ge (off := 38) (tgt := 56) (by decide +kernel) (by omega) (fun b4 => ?_) (fun b4 => ?_)
  · have h5 := h3.1 b4
    refine A_iload_n (i := 1) (f := 1) rfl (by decide +kernel) rfl ?_
    exact A_ret ⟨by decide +kernel, Or.inl rfl⟩ ⟨_, rfl, h5⟩
  · have h6 := h3.2 (Int.not_le.mp b4)
    refine A_aload_n (i := 0) (f := 0) (by omega) rfl (by decide +kernel) rfl ?_
    refine A_iload_n (i := 2) (f := 2) rfl (by decide +kernel) rfl ?_
    refine A_cVi (q := (RX11, TX11, 59)) (ci := 10) (o := ((59 : Nat) : Int)) (args := [(0, x2)]) (st := []) (by decide +kernel) cv_m11_layCode rfl rfl in_m11_layCode se_m11_layCode lk_11_443 rfl (by omega) (Nat.le_of_ble_eq_true rfl) h6 (fun r7 M8 _ h9 => ?_)
    refine A_if_ne (off := 6) (tgt := 32) (by decide +kernel) (by omega) (fun b10 => ?_) (fun b10 => ?_)
    · have h11 := h9.1 b10
      refine A_aload_n (i := 0) (f := 0) (by omega) rfl (by decide +kernel) rfl ?_
      refine A_cVi (q := (RX11, TX11, 59)) (ci := 10) (o := ((59 : Nat) : Int)) (args := []) (st := []) (by decide +kernel) cv_m11_firstWrong rfl rfl in_m11_firstWrong se_m11_firstWrong lk_11_446 rfl (by omega) (Nat.le_of_ble_eq_true rfl) h11 (fun r13 M14 _ h15 => ?_)
      refine A_istore_n (i := 3) (f := 3) rfl (by decide +kernel) (by decide) (fun w h0 hw => by simp at hw; first | (rw [← hw]; decide) | (rw [← hw]; simp)) ?_
      refine A_iload_n (i := 3) (f := 3) rfl (by decide +kernel) rfl ?_
      refine A_iconst (a := (-1)) (by decide +kernel) (by unfold in32; omega) ?_
      refine A_ic_ne (off := 5) (tgt := 44) (by decide +kernel) (by omega) (fun b16 => ?_) (fun b16 => ?_)
      · have h17 := h15.1 b16
        refine A_iload_n (i := 1) (f := 1) rfl (by decide +kernel) rfl ?_
        refine A_iload_n (i := 3) (f := 3) rfl (by decide +kernel) rfl ?_
        refine A_max (by decide +kernel) (by omega) (Nat.le_of_ble_eq_true rfl) lk_11_399 jst_max jin_math jcd_max ?_
        refine A_istore_n (i := 1) (f := 1) rfl (by decide +kernel) (by decide) (fun w h0 hw => by simp at hw; first | (rw [← hw]; decide) | (rw [← hw]; simp)) ?_
        refine A_iinc (i := 2) (n := 1) (by decide +kernel) (by decide) rfl (fun w h0 hw => by simp at hw; first | (rw [← hw]; decide) | (rw [← hw]; simp)) ?_
        refine A_goto (off := (-40)) (tgt := 13) (by decide +kernel) (by omega) ?_
        exact A_weak (lsub.keep (lsub.keep (lsub.keep (lsub.drop lsub.nil)))) h17
      · have h18 := h15.2 (Decidable.not_not.mp b16)
        refine A_iconst (a := (-1)) (by decide +kernel) (by unfold in32; omega) ?_
        exact A_ret ⟨by decide +kernel, Or.inl rfl⟩ ⟨_, rfl, h18⟩
    · have h12 := h9.2 (Decidable.not_not.mp b10)
      refine A_goto (off := 21) (tgt := 50) (by decide +kernel) (by omega) ?_
      refine A_iinc (i := 2) (n := 1) (by decide +kernel) (by decide) rfl (fun w h0 hw => by simp at hw; first | (rw [← hw]; decide) | (rw [← hw]; simp)) ?_
      refine A_goto (off := (-40)) (tgt := 13) (by decide +kernel) (by omega) ?_
      exact A_weak (lsub.keep (lsub.keep (lsub.keep (lsub.drop lsub.nil)))) h12
theorem q_11_order {x1 : Int} {x2 : Int} {x3 : Int} {M : Mem} {P : Int → Mem → Prop} (h : ((x1 < 0 → (P (-1) (mset M 59 0 0))) ∧ (0 ≤ x1 → (CI m11_areTwo 2 [(20, ((59 : Nat) : Int)), (0, x2), (0, x3)] (mset M 59 0 0) (fun r4 M5 => ((r4 ≠ 0 → (CD m11_strikes 2 [(20, ((59 : Nat) : Int))] M5 (fun M11 => A m11_order 7 0 30 [(20, ((59 : Nat) : Int)), (0, x1), (0, x2), (0, x3), (0, 0), (0, 0)] [] M11 (Ki P)))) ∧ (r4 = 0 → (P (-1) M5)))))))) : CI m11_order 7 [(20, ((59 : Nat) : Int)), (0, x1), (0, x2), (0, x3)] M P := by
  refine CI_of (by decide +kernel) (Nat.le_of_ble_eq_true rfl) ?_
  show A m11_order 7 0 0 [(20, ((59 : Nat) : Int)), (0, x1), (0, x2), (0, x3), (2, 0), (2, 0)] [] M (Ki P)
  refine A_aload_n (i := 0) (f := 0) (by omega) rfl (by decide +kernel) rfl ?_
  refine A_iconst (a := 0) (by decide +kernel) (by unfold in32; omega) ?_
  refine B_putp (M' := (mset M 59 0 0)) (q := (RX11, TX11, 59)) (ci := 10) (j := 0) (p := 0) (by decide +kernel) rfl (by decide) rfl (Or.inl ⟨rfl, rfl⟩) rfl fl_11_118 rfl ?_
  refine A_iload_n (i := 1) (f := 1) rfl (by decide +kernel) rfl ?_
  refine A_if_lt (off := 12) (tgt := 18) (by decide +kernel) (by omega) (fun b1 => ?_) (fun b1 => ?_)
  · have h2 := h.1 b1
    refine A_iconst (a := (-1)) (by decide +kernel) (by unfold in32; omega) ?_
    exact A_ret ⟨by decide +kernel, Or.inl rfl⟩ ⟨_, rfl, h2⟩
  · have h3 := h.2 (Int.not_lt.mp b1)
    refine A_aload_n (i := 0) (f := 0) (by omega) rfl (by decide +kernel) rfl ?_
    refine A_iload_n (i := 2) (f := 2) rfl (by decide +kernel) rfl ?_
    refine A_iload_n (i := 3) (f := 3) rfl (by decide +kernel) rfl ?_
    refine A_cVi (q := (RX11, TX11, 59)) (ci := 10) (o := ((59 : Nat) : Int)) (args := [(0, x2), (0, x3)]) (st := []) (by decide +kernel) cv_m11_areTwo rfl rfl in_m11_areTwo se_m11_areTwo lk_11_312 rfl (by omega) (Nat.le_of_ble_eq_true rfl) h3 (fun r4 M5 _ h6 => ?_)
    refine A_if_ne (off := 5) (tgt := 20) (by decide +kernel) (by omega) (fun b7 => ?_) (fun b7 => ?_)
    · have h8 := h6.1 b7
      refine A_aload_n (i := 0) (f := 0) (by omega) rfl (by decide +kernel) rfl ?_
      refine A_cVd (q := (RX11, TX11, 59)) (ci := 10) (o := ((59 : Nat) : Int)) (args := []) (st := []) (by decide +kernel) cv_m11_strikes rfl rfl in_m11_strikes se_m11_strikes lk_11_437 rfl (by omega) (Nat.le_of_ble_eq_true rfl) h8 (fun M11 h12 => ?_)
      refine A_iconst (a := 0) (by decide +kernel) (by unfold in32; omega) ?_
      refine A_istore (i := 4) (by decide +kernel) (by decide) (fun w h0 hw => by simp at hw; first | (rw [← hw]; decide) | (rw [← hw]; simp)) ?_
      refine A_iconst (a := 0) (by decide +kernel) (by unfold in32; omega) ?_
      refine A_istore (i := 5) (by decide +kernel) (by decide) (fun w h0 hw => by simp at hw; first | (rw [← hw]; decide) | (rw [← hw]; simp)) ?_
      exact A_weak (lsub.keep (lsub.keep (lsub.keep (lsub.keep (lsub.keep (lsub.keep lsub.nil)))))) h12
    · have h9 := h6.2 (Decidable.not_not.mp b7)
      refine A_iconst (a := (-1)) (by decide +kernel) (by unfold in32; omega) ?_
      exact A_ret ⟨by decide +kernel, Or.inl rfl⟩ ⟨_, rfl, h9⟩
theorem r_11_order_30 {x1 : Int} {x2 : Int} {x3 : Int} {x4 : Int} {x5 : Int} {M : Mem} {P : Int → Mem → Prop} (h : (CI m11_codes 2 [(20, ((59 : Nat) : Int))] M (fun r1 M2 => ((r1 ≤ x5 → (P (-1) M2)) ∧ (x5 < r1 → (CI m11_layCode 2 [(20, ((59 : Nat) : Int)), (0, x5)] M2 (fun r7 M8 => ((r7 = 0 → A m11_order 7 0 30 [(20, ((59 : Nat) : Int)), (0, x1), (0, x2), (0, x3), (0, x4), (0, (w32 (x5 + 1)))] [] M8 (Ki P)) ∧ (r7 ≠ 0 → (CI m11_firstWrong 6 [(20, ((59 : Nat) : Int))] M8 (fun r13 M14 => ((r13 = (-1) → ((x4 ≠ x1 → A m11_order 7 0 30 [(20, ((59 : Nat) : Int)), (0, x1), (0, x2), (0, x3), (0, (w32 (x4 + 1))), (0, (w32 (x5 + 1)))] [] M14 (Ki P)) ∧ (x4 = x1 → (CI m11_standsLaid 2 [(20, ((59 : Nat) : Int)), (0, x2), (0, x3)] M14 (fun r22 M23 => (P r22 M23)))))) ∧ (r13 ≠ (-1) → A m11_order 7 0 30 [(20, ((59 : Nat) : Int)), (0, x1), (0, x2), (0, x3), (0, x4), (0, (w32 (x5 + 1)))] [] M14 (Ki P)))))))))))))) : A m11_order 7 0 30 [(20, ((59 : Nat) : Int)), (0, x1), (0, x2), (0, x3), (0, x4), (0, x5)] [] M (Ki P) := by
  refine A_iload (i := 5) (by decide +kernel) rfl ?_
  refine A_aload_n (i := 0) (f := 0) (by omega) rfl (by decide +kernel) rfl ?_
  refine A_cVi (q := (RX11, TX11, 59)) (ci := 10) (o := ((59 : Nat) : Int)) (args := []) (st := [(0, x5)]) (by decide +kernel) cv_m11_codes rfl rfl in_m11_codes se_m11_codes lk_11_440 rfl (by omega) (Nat.le_of_ble_eq_true rfl) h (fun r1 M2 _ h3 => ?_)
  refine A_ic_ge (off := 45) (tgt := 81) (by decide +kernel) (by omega) (fun b4 => ?_) (fun b4 => ?_)
  · have h5 := h3.1 b4
    refine A_iconst (a := (-1)) (by decide +kernel) (by unfold in32; omega) ?_
    exact A_ret ⟨by decide +kernel, Or.inl rfl⟩ ⟨_, rfl, h5⟩
  · have h6 := h3.2 (Int.not_le.mp b4)
    refine A_aload_n (i := 0) (f := 0) (by omega) rfl (by decide +kernel) rfl ?_
    refine A_iload (i := 5) (by decide +kernel) rfl ?_
    refine A_cVi (q := (RX11, TX11, 59)) (ci := 10) (o := ((59 : Nat) : Int)) (args := [(0, x5)]) (st := []) (by decide +kernel) cv_m11_layCode rfl rfl in_m11_layCode se_m11_layCode lk_11_443 rfl (by omega) (Nat.le_of_ble_eq_true rfl) h6 (fun r7 M8 _ h9 => ?_)
    refine A_if_eq (off := 30) (tgt := 75) (by decide +kernel) (by omega) (fun b10 => ?_) (fun b10 => ?_)
    · have h11 := h9.1 b10
      refine A_iinc (i := 5) (n := 1) (by decide +kernel) (by decide) rfl (fun w h0 hw => by simp at hw; first | (rw [← hw]; decide) | (rw [← hw]; simp)) ?_
      refine A_goto (off := (-48)) (tgt := 30) (by decide +kernel) (by omega) ?_
      exact A_weak (lsub.keep (lsub.keep (lsub.keep (lsub.keep (lsub.keep (lsub.keep lsub.nil)))))) h11
    · have h12 := h9.2 b10
      refine A_aload_n (i := 0) (f := 0) (by omega) rfl (by decide +kernel) rfl ?_
      refine A_cVi (q := (RX11, TX11, 59)) (ci := 10) (o := ((59 : Nat) : Int)) (args := []) (st := []) (by decide +kernel) cv_m11_firstWrong rfl rfl in_m11_firstWrong se_m11_firstWrong lk_11_446 rfl (by omega) (Nat.le_of_ble_eq_true rfl) h12 (fun r13 M14 _ h15 => ?_)
      refine A_iconst (a := (-1)) (by decide +kernel) (by unfold in32; omega) ?_
      refine A_ic_eq (off := 6) (tgt := 59) (by decide +kernel) (by omega) (fun b16 => ?_) (fun b16 => ?_)
      · have h17 := h15.1 b16
        refine A_iload (i := 4) (by decide +kernel) rfl ?_
        refine A_iload_n (i := 1) (f := 1) rfl (by decide +kernel) rfl ?_
        refine A_ic_ne (off := 10) (tgt := 72) (by decide +kernel) (by omega) (fun b19 => ?_) (fun b19 => ?_)
        · have h20 := h17.1 b19
          refine A_iinc (i := 4) (n := 1) (by decide +kernel) (by decide) rfl (fun w h0 hw => by simp at hw; first | (rw [← hw]; decide) | (rw [← hw]; simp)) ?_
          refine A_iinc (i := 5) (n := 1) (by decide +kernel) (by decide) rfl (fun w h0 hw => by simp at hw; first | (rw [← hw]; decide) | (rw [← hw]; simp)) ?_
          refine A_goto (off := (-48)) (tgt := 30) (by decide +kernel) (by omega) ?_
          exact A_weak (lsub.keep (lsub.keep (lsub.keep (lsub.keep (lsub.keep (lsub.keep lsub.nil)))))) h20
        · have h21 := h17.2 (Decidable.not_not.mp b19)
          refine A_aload_n (i := 0) (f := 0) (by omega) rfl (by decide +kernel) rfl ?_
          refine A_iload_n (i := 2) (f := 2) rfl (by decide +kernel) rfl ?_
          refine A_iload_n (i := 3) (f := 3) rfl (by decide +kernel) rfl ?_
          refine A_cVi (q := (RX11, TX11, 59)) (ci := 10) (o := ((59 : Nat) : Int)) (args := [(0, x2), (0, x3)]) (st := []) (by decide +kernel) cv_m11_standsLaid rfl rfl in_m11_standsLaid se_m11_standsLaid lk_11_318 rfl (by omega) (Nat.le_of_ble_eq_true rfl) h21 (fun r22 M23 _ h24 => ?_)
          exact A_ret ⟨by decide +kernel, Or.inl rfl⟩ ⟨_, rfl, h24⟩
      · have h18 := h15.2 b16
        refine A_goto (off := 19) (tgt := 75) (by decide +kernel) (by omega) ?_
        refine A_iinc (i := 5) (n := 1) (by decide +kernel) (by decide) rfl (fun w h0 hw => by simp at hw; first | (rw [← hw]; decide) | (rw [← hw]; simp)) ?_
        refine A_goto (off := (-48)) (tgt := 30) (by decide +kernel) (by omega) ?_
        exact A_weak (lsub.keep (lsub.keep (lsub.keep (lsub.keep (lsub.keep (lsub.keep lsub.nil)))))) h18
theorem q_11_letter {x1 : Int} {x2 : Int} {x3 : Int} {M : Mem} {P : Int → Mem → Prop} (h : (CI m11_isRow 2 [(20, ((59 : Nat) : Int)), (0, x1)] (mset M 59 0 0) (fun r1 M2 => ((r1 = 0 → (P (-1) M2)) ∧ (r1 ≠ 0 → (CI m11_isSeason 1 [(0, x2)] M2 (fun r7 M8 => ((r7 = 0 → (P (-1) M8)) ∧ (r7 ≠ 0 → (((-1) ≤ x3 → (CD m11_layNow 3 [(20, ((59 : Nat) : Int)), (0, x2)] M8 (fun M17 => A m11_letter 6 0 46 [(20, ((59 : Nat) : Int)), (0, x1), (0, x2), (0, x3), (0, 0), (0, (M17 61 0)), (0, 0), (2, 0), (2, 0)] [] M17 (Ki P)))) ∧ (x3 < (-1) → (P (-1) M8)))))))))))) : CI m11_letter 6 [(20, ((59 : Nat) : Int)), (0, x1), (0, x2), (0, x3)] M P := by
  refine CI_of (by decide +kernel) (Nat.le_of_ble_eq_true rfl) ?_
  show A m11_letter 6 0 0 [(20, ((59 : Nat) : Int)), (0, x1), (0, x2), (0, x3), (2, 0), (2, 0), (2, 0), (2, 0), (2, 0)] [] M (Ki P)
  refine A_aload_n (i := 0) (f := 0) (by omega) rfl (by decide +kernel) rfl ?_
  refine A_iconst (a := 0) (by decide +kernel) (by unfold in32; omega) ?_
  refine B_putp (M' := (mset M 59 0 0)) (q := (RX11, TX11, 59)) (ci := 10) (j := 0) (p := 0) (by decide +kernel) rfl (by decide) rfl (Or.inl ⟨rfl, rfl⟩) rfl fl_11_118 rfl ?_
  refine A_aload_n (i := 0) (f := 0) (by omega) rfl (by decide +kernel) rfl ?_
  refine A_iload_n (i := 1) (f := 1) rfl (by decide +kernel) rfl ?_
  refine A_cVi (q := (RX11, TX11, 59)) (ci := 10) (o := ((59 : Nat) : Int)) (args := [(0, x1)]) (st := []) (by decide +kernel) cv_m11_isRow rfl rfl in_m11_isRow se_m11_isRow lk_11_383 rfl (by omega) (Nat.le_of_ble_eq_true rfl) h (fun r1 M2 _ h3 => ?_)
  refine A_if_eq (off := 15) (tgt := 25) (by decide +kernel) (by omega) (fun b4 => ?_) (fun b4 => ?_)
  · have h5 := h3.1 b4
    refine A_iconst (a := (-1)) (by decide +kernel) (by unfold in32; omega) ?_
    exact A_ret ⟨by decide +kernel, Or.inl rfl⟩ ⟨_, rfl, h5⟩
  · have h6 := h3.2 b4
    refine A_iload_n (i := 2) (f := 2) rfl (by decide +kernel) rfl ?_
    refine A_cSi (args := [(0, x2)]) (st := []) (by decide +kernel) cv_m11_isSeason st_m11_isSeason lk_11_315 rfl (by omega) (Nat.le_of_ble_eq_true rfl) h6 (fun r7 M8 _ h9 => ?_)
    refine A_if_eq (off := 8) (tgt := 25) (by decide +kernel) (by omega) (fun b10 => ?_) (fun b10 => ?_)
    · have h11 := h9.1 b10
      refine A_iconst (a := (-1)) (by decide +kernel) (by unfold in32; omega) ?_
      exact A_ret ⟨by decide +kernel, Or.inl rfl⟩ ⟨_, rfl, h11⟩
    · have h12 := h9.2 b10
      refine A_iload_n (i := 3) (f := 3) rfl (by decide +kernel) rfl ?_
      refine A_iconst (a := (-1)) (by decide +kernel) (by unfold in32; omega) ?_
      refine A_ic_ge (off := 5) (tgt := 27) (by decide +kernel) (by omega) (fun b13 => ?_) (fun b13 => ?_)
      · have h14 := h12.1 b13
        refine A_aload_n (i := 0) (f := 0) (by omega) rfl (by decide +kernel) rfl ?_
        refine A_iload_n (i := 2) (f := 2) rfl (by decide +kernel) rfl ?_
        refine A_cVd (q := (RX11, TX11, 59)) (ci := 10) (o := ((59 : Nat) : Int)) (args := [(0, x2)]) (st := []) (by decide +kernel) cv_m11_layNow rfl rfl in_m11_layNow se_m11_layNow lk_11_309 rfl (by omega) (Nat.le_of_ble_eq_true rfl) h14 (fun M17 h18 => ?_)
        refine A_iconst (a := 0) (by decide +kernel) (by unfold in32; omega) ?_
        refine A_istore (i := 4) (by decide +kernel) (by decide) (fun w h0 hw => by simp at hw; first | (rw [← hw]; decide) | (rw [← hw]; simp)) ?_
        refine A_aload_n (i := 0) (f := 0) (by omega) rfl (by decide +kernel) rfl ?_
        refine B_getr (o' := ((61 : Nat) : Int)) (q := (RX11, TX11, 59)) (ci := 10) (j := 3) (by decide +kernel) rfl (by decide) rfl (by omega) fl_11_13 rfl ?_
        refine A_iconst (a := 0) (by decide +kernel) (by unfold in32; omega) ?_
        refine B_iald (v := (M17 61 0)) (by decide +kernel) (by decide) rfl ?_
        refine A_istore (i := 5) (by decide +kernel) (by decide) (fun w h0 hw => by simp at hw; first | (rw [← hw]; decide) | (rw [← hw]; simp)) ?_
        refine A_iconst (a := 0) (by decide +kernel) (by unfold in32; omega) ?_
        refine A_istore (i := 6) (by decide +kernel) (by decide) (fun w h0 hw => by simp at hw; first | (rw [← hw]; decide) | (rw [← hw]; simp)) ?_
        exact A_weak (lsub.keep (lsub.keep (lsub.keep (lsub.keep (lsub.keep (lsub.keep (lsub.keep (lsub.drop (lsub.drop lsub.nil))))))))) h18
      · have h15 := h12.2 (Int.not_le.mp b13)
        refine A_iconst (a := (-1)) (by decide +kernel) (by unfold in32; omega) ?_
        exact A_ret ⟨by decide +kernel, Or.inl rfl⟩ ⟨_, rfl, h15⟩
theorem r_11_letter_46 {x1 : Int} {x2 : Int} {x3 : Int} {x4 : Int} {x5 : Int} {x6 : Int} {M : Mem} {P : Int → Mem → Prop} (h : ((x5 ≤ x6 → ((x3 ≠ (-1) → (P (-2) M)) ∧ (x3 = (-1) → (P x4 M)))) ∧ (x6 < x5 → A m11_letter 6 0 56 [(20, ((59 : Nat) : Int)), (0, x1), (0, x2), (0, x3), (0, x4), (0, x5), (0, x6), (0, 0), (2, 0)] [] M (Ki P)))) : A m11_letter 6 0 46 [(20, ((59 : Nat) : Int)), (0, x1), (0, x2), (0, x3), (0, x4), (0, x5), (0, x6), (2, 0), (2, 0)] [] M (Ki P) := by
  refine A_iload (i := 6) (by decide +kernel) rfl ?_
  refine A_iload (i := 5) (by decide +kernel) rfl ?_
  refine A_ic_ge (off := 96) (tgt := 146) (by decide +kernel) (by omega) (fun b1 => ?_) (fun b1 => ?_)
  · have h2 := h.1 b1
    refine A_iload_n (i := 3) (f := 3) rfl (by decide +kernel) rfl ?_
    refine A_iconst (a := (-1)) (by decide +kernel) (by unfold in32; omega) ?_
    refine A_ic_ne (off := 8) (tgt := 156) (by decide +kernel) (by omega) (fun b4 => ?_) (fun b4 => ?_)
    · have h5 := h2.1 b4
      refine A_bipush (a := (-2)) (by decide +kernel) (by unfold in32; omega) (by decide +kernel) ?_
      exact A_ret ⟨by decide +kernel, Or.inl rfl⟩ ⟨_, rfl, h5⟩
    · have h6 := h2.2 (Decidable.not_not.mp b4)
      refine A_iload (i := 4) (by decide +kernel) rfl ?_
      refine A_goto (off := 5) (tgt := 158) (by decide +kernel) (by omega) ?_
      exact A_ret ⟨by decide +kernel, Or.inl rfl⟩ ⟨_, rfl, h6⟩
  · have h3 := h.2 (Int.not_le.mp b1)
    refine A_iconst (a := 0) (by decide +kernel) (by unfold in32; omega) ?_
    refine A_istore (i := 7) (by decide +kernel) (by decide) (fun w h0 hw => by simp at hw; first | (rw [← hw]; decide) | (rw [← hw]; simp)) ?_
    exact A_weak (lsub.keep (lsub.keep (lsub.keep (lsub.keep (lsub.keep (lsub.keep (lsub.keep (lsub.keep (lsub.drop lsub.nil))))))))) h3
theorem r_11_letter_56 {x1 : Int} {x2 : Int} {x3 : Int} {x4 : Int} {x5 : Int} {x6 : Int} {x7 : Int} {M : Mem} {P : Int → Mem → Prop} (h : ((x5 ≤ x7 → A m11_letter 6 0 46 [(20, ((59 : Nat) : Int)), (0, x1), (0, x2), (0, x3), (0, x4), (0, x5), (0, (w32 (x6 + 1))), (2, 0), (2, 0)] [] M (Ki P)) ∧ (x7 < x5 → A m11_letter 6 0 66 [(20, ((59 : Nat) : Int)), (0, x1), (0, x2), (0, x3), (0, x4), (0, x5), (0, x6), (0, x7), (0, 0)] [] M (Ki P)))) : A m11_letter 6 0 56 [(20, ((59 : Nat) : Int)), (0, x1), (0, x2), (0, x3), (0, x4), (0, x5), (0, x6), (0, x7), (2, 0)] [] M (Ki P) := by
  refine A_iload (i := 7) (by decide +kernel) rfl ?_
  refine A_iload (i := 5) (by decide +kernel) rfl ?_
  refine A_ic_ge (off := 80) (tgt := 140) (by decide +kernel) (by omega) (fun b1 => ?_) (fun b1 => ?_)
  · have h2 := h.1 b1
    refine A_iinc (i := 6) (n := 1) (by decide +kernel) (by decide) rfl (fun w h0 hw => by simp at hw; first | (rw [← hw]; decide) | (rw [← hw]; simp)) ?_
    refine A_goto (off := (-97)) (tgt := 46) (by decide +kernel) (by omega) ?_
    exact A_weak (lsub.keep (lsub.keep (lsub.keep (lsub.keep (lsub.keep (lsub.keep (lsub.keep (lsub.drop (lsub.drop lsub.nil))))))))) h2
  · have h3 := h.2 (Int.not_le.mp b1)
    refine A_iconst (a := 0) (by decide +kernel) (by unfold in32; omega) ?_
    refine A_istore (i := 8) (by decide +kernel) (by decide) (fun w h0 hw => by simp at hw; first | (rw [← hw]; decide) | (rw [← hw]; simp)) ?_
    exact A_weak (lsub.keep (lsub.keep (lsub.keep (lsub.keep (lsub.keep (lsub.keep (lsub.keep (lsub.keep (lsub.keep lsub.nil))))))))) h3
theorem r_11_letter_66 {x1 : Int} {x2 : Int} {x3 : Int} {x4 : Int} {x5 : Int} {x6 : Int} {x7 : Int} {x8 : Int} {M : Mem} {P : Int → Mem → Prop} (h : ((x5 ≤ x8 → A m11_letter 6 0 56 [(20, ((59 : Nat) : Int)), (0, x1), (0, x2), (0, x3), (0, x4), (0, x5), (0, x6), (0, (w32 (x7 + 1))), (2, 0)] [] M (Ki P)) ∧ (x8 < x5 → (CI m11_isSaying 3 [(20, ((59 : Nat) : Int)), (0, x6), (0, x7), (0, x8)] M (fun r4 M5 => ((r4 = 0 → A m11_letter 6 0 66 [(20, ((59 : Nat) : Int)), (0, x1), (0, x2), (0, x3), (0, x4), (0, x5), (0, x6), (0, x7), (0, (w32 (x8 + 1)))] [] M5 (Ki P)) ∧ (r4 ≠ 0 → (CI m11_right 5 [(20, ((59 : Nat) : Int)), (0, x6), (0, x7), (0, x8), (0, x2)] M5 (fun r10 M11 => ((r10 = x1 → ((x4 ≠ x3 → A m11_letter 6 0 66 [(20, ((59 : Nat) : Int)), (0, x1), (0, x2), (0, x3), (0, (w32 (x4 + 1))), (0, x5), (0, x6), (0, x7), (0, (w32 (x8 + 1)))] [] M11 (Ki P)) ∧ (x4 = x3 → (P (w32 ((w32 (x6 + (w32 (8 * x7)))) + (w32 (64 * x8)))) M11)))) ∧ (r10 ≠ x1 → A m11_letter 6 0 66 [(20, ((59 : Nat) : Int)), (0, x1), (0, x2), (0, x3), (0, x4), (0, x5), (0, x6), (0, x7), (0, (w32 (x8 + 1)))] [] M11 (Ki P)))))))))))) : A m11_letter 6 0 66 [(20, ((59 : Nat) : Int)), (0, x1), (0, x2), (0, x3), (0, x4), (0, x5), (0, x6), (0, x7), (0, x8)] [] M (Ki P) := by
  refine A_iload (i := 8) (by decide +kernel) rfl ?_
  refine A_iload (i := 5) (by decide +kernel) rfl ?_
  refine A_ic_ge (off := 64) (tgt := 134) (by decide +kernel) (by omega) (fun b1 => ?_) (fun b1 => ?_)
  · have h2 := h.1 b1
    refine A_iinc (i := 7) (n := 1) (by decide +kernel) (by decide) rfl (fun w h0 hw => by simp at hw; first | (rw [← hw]; decide) | (rw [← hw]; simp)) ?_
    refine A_goto (off := (-81)) (tgt := 56) (by decide +kernel) (by omega) ?_
    exact A_weak (lsub.keep (lsub.keep (lsub.keep (lsub.keep (lsub.keep (lsub.keep (lsub.keep (lsub.keep (lsub.drop lsub.nil))))))))) h2
  · have h3 := h.2 (Int.not_le.mp b1)
    refine A_aload_n (i := 0) (f := 0) (by omega) rfl (by decide +kernel) rfl ?_
    refine A_iload (i := 6) (by decide +kernel) rfl ?_
    refine A_iload (i := 7) (by decide +kernel) rfl ?_
    refine A_iload (i := 8) (by decide +kernel) rfl ?_
    refine A_cVi (q := (RX11, TX11, 59)) (ci := 10) (o := ((59 : Nat) : Int)) (args := [(0, x6), (0, x7), (0, x8)]) (st := []) (by decide +kernel) cv_m11_isSaying rfl rfl in_m11_isSaying se_m11_isSaying lk_11_366 rfl (by omega) (Nat.le_of_ble_eq_true rfl) h3 (fun r4 M5 _ h6 => ?_)
    refine A_if_eq (off := 45) (tgt := 128) (by decide +kernel) (by omega) (fun b7 => ?_) (fun b7 => ?_)
    · have h8 := h6.1 b7
      refine A_iinc (i := 8) (n := 1) (by decide +kernel) (by decide) rfl (fun w h0 hw => by simp at hw; first | (rw [← hw]; decide) | (rw [← hw]; simp)) ?_
      refine A_goto (off := (-65)) (tgt := 66) (by decide +kernel) (by omega) ?_
      exact A_weak (lsub.keep (lsub.keep (lsub.keep (lsub.keep (lsub.keep (lsub.keep (lsub.keep (lsub.keep (lsub.keep lsub.nil))))))))) h8
    · have h9 := h6.2 b7
      refine A_aload_n (i := 0) (f := 0) (by omega) rfl (by decide +kernel) rfl ?_
      refine A_iload (i := 6) (by decide +kernel) rfl ?_
      refine A_iload (i := 7) (by decide +kernel) rfl ?_
      refine A_iload (i := 8) (by decide +kernel) rfl ?_
      refine A_iload_n (i := 2) (f := 2) rfl (by decide +kernel) rfl ?_
      refine A_cVi (q := (RX11, TX11, 59)) (ci := 10) (o := ((59 : Nat) : Int)) (args := [(0, x6), (0, x7), (0, x8), (0, x2)]) (st := []) (by decide +kernel) cv_m11_right rfl rfl in_m11_right se_m11_right lk_11_369 rfl (by omega) (Nat.le_of_ble_eq_true rfl) h9 (fun r10 M11 _ h12 => ?_)
      refine A_iload_n (i := 1) (f := 1) rfl (by decide +kernel) rfl ?_
      refine A_ic_eq (off := 6) (tgt := 104) (by decide +kernel) (by omega) (fun b13 => ?_) (fun b13 => ?_)
      · have h14 := h12.1 b13
        refine A_iload (i := 4) (by decide +kernel) rfl ?_
        refine A_iload_n (i := 3) (f := 3) rfl (by decide +kernel) rfl ?_
        refine A_ic_ne (off := 18) (tgt := 125) (by decide +kernel) (by omega) (fun b16 => ?_) (fun b16 => ?_)
        · have h17 := h14.1 b16
          refine A_iinc (i := 4) (n := 1) (by decide +kernel) (by decide) rfl (fun w h0 hw => by simp at hw; first | (rw [← hw]; decide) | (rw [← hw]; simp)) ?_
          refine A_iinc (i := 8) (n := 1) (by decide +kernel) (by decide) rfl (fun w h0 hw => by simp at hw; first | (rw [← hw]; decide) | (rw [← hw]; simp)) ?_
          refine A_goto (off := (-65)) (tgt := 66) (by decide +kernel) (by omega) ?_
          exact A_weak (lsub.keep (lsub.keep (lsub.keep (lsub.keep (lsub.keep (lsub.keep (lsub.keep (lsub.keep (lsub.keep lsub.nil))))))))) h17
        · have h18 := h14.2 (Decidable.not_not.mp b16)
          refine A_iload (i := 6) (by decide +kernel) rfl ?_
          refine A_bipush (a := 8) (by decide +kernel) (by unfold in32; omega) (by decide +kernel) ?_
          refine A_iload (i := 7) (by decide +kernel) rfl ?_
          refine A_imul (by decide +kernel) ?_
          refine A_iadd (by decide +kernel) ?_
          refine A_bipush (a := 64) (by decide +kernel) (by unfold in32; omega) (by decide +kernel) ?_
          refine A_iload (i := 8) (by decide +kernel) rfl ?_
          refine A_imul (by decide +kernel) ?_
          refine A_iadd (by decide +kernel) ?_
          exact A_ret ⟨by decide +kernel, Or.inl rfl⟩ ⟨_, rfl, h18⟩
      · have h15 := h12.2 b13
        refine A_goto (off := 27) (tgt := 128) (by decide +kernel) (by omega) ?_
        refine A_iinc (i := 8) (n := 1) (by decide +kernel) (by decide) rfl (fun w h0 hw => by simp at hw; first | (rw [← hw]; decide) | (rw [← hw]; simp)) ?_
        refine A_goto (off := (-65)) (tgt := 66) (by decide +kernel) (by omega) ?_
        exact A_weak (lsub.keep (lsub.keep (lsub.keep (lsub.keep (lsub.keep (lsub.keep (lsub.keep (lsub.keep (lsub.keep lsub.nil))))))))) h15
theorem q_11_isCivil {x1 : Int} {x2 : Int} {x3 : Int} {x4 : Int} {x5 : Int} {x6 : Int} {x7 : Int} {M : Mem} {P : Int → Mem → Prop} (h : A m11_isCivil 6 0 3 [(20, ((59 : Nat) : Int)), (0, x1), (0, x2), (0, x3), (0, x4), (0, x5), (0, x6), (0, x7), (0, 0)] [] M (Ki P)) : CI m11_isCivil 6 [(20, ((59 : Nat) : Int)), (0, x1), (0, x2), (0, x3), (0, x4), (0, x5), (0, x6), (0, x7)] M P := by
  refine CI_of (by decide +kernel) (Nat.le_of_ble_eq_true rfl) ?_
  show A m11_isCivil 6 0 0 [(20, ((59 : Nat) : Int)), (0, x1), (0, x2), (0, x3), (0, x4), (0, x5), (0, x6), (0, x7), (2, 0)] [] M (Ki P)
  refine A_iconst (a := 0) (by decide +kernel) (by unfold in32; omega) ?_
  refine A_istore (i := 8) (by decide +kernel) (by decide) (fun w h0 hw => by simp at hw; first | (rw [← hw]; decide) | (rw [← hw]; simp)) ?_
  exact A_weak (lsub.keep (lsub.keep (lsub.keep (lsub.keep (lsub.keep (lsub.keep (lsub.keep (lsub.keep (lsub.keep lsub.nil))))))))) h
theorem r_11_isCivil_3 {x1 : Int} {x2 : Int} {x3 : Int} {x4 : Int} {x5 : Int} {x6 : Int} {x7 : Int} {x8 : Int} {M : Mem} {P : Int → Mem → Prop} (h : ((27 ≤ x8 → (P 1 M)) ∧ (x8 < 27 → ((x3 ≠ x4 → (CI m11_isWay 2 [(0, x8), (0, 0)] M (fun r7 M8 => ((r7 = 0 → A m11_isCivil 6 0 3 [(20, ((59 : Nat) : Int)), (0, x1), (0, x2), (0, x3), (0, x4), (0, x5), (0, x6), (0, x7), (0, (w32 (x8 + 1)))] [] M8 (Ki P)) ∧ (r7 ≠ 0 → (((w32 ((w32 (Int.tdiv x8 9)) - 1)) < x6 → (CI m11_rightBy 5 [(20, ((59 : Nat) : Int)), (0, x2), (0, x3), (0, x4), (0, x8)] M8 (fun r16 M17 => (CI m11_stays 3 [(20, ((59 : Nat) : Int)), (0, x1), (0, x5), (0, r16)] M17 (fun r19 M20 => ((r19 = 0 → A m11_isCivil 6 0 3 [(20, ((59 : Nat) : Int)), (0, x1), (0, x2), (0, x3), (0, x4), (0, x5), (0, x6), (0, x7), (0, (w32 (x8 + 1)))] [] M20 (Ki P)) ∧ (r19 ≠ 0 → (P 0 M20)))))))) ∧ (x6 ≤ (w32 ((w32 (Int.tdiv x8 9)) - 1)) → (((w32 ((w32 (Int.tmod (w32 (Int.tdiv x8 3)) 3)) - 1)) < x7 → (CI m11_rightBy 5 [(20, ((59 : Nat) : Int)), (0, x2), (0, x3), (0, x4), (0, x8)] M8 (fun r28 M29 => (CI m11_stays 3 [(20, ((59 : Nat) : Int)), (0, x1), (0, x5), (0, r28)] M29 (fun r31 M32 => ((r31 = 0 → A m11_isCivil 6 0 3 [(20, ((59 : Nat) : Int)), (0, x1), (0, x2), (0, x3), (0, x4), (0, x5), (0, x6), (0, x7), (0, (w32 (x8 + 1)))] [] M32 (Ki P)) ∧ (r31 ≠ 0 → (P 0 M32)))))))) ∧ (x7 ≤ (w32 ((w32 (Int.tmod (w32 (Int.tdiv x8 3)) 3)) - 1)) → A m11_isCivil 6 0 3 [(20, ((59 : Nat) : Int)), (0, x1), (0, x2), (0, x3), (0, x4), (0, x5), (0, x6), (0, x7), (0, (w32 (x8 + 1)))] [] M8 (Ki P)))))))))) ∧ (x3 = x4 → (CI m11_isWay 2 [(0, x8), (0, 1)] M (fun r37 M38 => ((r37 = 0 → A m11_isCivil 6 0 3 [(20, ((59 : Nat) : Int)), (0, x1), (0, x2), (0, x3), (0, x4), (0, x5), (0, x6), (0, x7), (0, (w32 (x8 + 1)))] [] M38 (Ki P)) ∧ (r37 ≠ 0 → (((w32 ((w32 (Int.tdiv x8 9)) - 1)) < x6 → (CI m11_rightBy 5 [(20, ((59 : Nat) : Int)), (0, x2), (0, x3), (0, x4), (0, x8)] M38 (fun r46 M47 => (CI m11_stays 3 [(20, ((59 : Nat) : Int)), (0, x1), (0, x5), (0, r46)] M47 (fun r49 M50 => ((r49 = 0 → A m11_isCivil 6 0 3 [(20, ((59 : Nat) : Int)), (0, x1), (0, x2), (0, x3), (0, x4), (0, x5), (0, x6), (0, x7), (0, (w32 (x8 + 1)))] [] M50 (Ki P)) ∧ (r49 ≠ 0 → (P 0 M50)))))))) ∧ (x6 ≤ (w32 ((w32 (Int.tdiv x8 9)) - 1)) → (((w32 ((w32 (Int.tmod (w32 (Int.tdiv x8 3)) 3)) - 1)) < x7 → (CI m11_rightBy 5 [(20, ((59 : Nat) : Int)), (0, x2), (0, x3), (0, x4), (0, x8)] M38 (fun r58 M59 => (CI m11_stays 3 [(20, ((59 : Nat) : Int)), (0, x1), (0, x5), (0, r58)] M59 (fun r61 M62 => ((r61 = 0 → A m11_isCivil 6 0 3 [(20, ((59 : Nat) : Int)), (0, x1), (0, x2), (0, x3), (0, x4), (0, x5), (0, x6), (0, x7), (0, (w32 (x8 + 1)))] [] M62 (Ki P)) ∧ (r61 ≠ 0 → (P 0 M62)))))))) ∧ (x7 ≤ (w32 ((w32 (Int.tmod (w32 (Int.tdiv x8 3)) 3)) - 1)) → A m11_isCivil 6 0 3 [(20, ((59 : Nat) : Int)), (0, x1), (0, x2), (0, x3), (0, x4), (0, x5), (0, x6), (0, x7), (0, (w32 (x8 + 1)))] [] M38 (Ki P)))))))))))))) : A m11_isCivil 6 0 3 [(20, ((59 : Nat) : Int)), (0, x1), (0, x2), (0, x3), (0, x4), (0, x5), (0, x6), (0, x7), (0, x8)] [] M (Ki P) := by
  refine A_iload (i := 8) (by decide +kernel) rfl ?_
  refine A_bipush (a := 27) (by decide +kernel) (by unfold in32; omega) (by decide +kernel) ?_
  refine A_ic_ge (off := 78) (tgt := 85) (by decide +kernel) (by omega) (fun b1 => ?_) (fun b1 => ?_)
  · have h2 := h.1 b1
    refine A_iconst (a := 1) (by decide +kernel) (by unfold in32; omega) ?_
    exact A_ret ⟨by decide +kernel, Or.inr ⟨rfl, by decide⟩⟩ ⟨_, rfl, h2⟩
  · have h3 := h.2 (Int.not_le.mp b1)
    refine A_iload (i := 8) (by decide +kernel) rfl ?_
    refine A_iload_n (i := 3) (f := 3) rfl (by decide +kernel) rfl ?_
    refine A_iload (i := 4) (by decide +kernel) rfl ?_
    refine A_ic_ne (off := 7) (tgt := 22) (by decide +kernel) (by omega) (fun b4 => ?_) (fun b4 => ?_)
    · have h5 := h3.1 b4
      refine A_iconst (a := 0) (by decide +kernel) (by unfold in32; omega) ?_
      refine A_cSi (args := [(0, x8), (0, 0)]) (st := []) (by decide +kernel) cv_m11_isWay st_m11_isWay lk_11_421 rfl (by omega) (Nat.le_of_ble_eq_true rfl) h5 (fun r7 M8 _ h9 => ?_)
      refine A_if_eq (off := 53) (tgt := 79) (by decide +kernel) (by omega) (fun b10 => ?_) (fun b10 => ?_)
      · have h11 := h9.1 b10
        refine A_iinc (i := 8) (n := 1) (by decide +kernel) (by decide) rfl (fun w h0 hw => by simp at hw; first | (rw [← hw]; decide) | (rw [← hw]; simp)) ?_
        refine A_goto (off := (-79)) (tgt := 3) (by decide +kernel) (by omega) ?_
        exact A_weak (lsub.keep (lsub.keep (lsub.keep (lsub.keep (lsub.keep (lsub.keep (lsub.keep (lsub.keep (lsub.keep lsub.nil))))))))) h11
      · have h12 := h9.2 b10
        refine A_iload (i := 8) (by decide +kernel) rfl ?_
        refine A_bipush (a := 9) (by decide +kernel) (by unfold in32; omega) (by decide +kernel) ?_
        refine A_idiv (by decide +kernel) (by omega) ?_
        refine A_iconst (a := 1) (by decide +kernel) (by unfold in32; omega) ?_
        refine A_isub (by decide +kernel) ?_
        refine A_iload (i := 6) (by decide +kernel) rfl ?_
        refine A_ic_lt (off := 19) (tgt := 57) (by decide +kernel) (by omega) (fun b13 => ?_) (fun b13 => ?_)
        · have h14 := h12.1 b13
          refine A_aload_n (i := 0) (f := 0) (by omega) rfl (by decide +kernel) rfl ?_
          refine A_iload_n (i := 1) (f := 1) rfl (by decide +kernel) rfl ?_
          refine A_iload (i := 5) (by decide +kernel) rfl ?_
          refine A_aload_n (i := 0) (f := 0) (by omega) rfl (by decide +kernel) rfl ?_
          refine A_iload_n (i := 2) (f := 2) rfl (by decide +kernel) rfl ?_
          refine A_iload_n (i := 3) (f := 3) rfl (by decide +kernel) rfl ?_
          refine A_iload (i := 4) (by decide +kernel) rfl ?_
          refine A_iload (i := 8) (by decide +kernel) rfl ?_
          refine A_cVi (q := (RX11, TX11, 59)) (ci := 10) (o := ((59 : Nat) : Int)) (args := [(0, x2), (0, x3), (0, x4), (0, x8)]) (st := [(0, x5), (0, x1), (20, ((59 : Nat) : Int))]) (by decide +kernel) cv_m11_rightBy rfl rfl in_m11_rightBy se_m11_rightBy lk_11_425 rfl (by omega) (Nat.le_of_ble_eq_true rfl) h14 (fun r16 M17 _ h18 => ?_)
          refine A_cVi (q := (RX11, TX11, 59)) (ci := 10) (o := ((59 : Nat) : Int)) (args := [(0, x1), (0, x5), (0, r16)]) (st := []) (by decide +kernel) cv_m11_stays rfl rfl in_m11_stays se_m11_stays lk_11_393 rfl (by omega) (Nat.le_of_ble_eq_true rfl) h18 (fun r19 M20 _ h21 => ?_)
          refine A_if_eq (off := 5) (tgt := 79) (by decide +kernel) (by omega) (fun b22 => ?_) (fun b22 => ?_)
          · have h23 := h21.1 b22
            refine A_iinc (i := 8) (n := 1) (by decide +kernel) (by decide) rfl (fun w h0 hw => by simp at hw; first | (rw [← hw]; decide) | (rw [← hw]; simp)) ?_
            refine A_goto (off := (-79)) (tgt := 3) (by decide +kernel) (by omega) ?_
            exact A_weak (lsub.keep (lsub.keep (lsub.keep (lsub.keep (lsub.keep (lsub.keep (lsub.keep (lsub.keep (lsub.keep lsub.nil))))))))) h23
          · have h24 := h21.2 b22
            refine A_iconst (a := 0) (by decide +kernel) (by unfold in32; omega) ?_
            exact A_ret ⟨by decide +kernel, Or.inr ⟨rfl, by decide⟩⟩ ⟨_, rfl, h24⟩
        · have h15 := h12.2 (Int.not_lt.mp b13)
          refine A_iload (i := 8) (by decide +kernel) rfl ?_
          refine A_iconst (a := 3) (by decide +kernel) (by unfold in32; omega) ?_
          refine A_idiv (by decide +kernel) (by omega) ?_
          refine A_iconst (a := 3) (by decide +kernel) (by unfold in32; omega) ?_
          refine A_irem (by decide +kernel) (by omega) ?_
          refine A_iconst (a := 1) (by decide +kernel) (by unfold in32; omega) ?_
          refine A_isub (by decide +kernel) ?_
          refine A_iload (i := 7) (by decide +kernel) rfl ?_
          refine A_ic_lt (off := 6) (tgt := 57) (by decide +kernel) (by omega) (fun b25 => ?_) (fun b25 => ?_)
          · have h26 := h15.1 b25
            refine A_aload_n (i := 0) (f := 0) (by omega) rfl (by decide +kernel) rfl ?_
            refine A_iload_n (i := 1) (f := 1) rfl (by decide +kernel) rfl ?_
            refine A_iload (i := 5) (by decide +kernel) rfl ?_
            refine A_aload_n (i := 0) (f := 0) (by omega) rfl (by decide +kernel) rfl ?_
            refine A_iload_n (i := 2) (f := 2) rfl (by decide +kernel) rfl ?_
            refine A_iload_n (i := 3) (f := 3) rfl (by decide +kernel) rfl ?_
            refine A_iload (i := 4) (by decide +kernel) rfl ?_
            refine A_iload (i := 8) (by decide +kernel) rfl ?_
            refine A_cVi (q := (RX11, TX11, 59)) (ci := 10) (o := ((59 : Nat) : Int)) (args := [(0, x2), (0, x3), (0, x4), (0, x8)]) (st := [(0, x5), (0, x1), (20, ((59 : Nat) : Int))]) (by decide +kernel) cv_m11_rightBy rfl rfl in_m11_rightBy se_m11_rightBy lk_11_425 rfl (by omega) (Nat.le_of_ble_eq_true rfl) h26 (fun r28 M29 _ h30 => ?_)
            refine A_cVi (q := (RX11, TX11, 59)) (ci := 10) (o := ((59 : Nat) : Int)) (args := [(0, x1), (0, x5), (0, r28)]) (st := []) (by decide +kernel) cv_m11_stays rfl rfl in_m11_stays se_m11_stays lk_11_393 rfl (by omega) (Nat.le_of_ble_eq_true rfl) h30 (fun r31 M32 _ h33 => ?_)
            refine A_if_eq (off := 5) (tgt := 79) (by decide +kernel) (by omega) (fun b34 => ?_) (fun b34 => ?_)
            · have h35 := h33.1 b34
              refine A_iinc (i := 8) (n := 1) (by decide +kernel) (by decide) rfl (fun w h0 hw => by simp at hw; first | (rw [← hw]; decide) | (rw [← hw]; simp)) ?_
              refine A_goto (off := (-79)) (tgt := 3) (by decide +kernel) (by omega) ?_
              exact A_weak (lsub.keep (lsub.keep (lsub.keep (lsub.keep (lsub.keep (lsub.keep (lsub.keep (lsub.keep (lsub.keep lsub.nil))))))))) h35
            · have h36 := h33.2 b34
              refine A_iconst (a := 0) (by decide +kernel) (by unfold in32; omega) ?_
              exact A_ret ⟨by decide +kernel, Or.inr ⟨rfl, by decide⟩⟩ ⟨_, rfl, h36⟩
          · have h27 := h15.2 (Int.not_lt.mp b25)
            refine A_goto (off := 25) (tgt := 79) (by decide +kernel) (by omega) ?_
            refine A_iinc (i := 8) (n := 1) (by decide +kernel) (by decide) rfl (fun w h0 hw => by simp at hw; first | (rw [← hw]; decide) | (rw [← hw]; simp)) ?_
            refine A_goto (off := (-79)) (tgt := 3) (by decide +kernel) (by omega) ?_
            exact A_weak (lsub.keep (lsub.keep (lsub.keep (lsub.keep (lsub.keep (lsub.keep (lsub.keep (lsub.keep (lsub.keep lsub.nil))))))))) h27
    · have h6 := h3.2 (Decidable.not_not.mp b4)
      refine A_iconst (a := 1) (by decide +kernel) (by unfold in32; omega) ?_
      refine A_goto (off := 4) (tgt := 23) (by decide +kernel) (by omega) ?_
      refine A_cSi (args := [(0, x8), (0, 1)]) (st := []) (by decide +kernel) cv_m11_isWay st_m11_isWay lk_11_421 rfl (by omega) (Nat.le_of_ble_eq_true rfl) h6 (fun r37 M38 _ h39 => ?_)
      refine A_if_eq (off := 53) (tgt := 79) (by decide +kernel) (by omega) (fun b40 => ?_) (fun b40 => ?_)
      · have h41 := h39.1 b40
        refine A_iinc (i := 8) (n := 1) (by decide +kernel) (by decide) rfl (fun w h0 hw => by simp at hw; first | (rw [← hw]; decide) | (rw [← hw]; simp)) ?_
        refine A_goto (off := (-79)) (tgt := 3) (by decide +kernel) (by omega) ?_
        exact A_weak (lsub.keep (lsub.keep (lsub.keep (lsub.keep (lsub.keep (lsub.keep (lsub.keep (lsub.keep (lsub.keep lsub.nil))))))))) h41
      · have h42 := h39.2 b40
        refine A_iload (i := 8) (by decide +kernel) rfl ?_
        refine A_bipush (a := 9) (by decide +kernel) (by unfold in32; omega) (by decide +kernel) ?_
        refine A_idiv (by decide +kernel) (by omega) ?_
        refine A_iconst (a := 1) (by decide +kernel) (by unfold in32; omega) ?_
        refine A_isub (by decide +kernel) ?_
        refine A_iload (i := 6) (by decide +kernel) rfl ?_
        refine A_ic_lt (off := 19) (tgt := 57) (by decide +kernel) (by omega) (fun b43 => ?_) (fun b43 => ?_)
        · have h44 := h42.1 b43
          refine A_aload_n (i := 0) (f := 0) (by omega) rfl (by decide +kernel) rfl ?_
          refine A_iload_n (i := 1) (f := 1) rfl (by decide +kernel) rfl ?_
          refine A_iload (i := 5) (by decide +kernel) rfl ?_
          refine A_aload_n (i := 0) (f := 0) (by omega) rfl (by decide +kernel) rfl ?_
          refine A_iload_n (i := 2) (f := 2) rfl (by decide +kernel) rfl ?_
          refine A_iload_n (i := 3) (f := 3) rfl (by decide +kernel) rfl ?_
          refine A_iload (i := 4) (by decide +kernel) rfl ?_
          refine A_iload (i := 8) (by decide +kernel) rfl ?_
          refine A_cVi (q := (RX11, TX11, 59)) (ci := 10) (o := ((59 : Nat) : Int)) (args := [(0, x2), (0, x3), (0, x4), (0, x8)]) (st := [(0, x5), (0, x1), (20, ((59 : Nat) : Int))]) (by decide +kernel) cv_m11_rightBy rfl rfl in_m11_rightBy se_m11_rightBy lk_11_425 rfl (by omega) (Nat.le_of_ble_eq_true rfl) h44 (fun r46 M47 _ h48 => ?_)
          refine A_cVi (q := (RX11, TX11, 59)) (ci := 10) (o := ((59 : Nat) : Int)) (args := [(0, x1), (0, x5), (0, r46)]) (st := []) (by decide +kernel) cv_m11_stays rfl rfl in_m11_stays se_m11_stays lk_11_393 rfl (by omega) (Nat.le_of_ble_eq_true rfl) h48 (fun r49 M50 _ h51 => ?_)
          refine A_if_eq (off := 5) (tgt := 79) (by decide +kernel) (by omega) (fun b52 => ?_) (fun b52 => ?_)
          · have h53 := h51.1 b52
            refine A_iinc (i := 8) (n := 1) (by decide +kernel) (by decide) rfl (fun w h0 hw => by simp at hw; first | (rw [← hw]; decide) | (rw [← hw]; simp)) ?_
            refine A_goto (off := (-79)) (tgt := 3) (by decide +kernel) (by omega) ?_
            exact A_weak (lsub.keep (lsub.keep (lsub.keep (lsub.keep (lsub.keep (lsub.keep (lsub.keep (lsub.keep (lsub.keep lsub.nil))))))))) h53
          · have h54 := h51.2 b52
            refine A_iconst (a := 0) (by decide +kernel) (by unfold in32; omega) ?_
            exact A_ret ⟨by decide +kernel, Or.inr ⟨rfl, by decide⟩⟩ ⟨_, rfl, h54⟩
        · have h45 := h42.2 (Int.not_lt.mp b43)
          refine A_iload (i := 8) (by decide +kernel) rfl ?_
          refine A_iconst (a := 3) (by decide +kernel) (by unfold in32; omega) ?_
          refine A_idiv (by decide +kernel) (by omega) ?_
          refine A_iconst (a := 3) (by decide +kernel) (by unfold in32; omega) ?_
          refine A_irem (by decide +kernel) (by omega) ?_
          refine A_iconst (a := 1) (by decide +kernel) (by unfold in32; omega) ?_
          refine A_isub (by decide +kernel) ?_
          refine A_iload (i := 7) (by decide +kernel) rfl ?_
          refine A_ic_lt (off := 6) (tgt := 57) (by decide +kernel) (by omega) (fun b55 => ?_) (fun b55 => ?_)
          · have h56 := h45.1 b55
            refine A_aload_n (i := 0) (f := 0) (by omega) rfl (by decide +kernel) rfl ?_
            refine A_iload_n (i := 1) (f := 1) rfl (by decide +kernel) rfl ?_
            refine A_iload (i := 5) (by decide +kernel) rfl ?_
            refine A_aload_n (i := 0) (f := 0) (by omega) rfl (by decide +kernel) rfl ?_
            refine A_iload_n (i := 2) (f := 2) rfl (by decide +kernel) rfl ?_
            refine A_iload_n (i := 3) (f := 3) rfl (by decide +kernel) rfl ?_
            refine A_iload (i := 4) (by decide +kernel) rfl ?_
            refine A_iload (i := 8) (by decide +kernel) rfl ?_
            refine A_cVi (q := (RX11, TX11, 59)) (ci := 10) (o := ((59 : Nat) : Int)) (args := [(0, x2), (0, x3), (0, x4), (0, x8)]) (st := [(0, x5), (0, x1), (20, ((59 : Nat) : Int))]) (by decide +kernel) cv_m11_rightBy rfl rfl in_m11_rightBy se_m11_rightBy lk_11_425 rfl (by omega) (Nat.le_of_ble_eq_true rfl) h56 (fun r58 M59 _ h60 => ?_)
            refine A_cVi (q := (RX11, TX11, 59)) (ci := 10) (o := ((59 : Nat) : Int)) (args := [(0, x1), (0, x5), (0, r58)]) (st := []) (by decide +kernel) cv_m11_stays rfl rfl in_m11_stays se_m11_stays lk_11_393 rfl (by omega) (Nat.le_of_ble_eq_true rfl) h60 (fun r61 M62 _ h63 => ?_)
            refine A_if_eq (off := 5) (tgt := 79) (by decide +kernel) (by omega) (fun b64 => ?_) (fun b64 => ?_)
            · have h65 := h63.1 b64
              refine A_iinc (i := 8) (n := 1) (by decide +kernel) (by decide) rfl (fun w h0 hw => by simp at hw; first | (rw [← hw]; decide) | (rw [← hw]; simp)) ?_
              refine A_goto (off := (-79)) (tgt := 3) (by decide +kernel) (by omega) ?_
              exact A_weak (lsub.keep (lsub.keep (lsub.keep (lsub.keep (lsub.keep (lsub.keep (lsub.keep (lsub.keep (lsub.keep lsub.nil))))))))) h65
            · have h66 := h63.2 b64
              refine A_iconst (a := 0) (by decide +kernel) (by unfold in32; omega) ?_
              exact A_ret ⟨by decide +kernel, Or.inr ⟨rfl, by decide⟩⟩ ⟨_, rfl, h66⟩
          · have h57 := h45.2 (Int.not_lt.mp b55)
            refine A_goto (off := 25) (tgt := 79) (by decide +kernel) (by omega) ?_
            refine A_iinc (i := 8) (n := 1) (by decide +kernel) (by decide) rfl (fun w h0 hw => by simp at hw; first | (rw [← hw]; decide) | (rw [← hw]; simp)) ?_
            refine A_goto (off := (-79)) (tgt := 3) (by decide +kernel) (by omega) ?_
            exact A_weak (lsub.keep (lsub.keep (lsub.keep (lsub.keep (lsub.keep (lsub.keep (lsub.keep (lsub.keep (lsub.keep lsub.nil))))))))) h57
theorem q_11_silence {x1 : Int} {x2 : Int} {x3 : Int} {x4 : Int} {M : Mem} {P : Int → Mem → Prop} (h : (CI m11_isSaying 3 [(20, ((59 : Nat) : Int)), (0, x1), (0, x2), (0, x3)] (mset M 59 0 0) (fun r1 M2 => ((r1 = 0 → (P (-1) M2)) ∧ (r1 ≠ 0 → ((x4 < 0 → (P (-1) M2)) ∧ (0 ≤ x4 → ((x4 ≤ 1 → (CD m11_layNow 3 [(20, ((59 : Nat) : Int)), (0, (M2 59 32))] M2 (fun M14 => (CI m11_right 5 [(20, ((59 : Nat) : Int)), (0, x1), (0, x2), (0, x3), (0, (M14 59 32))] M14 (fun r16 M17 => (CI m11_over 2 [(20, ((59 : Nat) : Int)), (0, x2), (0, x1)] M17 (fun r19 M20 => (CI m11_over 2 [(20, ((59 : Nat) : Int)), (0, x3), (0, x1)] M20 (fun r22 M23 => A m11_silence 7 0 71 [(20, ((59 : Nat) : Int)), (0, x1), (0, x2), (0, x3), (0, x4), (0, r16), (0, r19), (0, r22), (0, (-1)), (0, 0)] [] M23 (Ki P)))))))))) ∧ (1 < x4 → (P (-1) M2)))))))))) : CI m11_silence 7 [(20, ((59 : Nat) : Int)), (0, x1), (0, x2), (0, x3), (0, x4)] M P := by
  refine CI_of (by decide +kernel) (Nat.le_of_ble_eq_true rfl) ?_
  show A m11_silence 7 0 0 [(20, ((59 : Nat) : Int)), (0, x1), (0, x2), (0, x3), (0, x4), (2, 0), (2, 0), (2, 0), (2, 0), (2, 0)] [] M (Ki P)
  refine A_aload_n (i := 0) (f := 0) (by omega) rfl (by decide +kernel) rfl ?_
  refine A_iconst (a := 0) (by decide +kernel) (by unfold in32; omega) ?_
  refine B_putp (M' := (mset M 59 0 0)) (q := (RX11, TX11, 59)) (ci := 10) (j := 0) (p := 0) (by decide +kernel) rfl (by decide) rfl (Or.inl ⟨rfl, rfl⟩) rfl fl_11_118 rfl ?_
  refine A_aload_n (i := 0) (f := 0) (by omega) rfl (by decide +kernel) rfl ?_
  refine A_iload_n (i := 1) (f := 1) rfl (by decide +kernel) rfl ?_
  refine A_iload_n (i := 2) (f := 2) rfl (by decide +kernel) rfl ?_
  refine A_iload_n (i := 3) (f := 3) rfl (by decide +kernel) rfl ?_
  refine A_cVi (q := (RX11, TX11, 59)) (ci := 10) (o := ((59 : Nat) : Int)) (args := [(0, x1), (0, x2), (0, x3)]) (st := []) (by decide +kernel) cv_m11_isSaying rfl rfl in_m11_isSaying se_m11_isSaying lk_11_366 rfl (by omega) (Nat.le_of_ble_eq_true rfl) h (fun r1 M2 _ h3 => ?_)
  refine A_if_eq (off := 14) (tgt := 26) (by decide +kernel) (by omega) (fun b4 => ?_) (fun b4 => ?_)
  · have h5 := h3.1 b4
    refine A_iconst (a := (-1)) (by decide +kernel) (by unfold in32; omega) ?_
    exact A_ret ⟨by decide +kernel, Or.inl rfl⟩ ⟨_, rfl, h5⟩
  · have h6 := h3.2 b4
    refine A_iload (i := 4) (by decide +kernel) rfl ?_
    refine A_if_lt (off := 9) (tgt := 26) (by decide +kernel) (by omega) (fun b7 => ?_) (fun b7 => ?_)
    · have h8 := h6.1 b7
      refine A_iconst (a := (-1)) (by decide +kernel) (by unfold in32; omega) ?_
      exact A_ret ⟨by decide +kernel, Or.inl rfl⟩ ⟨_, rfl, h8⟩
    · have h9 := h6.2 (Int.not_lt.mp b7)
      refine A_iload (i := 4) (by decide +kernel) rfl ?_
      refine A_iconst (a := 1) (by decide +kernel) (by unfold in32; omega) ?_
      refine A_ic_le (off := 5) (tgt := 28) (by decide +kernel) (by omega) (fun b10 => ?_) (fun b10 => ?_)
      · have h11 := h9.1 b10
        refine A_aload_n (i := 0) (f := 0) (by omega) rfl (by decide +kernel) rfl ?_
        refine A_aload_n (i := 0) (f := 0) (by omega) rfl (by decide +kernel) rfl ?_
        refine B_getp (v := (M2 59 32)) (q := (RX11, TX11, 59)) (ci := 10) (j := 32) (p := 32) (by decide +kernel) rfl (by decide) rfl (Or.inl rfl) fl_11_296 rfl ?_
        refine A_cVd (q := (RX11, TX11, 59)) (ci := 10) (o := ((59 : Nat) : Int)) (args := [(0, (M2 59 32))]) (st := []) (by decide +kernel) cv_m11_layNow rfl rfl in_m11_layNow se_m11_layNow lk_11_309 rfl (by omega) (Nat.le_of_ble_eq_true rfl) h11 (fun M14 h15 => ?_)
        refine A_aload_n (i := 0) (f := 0) (by omega) rfl (by decide +kernel) rfl ?_
        refine A_iload_n (i := 1) (f := 1) rfl (by decide +kernel) rfl ?_
        refine A_iload_n (i := 2) (f := 2) rfl (by decide +kernel) rfl ?_
        refine A_iload_n (i := 3) (f := 3) rfl (by decide +kernel) rfl ?_
        refine A_aload_n (i := 0) (f := 0) (by omega) rfl (by decide +kernel) rfl ?_
        refine B_getp (v := (M14 59 32)) (q := (RX11, TX11, 59)) (ci := 10) (j := 32) (p := 32) (by decide +kernel) rfl (by decide) rfl (Or.inl rfl) fl_11_296 rfl ?_
        refine A_cVi (q := (RX11, TX11, 59)) (ci := 10) (o := ((59 : Nat) : Int)) (args := [(0, x1), (0, x2), (0, x3), (0, (M14 59 32))]) (st := []) (by decide +kernel) cv_m11_right rfl rfl in_m11_right se_m11_right lk_11_369 rfl (by omega) (Nat.le_of_ble_eq_true rfl) h15 (fun r16 M17 _ h18 => ?_)
        refine A_istore (i := 5) (by decide +kernel) (by decide) (fun w h0 hw => by simp at hw; first | (rw [← hw]; decide) | (rw [← hw]; simp)) ?_
        refine A_aload_n (i := 0) (f := 0) (by omega) rfl (by decide +kernel) rfl ?_
        refine A_iload_n (i := 2) (f := 2) rfl (by decide +kernel) rfl ?_
        refine A_iload_n (i := 1) (f := 1) rfl (by decide +kernel) rfl ?_
        refine A_cVi (q := (RX11, TX11, 59)) (ci := 10) (o := ((59 : Nat) : Int)) (args := [(0, x2), (0, x1)]) (st := []) (by decide +kernel) cv_m11_over rfl rfl in_m11_over se_m11_over lk_11_347 rfl (by omega) (Nat.le_of_ble_eq_true rfl) h18 (fun r19 M20 _ h21 => ?_)
        refine A_istore (i := 6) (by decide +kernel) (by decide) (fun w h0 hw => by simp at hw; first | (rw [← hw]; decide) | (rw [← hw]; simp)) ?_
        refine A_aload_n (i := 0) (f := 0) (by omega) rfl (by decide +kernel) rfl ?_
        refine A_iload_n (i := 3) (f := 3) rfl (by decide +kernel) rfl ?_
        refine A_iload_n (i := 1) (f := 1) rfl (by decide +kernel) rfl ?_
        refine A_cVi (q := (RX11, TX11, 59)) (ci := 10) (o := ((59 : Nat) : Int)) (args := [(0, x3), (0, x1)]) (st := []) (by decide +kernel) cv_m11_over rfl rfl in_m11_over se_m11_over lk_11_347 rfl (by omega) (Nat.le_of_ble_eq_true rfl) h21 (fun r22 M23 _ h24 => ?_)
        refine A_istore (i := 7) (by decide +kernel) (by decide) (fun w h0 hw => by simp at hw; first | (rw [← hw]; decide) | (rw [← hw]; simp)) ?_
        refine A_iconst (a := (-1)) (by decide +kernel) (by unfold in32; omega) ?_
        refine A_istore (i := 8) (by decide +kernel) (by decide) (fun w h0 hw => by simp at hw; first | (rw [← hw]; decide) | (rw [← hw]; simp)) ?_
        refine A_iconst (a := 0) (by decide +kernel) (by unfold in32; omega) ?_
        refine A_istore (i := 9) (by decide +kernel) (by decide) (fun w h0 hw => by simp at hw; first | (rw [← hw]; decide) | (rw [← hw]; simp)) ?_
        exact A_weak (lsub.keep (lsub.keep (lsub.keep (lsub.keep (lsub.keep (lsub.keep (lsub.keep (lsub.keep (lsub.keep (lsub.keep lsub.nil)))))))))) h24
      · have h12 := h9.2 (Int.not_le.mp b10)
        refine A_iconst (a := (-1)) (by decide +kernel) (by unfold in32; omega) ?_
        exact A_ret ⟨by decide +kernel, Or.inl rfl⟩ ⟨_, rfl, h12⟩
theorem r_11_silence_71 {x1 : Int} {x2 : Int} {x3 : Int} {x4 : Int} {x5 : Int} {x6 : Int} {x7 : Int} {x8 : Int} {x9 : Int} {M : Mem} {P : Int → Mem → Prop} (h : (((ishl 1 (M 61 2)) ≤ x9 → ((x8 ≠ (-1) → ((x4 ≠ 0 → (P x8 M)) ∧ (x4 = 0 → (CI m11_bitsOf 1 [(0, x8)] M (fun r10 M11 => (P r10 M11)))))) ∧ (x8 = (-1) → (P (-2) M)))) ∧ (x9 < (ishl 1 (M 61 2)) → ((x8 = (-1) → (CI m11_isCivil 6 [(20, ((59 : Nat) : Int)), (0, x9), (0, x1), (0, x2), (0, x3), (0, x5), (0, x6), (0, x7)] M (fun r16 M17 => ((r16 = 0 → A m11_silence 7 0 71 [(20, ((59 : Nat) : Int)), (0, x1), (0, x2), (0, x3), (0, x4), (0, x5), (0, x6), (0, x7), (0, x8), (0, (w32 (x9 + 1)))] [] M17 (Ki P)) ∧ (r16 ≠ 0 → A m11_silence 7 0 71 [(20, ((59 : Nat) : Int)), (0, x1), (0, x2), (0, x3), (0, x4), (0, x5), (0, x6), (0, x7), (0, x9), (0, (w32 (x9 + 1)))] [] M17 (Ki P)))))) ∧ (x8 ≠ (-1) → (CI m11_bitsOf 1 [(0, x9)] M (fun r22 M23 => (CI m11_bitsOf 1 [(0, x8)] M23 (fun r25 M26 => ((r22 < r25 → (CI m11_isCivil 6 [(20, ((59 : Nat) : Int)), (0, x9), (0, x1), (0, x2), (0, x3), (0, x5), (0, x6), (0, x7)] M26 (fun r31 M32 => ((r31 = 0 → A m11_silence 7 0 71 [(20, ((59 : Nat) : Int)), (0, x1), (0, x2), (0, x3), (0, x4), (0, x5), (0, x6), (0, x7), (0, x8), (0, (w32 (x9 + 1)))] [] M32 (Ki P)) ∧ (r31 ≠ 0 → A m11_silence 7 0 71 [(20, ((59 : Nat) : Int)), (0, x1), (0, x2), (0, x3), (0, x4), (0, x5), (0, x6), (0, x7), (0, x9), (0, (w32 (x9 + 1)))] [] M32 (Ki P)))))) ∧ (r25 ≤ r22 → A m11_silence 7 0 71 [(20, ((59 : Nat) : Int)), (0, x1), (0, x2), (0, x3), (0, x4), (0, x5), (0, x6), (0, x7), (0, x8), (0, (w32 (x9 + 1)))] [] M26 (Ki P)))))))))))) : A m11_silence 7 0 71 [(20, ((59 : Nat) : Int)), (0, x1), (0, x2), (0, x3), (0, x4), (0, x5), (0, x6), (0, x7), (0, x8), (0, x9)] [] M (Ki P) := by
  refine A_iload (i := 9) (by decide +kernel) rfl ?_
  refine A_iconst (a := 1) (by decide +kernel) (by unfold in32; omega) ?_
  refine A_aload_n (i := 0) (f := 0) (by omega) rfl (by decide +kernel) rfl ?_
  refine B_getr (o' := ((61 : Nat) : Int)) (q := (RX11, TX11, 59)) (ci := 10) (j := 3) (by decide +kernel) rfl (by decide) rfl (by omega) fl_11_13 rfl ?_
  refine A_iconst (a := 2) (by decide +kernel) (by unfold in32; omega) ?_
  refine B_iald (v := (M 61 2)) (by decide +kernel) (by decide) rfl ?_
  refine A_ishl (by decide +kernel) ?_
  refine A_ic_ge (off := 53) (tgt := 134) (by decide +kernel) (by omega) (fun b1 => ?_) (fun b1 => ?_)
  · have h2 := h.1 b1
    refine A_iload (i := 8) (by decide +kernel) rfl ?_
    refine A_iconst (a := (-1)) (by decide +kernel) (by unfold in32; omega) ?_
    refine A_ic_ne (off := 8) (tgt := 145) (by decide +kernel) (by omega) (fun b4 => ?_) (fun b4 => ?_)
    · have h5 := h2.1 b4
      refine A_iload (i := 4) (by decide +kernel) rfl ?_
      refine A_if_ne (off := 11) (tgt := 158) (by decide +kernel) (by omega) (fun b7 => ?_) (fun b7 => ?_)
      · have h8 := h5.1 b7
        refine A_iload (i := 8) (by decide +kernel) rfl ?_
        exact A_ret ⟨by decide +kernel, Or.inl rfl⟩ ⟨_, rfl, h8⟩
      · have h9 := h5.2 (Decidable.not_not.mp b7)
        refine A_iload (i := 8) (by decide +kernel) rfl ?_
        refine A_cSi (args := [(0, x8)]) (st := []) (by decide +kernel) cv_m11_bitsOf st_m11_bitsOf lk_11_396 rfl (by omega) (Nat.le_of_ble_eq_true rfl) h9 (fun r10 M11 _ h12 => ?_)
        refine A_goto (off := 5) (tgt := 160) (by decide +kernel) (by omega) ?_
        exact A_ret ⟨by decide +kernel, Or.inl rfl⟩ ⟨_, rfl, h12⟩
    · have h6 := h2.2 (Decidable.not_not.mp b4)
      refine A_bipush (a := (-2)) (by decide +kernel) (by unfold in32; omega) (by decide +kernel) ?_
      refine A_goto (off := 18) (tgt := 160) (by decide +kernel) (by omega) ?_
      exact A_ret ⟨by decide +kernel, Or.inl rfl⟩ ⟨_, rfl, h6⟩
  · have h3 := h.2 (Int.not_le.mp b1)
    refine A_iload (i := 8) (by decide +kernel) rfl ?_
    refine A_iconst (a := (-1)) (by decide +kernel) (by unfold in32; omega) ?_
    refine A_ic_eq (off := 19) (tgt := 106) (by decide +kernel) (by omega) (fun b13 => ?_) (fun b13 => ?_)
    · have h14 := h3.1 b13
      refine A_aload_n (i := 0) (f := 0) (by omega) rfl (by decide +kernel) rfl ?_
      refine A_iload (i := 9) (by decide +kernel) rfl ?_
      refine A_iload_n (i := 1) (f := 1) rfl (by decide +kernel) rfl ?_
      refine A_iload_n (i := 2) (f := 2) rfl (by decide +kernel) rfl ?_
      refine A_iload_n (i := 3) (f := 3) rfl (by decide +kernel) rfl ?_
      refine A_iload (i := 5) (by decide +kernel) rfl ?_
      refine A_iload (i := 6) (by decide +kernel) rfl ?_
      refine A_iload (i := 7) (by decide +kernel) rfl ?_
      refine A_cVi (q := (RX11, TX11, 59)) (ci := 10) (o := ((59 : Nat) : Int)) (args := [(0, x9), (0, x1), (0, x2), (0, x3), (0, x5), (0, x6), (0, x7)]) (st := []) (by decide +kernel) cv_m11_isCivil rfl rfl in_m11_isCivil se_m11_isCivil lk_11_449 rfl (by omega) (Nat.le_of_ble_eq_true rfl) h14 (fun r16 M17 _ h18 => ?_)
      refine A_if_eq (off := 7) (tgt := 128) (by decide +kernel) (by omega) (fun b19 => ?_) (fun b19 => ?_)
      · have h20 := h18.1 b19
        refine A_iinc (i := 9) (n := 1) (by decide +kernel) (by decide) rfl (fun w h0 hw => by simp at hw; first | (rw [← hw]; decide) | (rw [← hw]; simp)) ?_
        refine A_goto (off := (-60)) (tgt := 71) (by decide +kernel) (by omega) ?_
        exact A_weak (lsub.keep (lsub.keep (lsub.keep (lsub.keep (lsub.keep (lsub.keep (lsub.keep (lsub.keep (lsub.keep (lsub.keep lsub.nil)))))))))) h20
      · have h21 := h18.2 b19
        refine A_iload (i := 9) (by decide +kernel) rfl ?_
        refine A_istore (i := 8) (by decide +kernel) (by decide) (fun w h0 hw => by simp at hw; first | (rw [← hw]; decide) | (rw [← hw]; simp)) ?_
        refine A_iinc (i := 9) (n := 1) (by decide +kernel) (by decide) rfl (fun w h0 hw => by simp at hw; first | (rw [← hw]; decide) | (rw [← hw]; simp)) ?_
        refine A_goto (off := (-60)) (tgt := 71) (by decide +kernel) (by omega) ?_
        exact A_weak (lsub.keep (lsub.keep (lsub.keep (lsub.keep (lsub.keep (lsub.keep (lsub.keep (lsub.keep (lsub.keep (lsub.keep lsub.nil)))))))))) h21
    · have h15 := h3.2 b13
      refine A_iload (i := 9) (by decide +kernel) rfl ?_
      refine A_cSi (args := [(0, x9)]) (st := []) (by decide +kernel) cv_m11_bitsOf st_m11_bitsOf lk_11_396 rfl (by omega) (Nat.le_of_ble_eq_true rfl) h15 (fun r22 M23 _ h24 => ?_)
      refine A_iload (i := 8) (by decide +kernel) rfl ?_
      refine A_cSi (args := [(0, x8)]) (st := [(0, r22)]) (by decide +kernel) cv_m11_bitsOf st_m11_bitsOf lk_11_396 rfl (by omega) (Nat.le_of_ble_eq_true rfl) h24 (fun r25 M26 _ h27 => ?_)
      refine A_ic_lt (off := 6) (tgt := 106) (by decide +kernel) (by omega) (fun b28 => ?_) (fun b28 => ?_)
      · have h29 := h27.1 b28
        refine A_aload_n (i := 0) (f := 0) (by omega) rfl (by decide +kernel) rfl ?_
        refine A_iload (i := 9) (by decide +kernel) rfl ?_
        refine A_iload_n (i := 1) (f := 1) rfl (by decide +kernel) rfl ?_
        refine A_iload_n (i := 2) (f := 2) rfl (by decide +kernel) rfl ?_
        refine A_iload_n (i := 3) (f := 3) rfl (by decide +kernel) rfl ?_
        refine A_iload (i := 5) (by decide +kernel) rfl ?_
        refine A_iload (i := 6) (by decide +kernel) rfl ?_
        refine A_iload (i := 7) (by decide +kernel) rfl ?_
        refine A_cVi (q := (RX11, TX11, 59)) (ci := 10) (o := ((59 : Nat) : Int)) (args := [(0, x9), (0, x1), (0, x2), (0, x3), (0, x5), (0, x6), (0, x7)]) (st := []) (by decide +kernel) cv_m11_isCivil rfl rfl in_m11_isCivil se_m11_isCivil lk_11_449 rfl (by omega) (Nat.le_of_ble_eq_true rfl) h29 (fun r31 M32 _ h33 => ?_)
        refine A_if_eq (off := 7) (tgt := 128) (by decide +kernel) (by omega) (fun b34 => ?_) (fun b34 => ?_)
        · have h35 := h33.1 b34
          refine A_iinc (i := 9) (n := 1) (by decide +kernel) (by decide) rfl (fun w h0 hw => by simp at hw; first | (rw [← hw]; decide) | (rw [← hw]; simp)) ?_
          refine A_goto (off := (-60)) (tgt := 71) (by decide +kernel) (by omega) ?_
          exact A_weak (lsub.keep (lsub.keep (lsub.keep (lsub.keep (lsub.keep (lsub.keep (lsub.keep (lsub.keep (lsub.keep (lsub.keep lsub.nil)))))))))) h35
        · have h36 := h33.2 b34
          refine A_iload (i := 9) (by decide +kernel) rfl ?_
          refine A_istore (i := 8) (by decide +kernel) (by decide) (fun w h0 hw => by simp at hw; first | (rw [← hw]; decide) | (rw [← hw]; simp)) ?_
          refine A_iinc (i := 9) (n := 1) (by decide +kernel) (by decide) rfl (fun w h0 hw => by simp at hw; first | (rw [← hw]; decide) | (rw [← hw]; simp)) ?_
          refine A_goto (off := (-60)) (tgt := 71) (by decide +kernel) (by omega) ?_
          exact A_weak (lsub.keep (lsub.keep (lsub.keep (lsub.keep (lsub.keep (lsub.keep (lsub.keep (lsub.keep (lsub.keep (lsub.keep lsub.nil)))))))))) h36
      · have h30 := h27.2 (Int.not_lt.mp b28)
        refine A_goto (off := 25) (tgt := 128) (by decide +kernel) (by omega) ?_
        refine A_iinc (i := 9) (n := 1) (by decide +kernel) (by decide) rfl (fun w h0 hw => by simp at hw; first | (rw [← hw]; decide) | (rw [← hw]; simp)) ?_
        refine A_goto (off := (-60)) (tgt := 71) (by decide +kernel) (by omega) ?_
        exact A_weak (lsub.keep (lsub.keep (lsub.keep (lsub.keep (lsub.keep (lsub.keep (lsub.keep (lsub.keep (lsub.keep (lsub.keep lsub.nil)))))))))) h30
theorem q_11_state {x1 : Int} {M : Mem} {P : Int → Mem → Prop} (h : A m11_state 1 0 4 [(20, ((59 : Nat) : Int)), (0, x1), (0, 0), (0, 0)] [] M (Ki P)) : CI m11_state 1 [(20, ((59 : Nat) : Int)), (0, x1)] M P := by
  refine CI_of (by decide +kernel) (Nat.le_of_ble_eq_true rfl) ?_
  show A m11_state 1 0 0 [(20, ((59 : Nat) : Int)), (0, x1), (2, 0), (2, 0)] [] M (Ki P)
  refine A_iconst (a := 0) (by decide +kernel) (by unfold in32; omega) ?_
  refine A_istore_n (i := 2) (f := 2) rfl (by decide +kernel) (by decide) (fun w h0 hw => by simp at hw; first | (rw [← hw]; decide) | (rw [← hw]; simp)) ?_
  refine A_iconst (a := 0) (by decide +kernel) (by unfold in32; omega) ?_
  refine A_istore_n (i := 3) (f := 3) rfl (by decide +kernel) (by decide) (fun w h0 hw => by simp at hw; first | (rw [← hw]; decide) | (rw [← hw]; simp)) ?_
  exact A_weak (lsub.keep (lsub.keep (lsub.keep (lsub.keep lsub.nil)))) h
theorem r_11_state_4 {x1 : Int} {x2 : Int} {x3 : Int} {M : Mem} {P : Int → Mem → Prop} (h : ((5 ≤ x3 → (P (w32 ((w32 (x2 * 4)) + x1)) M)) ∧ (x3 < 5 → ((0 ≤ x3 ∧ x3 < 5) ∧ A m11_state 1 0 4 [(20, ((59 : Nat) : Int)), (0, x1), (0, (w32 ((w32 (x2 * 5)) + (M 92 (x3).toNat)))), (0, (w32 (x3 + 1)))] [] M (Ki P))))) : A m11_state 1 0 4 [(20, ((59 : Nat) : Int)), (0, x1), (0, x2), (0, x3)] [] M (Ki P) := by
  refine A_iload_n (i := 3) (f := 3) rfl (by decide +kernel) rfl ?_
  refine A_iconst (a := 5) (by decide +kernel) (by unfold in32; omega) ?_
  refine A_ic_ge (off := 20) (tgt := 26) (by decide +kernel) (by omega) (fun b1 => ?_) (fun b1 => ?_)
  · have h2 := h.1 b1
    refine A_iload_n (i := 2) (f := 2) rfl (by decide +kernel) rfl ?_
    refine A_iconst (a := 4) (by decide +kernel) (by unfold in32; omega) ?_
    refine A_imul (by decide +kernel) ?_
    refine A_iload_n (i := 1) (f := 1) rfl (by decide +kernel) rfl ?_
    refine A_iadd (by decide +kernel) ?_
    exact A_ret ⟨by decide +kernel, Or.inl rfl⟩ ⟨_, rfl, h2⟩
  · have h3 := h.2 (Int.not_le.mp b1)
    refine A_iload_n (i := 2) (f := 2) rfl (by decide +kernel) rfl ?_
    refine A_iconst (a := 5) (by decide +kernel) (by unfold in32; omega) ?_
    refine A_imul (by decide +kernel) ?_
    refine A_aload_n (i := 0) (f := 0) (by omega) rfl (by decide +kernel) rfl ?_
    refine B_getr (o' := ((92 : Nat) : Int)) (q := (RX11, TX11, 59)) (ci := 10) (j := 58) (by decide +kernel) rfl (by decide) rfl (by omega) fl_11_115 rfl ?_
    refine A_iload_n (i := 3) (f := 3) rfl (by decide +kernel) rfl ?_
    refine B_iald (v := (M 92 (x3).toNat)) (by decide +kernel) h3.1 rfl ?_
    have h4 := h3.2
    refine A_iadd (by decide +kernel) ?_
    refine A_istore_n (i := 2) (f := 2) rfl (by decide +kernel) (by decide) (fun w h0 hw => by simp at hw; first | (rw [← hw]; decide) | (rw [← hw]; simp)) ?_
    refine A_iinc (i := 3) (n := 1) (by decide +kernel) (by decide) rfl (fun w h0 hw => by simp at hw; first | (rw [← hw]; decide) | (rw [← hw]; simp)) ?_
    refine A_goto (off := (-19)) (tgt := 4) (by decide +kernel) (by omega) ?_
    exact A_weak (lsub.keep (lsub.keep (lsub.keep (lsub.keep lsub.nil)))) h4
theorem q_11_takes {x1 : Int} {M : Mem} {P : Mem → Prop} (h : A m11_takes 1 0 6 [(20, ((59 : Nat) : Int)), (2, 0), (0, (w32 (Int.tdiv x1 4))), (0, 4)] [] M (Kd P)) : CD m11_takes 1 [(20, ((59 : Nat) : Int)), (0, x1)] M P := by
  refine CD_of (by decide +kernel) (Nat.le_of_ble_eq_true rfl) ?_
  show A m11_takes 1 0 0 [(20, ((59 : Nat) : Int)), (0, x1), (2, 0), (2, 0)] [] M (Kd P)
  refine A_iload_n (i := 1) (f := 1) rfl (by decide +kernel) rfl ?_
  refine A_iconst (a := 4) (by decide +kernel) (by unfold in32; omega) ?_
  refine A_idiv (by decide +kernel) (by omega) ?_
  refine A_istore_n (i := 2) (f := 2) rfl (by decide +kernel) (by decide) (fun w h0 hw => by simp at hw; first | (rw [← hw]; decide) | (rw [← hw]; simp)) ?_
  refine A_iconst (a := 4) (by decide +kernel) (by unfold in32; omega) ?_
  refine A_istore_n (i := 3) (f := 3) rfl (by decide +kernel) (by decide) (fun w h0 hw => by simp at hw; first | (rw [← hw]; decide) | (rw [← hw]; simp)) ?_
  exact A_weak (lsub.keep (lsub.drop (lsub.keep (lsub.keep lsub.nil)))) h
theorem r_11_takes_6 {x2 : Int} {x3 : Int} {M : Mem} {P : Mem → Prop} (h : ((x3 < 0 → (P M)) ∧ (0 ≤ x3 → ((0 ≤ x3 ∧ x3 < 5) ∧ A m11_takes 1 0 6 [(20, ((59 : Nat) : Int)), (2, 0), (0, (w32 (Int.tdiv x2 5))), (0, (w32 (x3 + (-1))))] [] (mset M 92 (x3).toNat (w32 (Int.tmod x2 5))) (Kd P))))) : A m11_takes 1 0 6 [(20, ((59 : Nat) : Int)), (2, 0), (0, x2), (0, x3)] [] M (Kd P) := by
  refine A_iload_n (i := 3) (f := 3) rfl (by decide +kernel) rfl ?_
  refine A_if_lt (off := 22) (tgt := 29) (by decide +kernel) (by omega) (fun b1 => ?_) (fun b1 => ?_)
  · have h2 := h.1 b1
    exact A_ret ⟨by decide +kernel, rfl⟩ ⟨rfl, h2⟩
  · have h3 := h.2 (Int.not_lt.mp b1)
    refine A_aload_n (i := 0) (f := 0) (by omega) rfl (by decide +kernel) rfl ?_
    refine B_getr (o' := ((92 : Nat) : Int)) (q := (RX11, TX11, 59)) (ci := 10) (j := 58) (by decide +kernel) rfl (by decide) rfl (by omega) fl_11_115 rfl ?_
    refine A_iload_n (i := 3) (f := 3) rfl (by decide +kernel) rfl ?_
    refine A_iload_n (i := 2) (f := 2) rfl (by decide +kernel) rfl ?_
    refine A_iconst (a := 5) (by decide +kernel) (by unfold in32; omega) ?_
    refine A_irem (by decide +kernel) (by omega) ?_
    refine B_iast (M' := (mset M 92 (x3).toNat (w32 (Int.tmod x2 5)))) (by decide +kernel) h3.1 rfl ?_
    have h4 := h3.2
    refine A_iload_n (i := 2) (f := 2) rfl (by decide +kernel) rfl ?_
    refine A_iconst (a := 5) (by decide +kernel) (by unfold in32; omega) ?_
    refine A_idiv (by decide +kernel) (by omega) ?_
    refine A_istore_n (i := 2) (f := 2) rfl (by decide +kernel) (by decide) (fun w h0 hw => by simp at hw; first | (rw [← hw]; decide) | (rw [← hw]; simp)) ?_
    refine A_iinc (i := 3) (n := (-1)) (by decide +kernel) (by decide) rfl (fun w h0 hw => by simp at hw; first | (rw [← hw]; decide) | (rw [← hw]; simp)) ?_
    refine A_goto (off := (-20)) (tgt := 6) (by decide +kernel) (by omega) ?_
    exact A_weak (lsub.keep (lsub.drop (lsub.keep (lsub.keep lsub.nil)))) h4
theorem q_11_isOver {x1 : Int} {x2 : Int} {x3 : Int} {M : Mem} {P : Int → Mem → Prop} (h : ((0 ≤ x1 ∧ x1 < 5) ∧ ((0 ≤ x2 ∧ x2 < 5) ∧ (CI m11_pair 1 [(0, (M 92 (x1).toNat)), (0, (M 92 (x2).toNat))] M (fun r3 M4 => ((0 ≤ (w32 ((w32 (25 * x3)) + r3)) ∧ (w32 ((w32 (25 * x3)) + r3)) < 100) ∧ (((M4 88 ((w32 ((w32 (25 * x3)) + r3))).toNat) = 0 ∨ (M4 88 ((w32 ((w32 (25 * x3)) + r3))).toNat) = 1) ∧ P (M4 88 ((w32 ((w32 (25 * x3)) + r3))).toNat) M4))))))) : CI m11_isOver 2 [(20, ((59 : Nat) : Int)), (0, x1), (0, x2), (0, x3)] M P := by
  refine CI_of (by decide +kernel) (Nat.le_of_ble_eq_true rfl) ?_
  show A m11_isOver 2 0 0 [(20, ((59 : Nat) : Int)), (0, x1), (0, x2), (0, x3)] [] M (Ki P)
  refine A_aload_n (i := 0) (f := 0) (by omega) rfl (by decide +kernel) rfl ?_
  refine B_getr (o' := ((88 : Nat) : Int)) (q := (RX11, TX11, 59)) (ci := 10) (j := 54) (by decide +kernel) rfl (by decide) rfl (by omega) fl_11_103 rfl ?_
  refine A_bipush (a := 25) (by decide +kernel) (by unfold in32; omega) (by decide +kernel) ?_
  refine A_iload_n (i := 3) (f := 3) rfl (by decide +kernel) rfl ?_
  refine A_imul (by decide +kernel) ?_
  refine A_aload_n (i := 0) (f := 0) (by omega) rfl (by decide +kernel) rfl ?_
  refine B_getr (o' := ((92 : Nat) : Int)) (q := (RX11, TX11, 59)) (ci := 10) (j := 58) (by decide +kernel) rfl (by decide) rfl (by omega) fl_11_115 rfl ?_
  refine A_iload_n (i := 1) (f := 1) rfl (by decide +kernel) rfl ?_
  refine B_iald (v := (M 92 (x1).toNat)) (by decide +kernel) h.1 rfl ?_
  have h1 := h.2
  refine A_aload_n (i := 0) (f := 0) (by omega) rfl (by decide +kernel) rfl ?_
  refine B_getr (o' := ((92 : Nat) : Int)) (q := (RX11, TX11, 59)) (ci := 10) (j := 58) (by decide +kernel) rfl (by decide) rfl (by omega) fl_11_115 rfl ?_
  refine A_iload_n (i := 2) (f := 2) rfl (by decide +kernel) rfl ?_
  refine B_iald (v := (M 92 (x2).toNat)) (by decide +kernel) h1.1 rfl ?_
  have h2 := h1.2
  refine A_cSi (args := [(0, (M 92 (x1).toNat)), (0, (M 92 (x2).toNat))]) (st := [(0, (w32 (25 * x3))), (31, ((88 : Nat) : Int))]) (by decide +kernel) cv_m11_pair st_m11_pair lk_11_242 rfl (by omega) (Nat.le_of_ble_eq_true rfl) h2 (fun r3 M4 _ h5 => ?_)
  refine A_iadd (by decide +kernel) ?_
  refine B_zald (v := (M4 88 ((w32 ((w32 (25 * x3)) + r3))).toNat)) (by decide +kernel) h5.1 rfl ?_
  have h6 := h5.2
  exact A_ret ⟨by decide +kernel, Or.inr ⟨rfl, h6.1⟩⟩ ⟨_, rfl, h6.2⟩
theorem q_11_mayRise {x1 : Int} {x2 : Int} {x3 : Int} {M : Mem} {P : Int → Mem → Prop} (h : (CI m11_isOver 2 [(20, ((59 : Nat) : Int)), (0, x2), (0, x1), (0, x3)] M (fun r1 M2 => ((r1 = 0 → (CI m11_isOver 2 [(20, ((59 : Nat) : Int)), (0, x1), (0, x2), (0, x3)] M2 (fun r7 M8 => ((r7 = 0 → A m11_mayRise 4 0 37 [(20, ((59 : Nat) : Int)), (0, x1), (0, x2), (0, x3), (0, 0), (0, 0), (0, 0)] [] M8 (Ki P)) ∧ (r7 ≠ 0 → A m11_mayRise 4 0 37 [(20, ((59 : Nat) : Int)), (0, x1), (0, x2), (0, x3), (0, (-1)), (0, 0), (0, 0)] [] M8 (Ki P)))))) ∧ (r1 ≠ 0 → A m11_mayRise 4 0 37 [(20, ((59 : Nat) : Int)), (0, x1), (0, x2), (0, x3), (0, 1), (0, 0), (0, 0)] [] M2 (Ki P)))))) : CI m11_mayRise 4 [(20, ((59 : Nat) : Int)), (0, x1), (0, x2), (0, x3)] M P := by
  refine CI_of (by decide +kernel) (Nat.le_of_ble_eq_true rfl) ?_
  show A m11_mayRise 4 0 0 [(20, ((59 : Nat) : Int)), (0, x1), (0, x2), (0, x3), (2, 0), (2, 0), (2, 0)] [] M (Ki P)
  refine A_aload_n (i := 0) (f := 0) (by omega) rfl (by decide +kernel) rfl ?_
  refine A_iload_n (i := 2) (f := 2) rfl (by decide +kernel) rfl ?_
  refine A_iload_n (i := 1) (f := 1) rfl (by decide +kernel) rfl ?_
  refine A_iload_n (i := 3) (f := 3) rfl (by decide +kernel) rfl ?_
  refine A_cVi (q := (RX11, TX11, 59)) (ci := 10) (o := ((59 : Nat) : Int)) (args := [(0, x2), (0, x1), (0, x3)]) (st := []) (by decide +kernel) cv_m11_isOver rfl rfl in_m11_isOver se_m11_isOver lk_11_453 rfl (by omega) (Nat.le_of_ble_eq_true rfl) h (fun r1 M2 _ h3 => ?_)
  refine A_if_eq (off := 7) (tgt := 14) (by decide +kernel) (by omega) (fun b4 => ?_) (fun b4 => ?_)
  · have h5 := h3.1 b4
    refine A_aload_n (i := 0) (f := 0) (by omega) rfl (by decide +kernel) rfl ?_
    refine A_iload_n (i := 1) (f := 1) rfl (by decide +kernel) rfl ?_
    refine A_iload_n (i := 2) (f := 2) rfl (by decide +kernel) rfl ?_
    refine A_iload_n (i := 3) (f := 3) rfl (by decide +kernel) rfl ?_
    refine A_cVi (q := (RX11, TX11, 59)) (ci := 10) (o := ((59 : Nat) : Int)) (args := [(0, x1), (0, x2), (0, x3)]) (st := []) (by decide +kernel) cv_m11_isOver rfl rfl in_m11_isOver se_m11_isOver lk_11_453 rfl (by omega) (Nat.le_of_ble_eq_true rfl) h5 (fun r7 M8 _ h9 => ?_)
    refine A_if_eq (off := 7) (tgt := 28) (by decide +kernel) (by omega) (fun b10 => ?_) (fun b10 => ?_)
    · have h11 := h9.1 b10
      refine A_iconst (a := 0) (by decide +kernel) (by unfold in32; omega) ?_
      refine A_istore (i := 4) (by decide +kernel) (by decide) (fun w h0 hw => by simp at hw; first | (rw [← hw]; decide) | (rw [← hw]; simp)) ?_
      refine A_iconst (a := 0) (by decide +kernel) (by unfold in32; omega) ?_
      refine A_istore (i := 5) (by decide +kernel) (by decide) (fun w h0 hw => by simp at hw; first | (rw [← hw]; decide) | (rw [← hw]; simp)) ?_
      refine A_iconst (a := 0) (by decide +kernel) (by unfold in32; omega) ?_
      refine A_istore (i := 6) (by decide +kernel) (by decide) (fun w h0 hw => by simp at hw; first | (rw [← hw]; decide) | (rw [← hw]; simp)) ?_
      exact A_weak (lsub.keep (lsub.keep (lsub.keep (lsub.keep (lsub.keep (lsub.keep (lsub.keep lsub.nil))))))) h11
    · have h12 := h9.2 b10
      refine A_iconst (a := (-1)) (by decide +kernel) (by unfold in32; omega) ?_
      refine A_goto (off := 4) (tgt := 29) (by decide +kernel) (by omega) ?_
      refine A_istore (i := 4) (by decide +kernel) (by decide) (fun w h0 hw => by simp at hw; first | (rw [← hw]; decide) | (rw [← hw]; simp)) ?_
      refine A_iconst (a := 0) (by decide +kernel) (by unfold in32; omega) ?_
      refine A_istore (i := 5) (by decide +kernel) (by decide) (fun w h0 hw => by simp at hw; first | (rw [← hw]; decide) | (rw [← hw]; simp)) ?_
      refine A_iconst (a := 0) (by decide +kernel) (by unfold in32; omega) ?_
      refine A_istore (i := 6) (by decide +kernel) (by decide) (fun w h0 hw => by simp at hw; first | (rw [← hw]; decide) | (rw [← hw]; simp)) ?_
      exact A_weak (lsub.keep (lsub.keep (lsub.keep (lsub.keep (lsub.keep (lsub.keep (lsub.keep lsub.nil))))))) h12
  · have h6 := h3.2 b4
    refine A_iconst (a := 1) (by decide +kernel) (by unfold in32; omega) ?_
    refine A_goto (off := 18) (tgt := 29) (by decide +kernel) (by omega) ?_
    refine A_istore (i := 4) (by decide +kernel) (by decide) (fun w h0 hw => by simp at hw; first | (rw [← hw]; decide) | (rw [← hw]; simp)) ?_
    refine A_iconst (a := 0) (by decide +kernel) (by unfold in32; omega) ?_
    refine A_istore (i := 5) (by decide +kernel) (by decide) (fun w h0 hw => by simp at hw; first | (rw [← hw]; decide) | (rw [← hw]; simp)) ?_
    refine A_iconst (a := 0) (by decide +kernel) (by unfold in32; omega) ?_
    refine A_istore (i := 6) (by decide +kernel) (by decide) (fun w h0 hw => by simp at hw; first | (rw [← hw]; decide) | (rw [← hw]; simp)) ?_
    exact A_weak (lsub.keep (lsub.keep (lsub.keep (lsub.keep (lsub.keep (lsub.keep (lsub.keep lsub.nil))))))) h6
theorem r_11_mayRise_37 {x1 : Int} {x2 : Int} {x3 : Int} {x4 : Int} {x5 : Int} {x6 : Int} {M : Mem} {P : Int → Mem → Prop} (h : (((M 61 0) ≤ x6 → (CD m11_calls 2 [(20, ((59 : Nat) : Int)), (0, x1), (0, x2), (0, x2), (0, x3), (0, x4), (0, x4), (0, 0)] M (fun M5 => ((((mset M5 77 7 x5) 66 5) = ((mset M5 77 7 x5) 65 5) → ((x4 ≠ 1 → (P 0 (mset M5 77 7 x5))) ∧ (x4 = 1 → (P 1 (mset M5 77 7 x5))))) ∧ (((mset M5 77 7 x5) 66 5) ≠ ((mset M5 77 7 x5) 65 5) → (CI m11_goes 3 [(20, ((59 : Nat) : Int)), (0, 5)] (mset M5 77 7 x5) (fun r13 M14 => ((r13 ≠ 0 → (((M14 78 0) = 0 → (P 0 M14)) ∧ ((M14 78 0) ≠ 0 → (P 1 M14)))) ∧ (r13 = 0 → ((x4 ≠ 1 → (P 0 M14)) ∧ (x4 = 1 → (P 1 M14)))))))))))) ∧ (x6 < (M 61 0) → (CI m11_isOver 2 [(20, ((59 : Nat) : Int)), (0, x6), (0, x1), (0, x3)] M (fun r25 M26 => ((r25 = 0 → A m11_mayRise 4 0 37 [(20, ((59 : Nat) : Int)), (0, x1), (0, x2), (0, x3), (0, x4), (0, (w32 (x5 + 0))), (0, (w32 (x6 + 1)))] [] M26 (Ki P)) ∧ (r25 ≠ 0 → (CI m11_isOver 2 [(20, ((59 : Nat) : Int)), (0, x6), (0, x2), (0, x3)] M26 (fun r31 M32 => ((r31 ≠ 0 → A m11_mayRise 4 0 37 [(20, ((59 : Nat) : Int)), (0, x1), (0, x2), (0, x3), (0, x4), (0, (w32 (x5 + 0))), (0, (w32 (x6 + 1)))] [] M32 (Ki P)) ∧ (r31 = 0 → A m11_mayRise 4 0 37 [(20, ((59 : Nat) : Int)), (0, x1), (0, x2), (0, x3), (0, x4), (0, (w32 (x5 + 1))), (0, (w32 (x6 + 1)))] [] M32 (Ki P)))))))))))) : A m11_mayRise 4 0 37 [(20, ((59 : Nat) : Int)), (0, x1), (0, x2), (0, x3), (0, x4), (0, x5), (0, x6)] [] M (Ki P) := by
  refine A_iload (i := 6) (by decide +kernel) rfl ?_
  refine A_aload_n (i := 0) (f := 0) (by omega) rfl (by decide +kernel) rfl ?_
  refine B_getr (o' := ((61 : Nat) : Int)) (q := (RX11, TX11, 59)) (ci := 10) (j := 3) (by decide +kernel) rfl (by decide) rfl (by omega) fl_11_13 rfl ?_
  refine A_iconst (a := 0) (by decide +kernel) (by unfold in32; omega) ?_
  refine B_iald (v := (M 61 0)) (by decide +kernel) (by decide) rfl ?_
  refine A_ic_ge (off := 41) (tgt := 86) (by decide +kernel) (by omega) (fun b1 => ?_) (fun b1 => ?_)
  · have h2 := h.1 b1
    refine A_aload_n (i := 0) (f := 0) (by omega) rfl (by decide +kernel) rfl ?_
    refine A_iload_n (i := 1) (f := 1) rfl (by decide +kernel) rfl ?_
    refine A_iload_n (i := 2) (f := 2) rfl (by decide +kernel) rfl ?_
    refine A_iload_n (i := 2) (f := 2) rfl (by decide +kernel) rfl ?_
    refine A_iload_n (i := 3) (f := 3) rfl (by decide +kernel) rfl ?_
    refine A_iload (i := 4) (by decide +kernel) rfl ?_
    refine A_iload (i := 4) (by decide +kernel) rfl ?_
    refine A_iconst (a := 0) (by decide +kernel) (by unfold in32; omega) ?_
    refine A_cVd (q := (RX11, TX11, 59)) (ci := 10) (o := ((59 : Nat) : Int)) (args := [(0, x1), (0, x2), (0, x2), (0, x3), (0, x4), (0, x4), (0, 0)]) (st := []) (by decide +kernel) cv_m11_calls rfl rfl in_m11_calls se_m11_calls lk_11_350 rfl (by omega) (Nat.le_of_ble_eq_true rfl) h2 (fun M5 h6 => ?_)
    refine A_aload_n (i := 0) (f := 0) (by omega) rfl (by decide +kernel) rfl ?_
    refine B_getr (o' := ((77 : Nat) : Int)) (q := (RX11, TX11, 59)) (ci := 10) (j := 37) (by decide +kernel) rfl (by decide) rfl (by omega) fl_11_66 rfl ?_
    refine A_bipush (a := 7) (by decide +kernel) (by unfold in32; omega) (by decide +kernel) ?_
    refine A_iload (i := 5) (by decide +kernel) rfl ?_
    refine A_i2l (by decide +kernel) ?_
    refine B_last (M' := (mset M5 77 7 x5)) (by decide +kernel) (by decide) rfl ?_
    refine A_aload_n (i := 0) (f := 0) (by omega) rfl (by decide +kernel) rfl ?_
    refine B_getr (o' := ((66 : Nat) : Int)) (q := (RX11, TX11, 59)) (ci := 10) (j := 8) (by decide +kernel) rfl (by decide) rfl (by omega) fl_11_28 rfl ?_
    refine A_iconst (a := 5) (by decide +kernel) (by unfold in32; omega) ?_
    refine B_iald (v := ((mset M5 77 7 x5) 66 5)) (by decide +kernel) (by decide) rfl ?_
    refine A_aload_n (i := 0) (f := 0) (by omega) rfl (by decide +kernel) rfl ?_
    refine B_getr (o' := ((65 : Nat) : Int)) (q := (RX11, TX11, 59)) (ci := 10) (j := 7) (by decide +kernel) rfl (by decide) rfl (by omega) fl_11_25 rfl ?_
    refine A_iconst (a := 5) (by decide +kernel) (by unfold in32; omega) ?_
    refine B_iald (v := ((mset M5 77 7 x5) 65 5)) (by decide +kernel) (by decide) rfl ?_
    refine A_ic_eq (off := 11) (tgt := 132) (by decide +kernel) (by omega) (fun b7 => ?_) (fun b7 => ?_)
    · have h8 := h6.1 b7
      refine A_iload (i := 4) (by decide +kernel) rfl ?_
      refine A_iconst (a := 1) (by decide +kernel) (by unfold in32; omega) ?_
      refine A_ic_ne (off := 7) (tgt := 142) (by decide +kernel) (by omega) (fun b10 => ?_) (fun b10 => ?_)
      · have h11 := h8.1 b10
        refine A_iconst (a := 0) (by decide +kernel) (by unfold in32; omega) ?_
        exact A_ret ⟨by decide +kernel, Or.inr ⟨rfl, by decide⟩⟩ ⟨_, rfl, h11⟩
      · have h12 := h8.2 (Decidable.not_not.mp b10)
        refine A_iconst (a := 1) (by decide +kernel) (by unfold in32; omega) ?_
        refine A_goto (off := 4) (tgt := 143) (by decide +kernel) (by omega) ?_
        exact A_ret ⟨by decide +kernel, Or.inr ⟨rfl, by decide⟩⟩ ⟨_, rfl, h12⟩
    · have h9 := h6.2 b7
      refine A_aload_n (i := 0) (f := 0) (by omega) rfl (by decide +kernel) rfl ?_
      refine A_iconst (a := 5) (by decide +kernel) (by unfold in32; omega) ?_
      refine A_cVi (q := (RX11, TX11, 59)) (ci := 10) (o := ((59 : Nat) : Int)) (args := [(0, 5)]) (st := []) (by decide +kernel) cv_m11_goes rfl rfl in_m11_goes se_m11_goes lk_11_354 rfl (by omega) (Nat.le_of_ble_eq_true rfl) h9 (fun r13 M14 _ h15 => ?_)
      refine A_if_ne (off := 15) (tgt := 144) (by decide +kernel) (by omega) (fun b16 => ?_) (fun b16 => ?_)
      · have h17 := h15.1 b16
        refine A_aload_n (i := 0) (f := 0) (by omega) rfl (by decide +kernel) rfl ?_
        refine B_getr (o' := ((78 : Nat) : Int)) (q := (RX11, TX11, 59)) (ci := 10) (j := 38) (by decide +kernel) rfl (by decide) rfl (by omega) fl_11_70 rfl ?_
        refine A_iconst (a := 0) (by decide +kernel) (by unfold in32; omega) ?_
        refine B_lald (v := (M14 78 0)) (by decide +kernel) (by decide) rfl ?_
        refine A_lconst (n := 0) (a := 0) (by decide +kernel) (by unfold in64; omega) (by decide +kernel) ?_
        refine A_lcmp (by decide +kernel) ?_
        refine A_if_eq (off := 7) (tgt := 159) (by decide +kernel) (by omega) (fun b19 => ?_) (fun b19 => ?_)
        · have h20 := h17.1 (lcmp_eq.mp b19)
          refine A_iconst (a := 0) (by decide +kernel) (by unfold in32; omega) ?_
          exact A_ret ⟨by decide +kernel, Or.inr ⟨rfl, by decide⟩⟩ ⟨_, rfl, h20⟩
        · have h21 := h17.2 (fun e => b19 (lcmp_eq.mpr e))
          refine A_iconst (a := 1) (by decide +kernel) (by unfold in32; omega) ?_
          refine A_goto (off := 4) (tgt := 160) (by decide +kernel) (by omega) ?_
          exact A_ret ⟨by decide +kernel, Or.inr ⟨rfl, by decide⟩⟩ ⟨_, rfl, h21⟩
      · have h18 := h15.2 (Decidable.not_not.mp b16)
        refine A_iload (i := 4) (by decide +kernel) rfl ?_
        refine A_iconst (a := 1) (by decide +kernel) (by unfold in32; omega) ?_
        refine A_ic_ne (off := 7) (tgt := 142) (by decide +kernel) (by omega) (fun b22 => ?_) (fun b22 => ?_)
        · have h23 := h18.1 b22
          refine A_iconst (a := 0) (by decide +kernel) (by unfold in32; omega) ?_
          exact A_ret ⟨by decide +kernel, Or.inr ⟨rfl, by decide⟩⟩ ⟨_, rfl, h23⟩
        · have h24 := h18.2 (Decidable.not_not.mp b22)
          refine A_iconst (a := 1) (by decide +kernel) (by unfold in32; omega) ?_
          refine A_goto (off := 4) (tgt := 143) (by decide +kernel) (by omega) ?_
          exact A_ret ⟨by decide +kernel, Or.inr ⟨rfl, by decide⟩⟩ ⟨_, rfl, h24⟩
  · have h3 := h.2 (Int.not_le.mp b1)
    refine A_iload (i := 5) (by decide +kernel) rfl ?_
    refine A_aload_n (i := 0) (f := 0) (by omega) rfl (by decide +kernel) rfl ?_
    refine A_iload (i := 6) (by decide +kernel) rfl ?_
    refine A_iload_n (i := 1) (f := 1) rfl (by decide +kernel) rfl ?_
    refine A_iload_n (i := 3) (f := 3) rfl (by decide +kernel) rfl ?_
    refine A_cVi (q := (RX11, TX11, 59)) (ci := 10) (o := ((59 : Nat) : Int)) (args := [(0, x6), (0, x1), (0, x3)]) (st := [(0, x5)]) (by decide +kernel) cv_m11_isOver rfl rfl in_m11_isOver se_m11_isOver lk_11_453 rfl (by omega) (Nat.le_of_ble_eq_true rfl) h3 (fun r25 M26 _ h27 => ?_)
    refine A_if_eq (off := 18) (tgt := 76) (by decide +kernel) (by omega) (fun b28 => ?_) (fun b28 => ?_)
    · have h29 := h27.1 b28
      refine A_iconst (a := 0) (by decide +kernel) (by unfold in32; omega) ?_
      refine A_iadd (by decide +kernel) ?_
      refine A_istore (i := 5) (by decide +kernel) (by decide) (fun w h0 hw => by simp at hw; first | (rw [← hw]; decide) | (rw [← hw]; simp)) ?_
      refine A_iinc (i := 6) (n := 1) (by decide +kernel) (by decide) rfl (fun w h0 hw => by simp at hw; first | (rw [← hw]; decide) | (rw [← hw]; simp)) ?_
      refine A_goto (off := (-46)) (tgt := 37) (by decide +kernel) (by omega) ?_
      exact A_weak (lsub.keep (lsub.keep (lsub.keep (lsub.keep (lsub.keep (lsub.keep (lsub.keep lsub.nil))))))) h29
    · have h30 := h27.2 b28
      refine A_aload_n (i := 0) (f := 0) (by omega) rfl (by decide +kernel) rfl ?_
      refine A_iload (i := 6) (by decide +kernel) rfl ?_
      refine A_iload_n (i := 2) (f := 2) rfl (by decide +kernel) rfl ?_
      refine A_iload_n (i := 3) (f := 3) rfl (by decide +kernel) rfl ?_
      refine A_cVi (q := (RX11, TX11, 59)) (ci := 10) (o := ((59 : Nat) : Int)) (args := [(0, x6), (0, x2), (0, x3)]) (st := [(0, x5)]) (by decide +kernel) cv_m11_isOver rfl rfl in_m11_isOver se_m11_isOver lk_11_453 rfl (by omega) (Nat.le_of_ble_eq_true rfl) h30 (fun r31 M32 _ h33 => ?_)
      refine A_if_ne (off := 7) (tgt := 76) (by decide +kernel) (by omega) (fun b34 => ?_) (fun b34 => ?_)
      · have h35 := h33.1 b34
        refine A_iconst (a := 0) (by decide +kernel) (by unfold in32; omega) ?_
        refine A_iadd (by decide +kernel) ?_
        refine A_istore (i := 5) (by decide +kernel) (by decide) (fun w h0 hw => by simp at hw; first | (rw [← hw]; decide) | (rw [← hw]; simp)) ?_
        refine A_iinc (i := 6) (n := 1) (by decide +kernel) (by decide) rfl (fun w h0 hw => by simp at hw; first | (rw [← hw]; decide) | (rw [← hw]; simp)) ?_
        refine A_goto (off := (-46)) (tgt := 37) (by decide +kernel) (by omega) ?_
        exact A_weak (lsub.keep (lsub.keep (lsub.keep (lsub.keep (lsub.keep (lsub.keep (lsub.keep lsub.nil))))))) h35
      · have h36 := h33.2 (Decidable.not_not.mp b34)
        refine A_iconst (a := 1) (by decide +kernel) (by unfold in32; omega) ?_
        refine A_goto (off := 4) (tgt := 77) (by decide +kernel) (by omega) ?_
        refine A_iadd (by decide +kernel) ?_
        refine A_istore (i := 5) (by decide +kernel) (by decide) (fun w h0 hw => by simp at hw; first | (rw [← hw]; decide) | (rw [← hw]; simp)) ?_
        refine A_iinc (i := 6) (n := 1) (by decide +kernel) (by decide) rfl (fun w h0 hw => by simp at hw; first | (rw [← hw]; decide) | (rw [← hw]; simp)) ?_
        refine A_goto (off := (-46)) (tgt := 37) (by decide +kernel) (by omega) ?_
        exact A_weak (lsub.keep (lsub.keep (lsub.keep (lsub.keep (lsub.keep (lsub.keep (lsub.keep lsub.nil))))))) h36
theorem q_11_rise {x1 : Int} {x2 : Int} {x3 : Int} {M : Mem} {P : Int → Mem → Prop} (h : (CI m11_areTwo 2 [(20, ((59 : Nat) : Int)), (0, x1), (0, x2)] (mset M 59 0 0) (fun r1 M2 => ((r1 = 0 → (P (-1) M2)) ∧ (r1 ≠ 0 → (((-1) ≤ x3 → A m11_rise 5 0 24 [(20, ((59 : Nat) : Int)), (0, x1), (0, x2), (0, x3), (0, 0), (2, 0), (2, 0), (2, 0), (2, 0), (2, 0)] [] M2 (Ki P)) ∧ (x3 < (-1) → (P (-1) M2)))))))) : CI m11_rise 5 [(20, ((59 : Nat) : Int)), (0, x1), (0, x2), (0, x3)] M P := by
  refine CI_of (by decide +kernel) (Nat.le_of_ble_eq_true rfl) ?_
  show A m11_rise 5 0 0 [(20, ((59 : Nat) : Int)), (0, x1), (0, x2), (0, x3), (2, 0), (2, 0), (2, 0), (2, 0), (2, 0), (2, 0)] [] M (Ki P)
  refine A_aload_n (i := 0) (f := 0) (by omega) rfl (by decide +kernel) rfl ?_
  refine A_iconst (a := 0) (by decide +kernel) (by unfold in32; omega) ?_
  refine B_putp (M' := (mset M 59 0 0)) (q := (RX11, TX11, 59)) (ci := 10) (j := 0) (p := 0) (by decide +kernel) rfl (by decide) rfl (Or.inl ⟨rfl, rfl⟩) rfl fl_11_118 rfl ?_
  refine A_aload_n (i := 0) (f := 0) (by omega) rfl (by decide +kernel) rfl ?_
  refine A_iload_n (i := 1) (f := 1) rfl (by decide +kernel) rfl ?_
  refine A_iload_n (i := 2) (f := 2) rfl (by decide +kernel) rfl ?_
  refine A_cVi (q := (RX11, TX11, 59)) (ci := 10) (o := ((59 : Nat) : Int)) (args := [(0, x1), (0, x2)]) (st := []) (by decide +kernel) cv_m11_areTwo rfl rfl in_m11_areTwo se_m11_areTwo lk_11_312 rfl (by omega) (Nat.le_of_ble_eq_true rfl) h (fun r1 M2 _ h3 => ?_)
  refine A_if_eq (off := 8) (tgt := 19) (by decide +kernel) (by omega) (fun b4 => ?_) (fun b4 => ?_)
  · have h5 := h3.1 b4
    refine A_iconst (a := (-1)) (by decide +kernel) (by unfold in32; omega) ?_
    exact A_ret ⟨by decide +kernel, Or.inl rfl⟩ ⟨_, rfl, h5⟩
  · have h6 := h3.2 b4
    refine A_iload_n (i := 3) (f := 3) rfl (by decide +kernel) rfl ?_
    refine A_iconst (a := (-1)) (by decide +kernel) (by unfold in32; omega) ?_
    refine A_ic_ge (off := 5) (tgt := 21) (by decide +kernel) (by omega) (fun b7 => ?_) (fun b7 => ?_)
    · have h8 := h6.1 b7
      refine A_iconst (a := 0) (by decide +kernel) (by unfold in32; omega) ?_
      refine A_istore (i := 4) (by decide +kernel) (by decide) (fun w h0 hw => by simp at hw; first | (rw [← hw]; decide) | (rw [← hw]; simp)) ?_
      exact A_weak (lsub.keep (lsub.keep (lsub.keep (lsub.keep (lsub.keep (lsub.drop (lsub.drop (lsub.drop (lsub.drop (lsub.drop lsub.nil)))))))))) h8
    · have h9 := h6.2 (Int.not_le.mp b7)
      refine A_iconst (a := (-1)) (by decide +kernel) (by unfold in32; omega) ?_
      exact A_ret ⟨by decide +kernel, Or.inl rfl⟩ ⟨_, rfl, h9⟩
theorem r_11_rise_24 {x1 : Int} {x2 : Int} {x3 : Int} {x4 : Int} {M : Mem} {P : Int → Mem → Prop} (h : ((4 ≤ x4 → A m11_rise 5 0 81 [(20, ((59 : Nat) : Int)), (0, x1), (0, x2), (0, x3), (0, 0), (2, 0), (2, 0), (2, 0), (2, 0), (2, 0)] [] M (Ki P)) ∧ (x4 < 4 → (CD m11_layNow 3 [(20, ((59 : Nat) : Int)), (0, x4)] M (fun M5 => A m11_rise 5 0 39 [(20, ((59 : Nat) : Int)), (0, x1), (0, x2), (0, x3), (0, x4), (0, 0), (2, 0), (2, 0), (2, 0), (2, 0)] [] M5 (Ki P)))))) : A m11_rise 5 0 24 [(20, ((59 : Nat) : Int)), (0, x1), (0, x2), (0, x3), (0, x4), (2, 0), (2, 0), (2, 0), (2, 0), (2, 0)] [] M (Ki P) := by
  refine A_iload (i := 4) (by decide +kernel) rfl ?_
  refine A_iconst (a := 4) (by decide +kernel) (by unfold in32; omega) ?_
  refine A_ic_ge (off := 51) (tgt := 78) (by decide +kernel) (by omega) (fun b1 => ?_) (fun b1 => ?_)
  · have h2 := h.1 b1
    refine A_iconst (a := 0) (by decide +kernel) (by unfold in32; omega) ?_
    refine A_istore (i := 4) (by decide +kernel) (by decide) (fun w h0 hw => by simp at hw; first | (rw [← hw]; decide) | (rw [← hw]; simp)) ?_
    exact A_weak (lsub.keep (lsub.keep (lsub.keep (lsub.keep (lsub.keep (lsub.drop (lsub.drop (lsub.drop (lsub.drop (lsub.drop lsub.nil)))))))))) h2
  · have h3 := h.2 (Int.not_le.mp b1)
    refine A_aload_n (i := 0) (f := 0) (by omega) rfl (by decide +kernel) rfl ?_
    refine A_iload (i := 4) (by decide +kernel) rfl ?_
    refine A_cVd (q := (RX11, TX11, 59)) (ci := 10) (o := ((59 : Nat) : Int)) (args := [(0, x4)]) (st := []) (by decide +kernel) cv_m11_layNow rfl rfl in_m11_layNow se_m11_layNow lk_11_309 rfl (by omega) (Nat.le_of_ble_eq_true rfl) h3 (fun M5 h6 => ?_)
    refine A_iconst (a := 0) (by decide +kernel) (by unfold in32; omega) ?_
    refine A_istore (i := 5) (by decide +kernel) (by decide) (fun w h0 hw => by simp at hw; first | (rw [← hw]; decide) | (rw [← hw]; simp)) ?_
    exact A_weak (lsub.keep (lsub.keep (lsub.keep (lsub.keep (lsub.keep (lsub.keep (lsub.drop (lsub.drop (lsub.drop (lsub.drop lsub.nil)))))))))) h6
theorem r_11_rise_39 {x1 : Int} {x2 : Int} {x3 : Int} {x4 : Int} {x5 : Int} {M : Mem} {P : Int → Mem → Prop} (h : ((25 ≤ x5 → A m11_rise 5 0 24 [(20, ((59 : Nat) : Int)), (0, x1), (0, x2), (0, x3), (0, (w32 (x4 + 1))), (2, 0), (2, 0), (2, 0), (2, 0), (2, 0)] [] M (Ki P)) ∧ (x5 < 25 → ((0 ≤ x5 ∧ x5 < 25) ∧ ((0 ≤ (w32 ((w32 (25 * x4)) + x5)) ∧ (w32 ((w32 (25 * x4)) + x5)) < 100) ∧ ((((M 74 (x5).toNat) = 0 ∨ (M 74 (x5).toNat) = 1)) ∧ A m11_rise 5 0 39 [(20, ((59 : Nat) : Int)), (0, x1), (0, x2), (0, x3), (0, x4), (0, (w32 (x5 + 1))), (2, 0), (2, 0), (2, 0), (2, 0)] [] (mset M 88 ((w32 ((w32 (25 * x4)) + x5))).toNat (M 74 (x5).toNat)) (Ki P))))))) : A m11_rise 5 0 39 [(20, ((59 : Nat) : Int)), (0, x1), (0, x2), (0, x3), (0, x4), (0, x5), (2, 0), (2, 0), (2, 0), (2, 0)] [] M (Ki P) := by
  refine A_iload (i := 5) (by decide +kernel) rfl ?_
  refine A_bipush (a := 25) (by decide +kernel) (by unfold in32; omega) (by decide +kernel) ?_
  refine A_ic_ge (off := 29) (tgt := 72) (by decide +kernel) (by omega) (fun b1 => ?_) (fun b1 => ?_)
  · have h2 := h.1 b1
    refine A_iinc (i := 4) (n := 1) (by decide +kernel) (by decide) rfl (fun w h0 hw => by simp at hw; first | (rw [← hw]; decide) | (rw [← hw]; simp)) ?_
    refine A_goto (off := (-51)) (tgt := 24) (by decide +kernel) (by omega) ?_
    exact A_weak (lsub.keep (lsub.keep (lsub.keep (lsub.keep (lsub.keep (lsub.drop (lsub.drop (lsub.drop (lsub.drop (lsub.drop lsub.nil)))))))))) h2
  · have h3 := h.2 (Int.not_le.mp b1)
    refine A_aload_n (i := 0) (f := 0) (by omega) rfl (by decide +kernel) rfl ?_
    refine B_getr (o' := ((88 : Nat) : Int)) (q := (RX11, TX11, 59)) (ci := 10) (j := 54) (by decide +kernel) rfl (by decide) rfl (by omega) fl_11_103 rfl ?_
    refine A_bipush (a := 25) (by decide +kernel) (by unfold in32; omega) (by decide +kernel) ?_
    refine A_iload (i := 4) (by decide +kernel) rfl ?_
    refine A_imul (by decide +kernel) ?_
    refine A_iload (i := 5) (by decide +kernel) rfl ?_
    refine A_iadd (by decide +kernel) ?_
    refine A_aload_n (i := 0) (f := 0) (by omega) rfl (by decide +kernel) rfl ?_
    refine B_getr (o' := ((74 : Nat) : Int)) (q := (RX11, TX11, 59)) (ci := 10) (j := 29) (by decide +kernel) rfl (by decide) rfl (by omega) fl_11_57 rfl ?_
    refine A_iload (i := 5) (by decide +kernel) rfl ?_
    refine B_zald (v := (M 74 (x5).toNat)) (by decide +kernel) h3.1 rfl ?_
    have h4 := h3.2
    refine B_zast (M' := (mset M 88 ((w32 ((w32 (25 * x4)) + x5))).toNat (M 74 (x5).toNat))) (by decide +kernel) h4.1 h4.2.1 rfl ?_
    have h5 := h4.2.2
    refine A_iinc (i := 5) (n := 1) (by decide +kernel) (by decide) rfl (fun w h0 hw => by simp at hw; first | (rw [← hw]; decide) | (rw [← hw]; simp)) ?_
    refine A_goto (off := (-30)) (tgt := 39) (by decide +kernel) (by omega) ?_
    exact A_weak (lsub.keep (lsub.keep (lsub.keep (lsub.keep (lsub.keep (lsub.keep (lsub.drop (lsub.drop (lsub.drop (lsub.drop lsub.nil)))))))))) h5
theorem r_11_rise_81 {x1 : Int} {x2 : Int} {x3 : Int} {x4 : Int} {M : Mem} {P : Int → Mem → Prop} (h : ((12500 ≤ x4 → A m11_rise 5 0 107 [(20, ((59 : Nat) : Int)), (0, x1), (0, x2), (0, x3), (0, 0), (2, 0), (2, 0), (2, 0), (2, 0), (2, 0)] [] M (Ki P)) ∧ (x4 < 12500 → ((0 ≤ x4 ∧ x4 < 12500) ∧ A m11_rise 5 0 81 [(20, ((59 : Nat) : Int)), (0, x1), (0, x2), (0, x3), (0, (w32 (x4 + 1))), (2, 0), (2, 0), (2, 0), (2, 0), (2, 0)] [] (mset M 90 (x4).toNat (-2)) (Ki P))))) : A m11_rise 5 0 81 [(20, ((59 : Nat) : Int)), (0, x1), (0, x2), (0, x3), (0, x4), (2, 0), (2, 0), (2, 0), (2, 0), (2, 0)] [] M (Ki P) := by
  refine A_iload (i := 4) (by decide +kernel) rfl ?_
  refine A_sipush (a := 12500) (by decide +kernel) (by unfold in32; omega) (by decide +kernel) ?_
  refine A_ic_ge (off := 18) (tgt := 104) (by decide +kernel) (by omega) (fun b1 => ?_) (fun b1 => ?_)
  · have h2 := h.1 b1
    refine A_iconst (a := 0) (by decide +kernel) (by unfold in32; omega) ?_
    refine A_istore (i := 4) (by decide +kernel) (by decide) (fun w h0 hw => by simp at hw; first | (rw [← hw]; decide) | (rw [← hw]; simp)) ?_
    exact A_weak (lsub.keep (lsub.keep (lsub.keep (lsub.keep (lsub.keep (lsub.drop (lsub.drop (lsub.drop (lsub.drop (lsub.drop lsub.nil)))))))))) h2
  · have h3 := h.2 (Int.not_le.mp b1)
    refine A_aload_n (i := 0) (f := 0) (by omega) rfl (by decide +kernel) rfl ?_
    refine B_getr (o' := ((90 : Nat) : Int)) (q := (RX11, TX11, 59)) (ci := 10) (j := 56) (by decide +kernel) rfl (by decide) rfl (by omega) fl_11_109 rfl ?_
    refine A_iload (i := 4) (by decide +kernel) rfl ?_
    refine A_bipush (a := (-2)) (by decide +kernel) (by unfold in32; omega) (by decide +kernel) ?_
    refine B_iast (M' := (mset M 90 (x4).toNat (-2))) (by decide +kernel) h3.1 rfl ?_
    have h4 := h3.2
    refine A_iinc (i := 4) (n := 1) (by decide +kernel) (by decide) rfl (fun w h0 hw => by simp at hw; first | (rw [← hw]; decide) | (rw [← hw]; simp)) ?_
    refine A_goto (off := (-20)) (tgt := 81) (by decide +kernel) (by omega) ?_
    exact A_weak (lsub.keep (lsub.keep (lsub.keep (lsub.keep (lsub.keep (lsub.drop (lsub.drop (lsub.drop (lsub.drop (lsub.drop lsub.nil)))))))))) h4
theorem r_11_rise_107 {x1 : Int} {x2 : Int} {x3 : Int} {x4 : Int} {M : Mem} {P : Int → Mem → Prop} (h : ((5 ≤ x4 → (CI m11_state 1 [(20, ((59 : Nat) : Int)), (0, (M 59 32))] M (fun r4 M5 => ((0 ≤ ((mset M5 91 0 r4) 91 0) ∧ ((mset M5 91 0 r4) 91 0) < 12500) ∧ A m11_rise 5 0 160 [(20, ((59 : Nat) : Int)), (0, x1), (0, x2), (0, x3), (0, 1), (0, 0), (2, 0), (2, 0), (2, 0), (2, 0)] [] (mset (mset M5 91 0 r4) 90 (((mset M5 91 0 r4) 91 0)).toNat (-1)) (Ki P))))) ∧ (x4 < 5 → ((0 ≤ x4 ∧ x4 < 5) ∧ A m11_rise 5 0 107 [(20, ((59 : Nat) : Int)), (0, x1), (0, x2), (0, x3), (0, (w32 (x4 + 1))), (2, 0), (2, 0), (2, 0), (2, 0), (2, 0)] [] (mset M 92 (x4).toNat x4) (Ki P))))) : A m11_rise 5 0 107 [(20, ((59 : Nat) : Int)), (0, x1), (0, x2), (0, x3), (0, x4), (2, 0), (2, 0), (2, 0), (2, 0), (2, 0)] [] M (Ki P) := by
  refine A_iload (i := 4) (by decide +kernel) rfl ?_
  refine A_iconst (a := 5) (by decide +kernel) (by unfold in32; omega) ?_
  refine A_ic_ge (off := 18) (tgt := 128) (by decide +kernel) (by omega) (fun b1 => ?_) (fun b1 => ?_)
  · have h2 := h.1 b1
    refine A_iconst (a := 1) (by decide +kernel) (by unfold in32; omega) ?_
    refine A_istore (i := 4) (by decide +kernel) (by decide) (fun w h0 hw => by simp at hw; first | (rw [← hw]; decide) | (rw [← hw]; simp)) ?_
    refine A_aload_n (i := 0) (f := 0) (by omega) rfl (by decide +kernel) rfl ?_
    refine B_getr (o' := ((91 : Nat) : Int)) (q := (RX11, TX11, 59)) (ci := 10) (j := 57) (by decide +kernel) rfl (by decide) rfl (by omega) fl_11_112 rfl ?_
    refine A_iconst (a := 0) (by decide +kernel) (by unfold in32; omega) ?_
    refine A_aload_n (i := 0) (f := 0) (by omega) rfl (by decide +kernel) rfl ?_
    refine A_aload_n (i := 0) (f := 0) (by omega) rfl (by decide +kernel) rfl ?_
    refine B_getp (v := (M 59 32)) (q := (RX11, TX11, 59)) (ci := 10) (j := 32) (p := 32) (by decide +kernel) rfl (by decide) rfl (Or.inl rfl) fl_11_296 rfl ?_
    refine A_cVi (q := (RX11, TX11, 59)) (ci := 10) (o := ((59 : Nat) : Int)) (args := [(0, (M 59 32))]) (st := [(0, 0), (30, ((91 : Nat) : Int))]) (by decide +kernel) cv_m11_state rfl rfl in_m11_state se_m11_state lk_11_456 rfl (by omega) (Nat.le_of_ble_eq_true rfl) h2 (fun r4 M5 _ h6 => ?_)
    refine B_iast (M' := (mset M5 91 0 r4)) (by decide +kernel) (by decide) rfl ?_
    refine A_aload_n (i := 0) (f := 0) (by omega) rfl (by decide +kernel) rfl ?_
    refine B_getr (o' := ((90 : Nat) : Int)) (q := (RX11, TX11, 59)) (ci := 10) (j := 56) (by decide +kernel) rfl (by decide) rfl (by omega) fl_11_109 rfl ?_
    refine A_aload_n (i := 0) (f := 0) (by omega) rfl (by decide +kernel) rfl ?_
    refine B_getr (o' := ((91 : Nat) : Int)) (q := (RX11, TX11, 59)) (ci := 10) (j := 57) (by decide +kernel) rfl (by decide) rfl (by omega) fl_11_112 rfl ?_
    refine A_iconst (a := 0) (by decide +kernel) (by unfold in32; omega) ?_
    refine B_iald (v := ((mset M5 91 0 r4) 91 0)) (by decide +kernel) (by decide) rfl ?_
    refine A_iconst (a := (-1)) (by decide +kernel) (by unfold in32; omega) ?_
    refine B_iast (M' := (mset (mset M5 91 0 r4) 90 (((mset M5 91 0 r4) 91 0)).toNat (-1))) (by decide +kernel) h6.1 rfl ?_
    have h7 := h6.2
    refine A_iconst (a := 0) (by decide +kernel) (by unfold in32; omega) ?_
    refine A_istore (i := 5) (by decide +kernel) (by decide) (fun w h0 hw => by simp at hw; first | (rw [← hw]; decide) | (rw [← hw]; simp)) ?_
    exact A_weak (lsub.keep (lsub.keep (lsub.keep (lsub.keep (lsub.keep (lsub.keep (lsub.drop (lsub.drop (lsub.drop (lsub.drop lsub.nil)))))))))) h7
  · have h3 := h.2 (Int.not_le.mp b1)
    refine A_aload_n (i := 0) (f := 0) (by omega) rfl (by decide +kernel) rfl ?_
    refine B_getr (o' := ((92 : Nat) : Int)) (q := (RX11, TX11, 59)) (ci := 10) (j := 58) (by decide +kernel) rfl (by decide) rfl (by omega) fl_11_115 rfl ?_
    refine A_iload (i := 4) (by decide +kernel) rfl ?_
    refine A_iload (i := 4) (by decide +kernel) rfl ?_
    refine B_iast (M' := (mset M 92 (x4).toNat x4)) (by decide +kernel) h3.1 rfl ?_
    have h8 := h3.2
    refine A_iinc (i := 4) (n := 1) (by decide +kernel) (by decide) rfl (fun w h0 hw => by simp at hw; first | (rw [← hw]; decide) | (rw [← hw]; simp)) ?_
    refine A_goto (off := (-18)) (tgt := 107) (by decide +kernel) (by omega) ?_
    exact A_weak (lsub.keep (lsub.keep (lsub.keep (lsub.keep (lsub.keep (lsub.drop (lsub.drop (lsub.drop (lsub.drop (lsub.drop lsub.nil)))))))))) h8
theorem r_11_rise_160 {x1 : Int} {x2 : Int} {x3 : Int} {x4 : Int} {x5 : Int} {M : Mem} {P : Int → Mem → Prop} (h : ((x4 ≤ x5 → (P (-2) M)) ∧ (x5 < x4 → ((0 ≤ x5 ∧ x5 < 480) ∧ (CD m11_takes 1 [(20, ((59 : Nat) : Int)), (0, (M 91 (x5).toNat))] M (fun M6 => (CI m11_isOver 2 [(20, ((59 : Nat) : Int)), (0, x1), (0, x2), (0, (w32 (Int.tmod (M 91 (x5).toNat) 4)))] M6 (fun r8 M9 => ((r8 = 0 → A m11_rise 5 0 210 [(20, ((59 : Nat) : Int)), (0, x1), (0, x2), (0, x3), (0, x4), (0, x5), (0, (M 91 (x5).toNat)), (0, (w32 (Int.tmod (M 91 (x5).toNat) 4))), (0, 0), (2, 0)] [] M9 (Ki P)) ∧ (r8 ≠ 0 → (CI m11_path 1 [(20, ((59 : Nat) : Int)), (0, (M 91 (x5).toNat)), (0, x3)] M9 (fun r14 M15 => (P r14 M15))))))))))))) : A m11_rise 5 0 160 [(20, ((59 : Nat) : Int)), (0, x1), (0, x2), (0, x3), (0, x4), (0, x5), (2, 0), (2, 0), (2, 0), (2, 0)] [] M (Ki P) := by
  refine A_iload (i := 5) (by decide +kernel) rfl ?_
  refine A_iload (i := 4) (by decide +kernel) rfl ?_
  refine A_ic_ge (off := 161) (tgt := 325) (by decide +kernel) (by omega) (fun b1 => ?_) (fun b1 => ?_)
  · have h2 := h.1 b1
    refine A_bipush (a := (-2)) (by decide +kernel) (by unfold in32; omega) (by decide +kernel) ?_
    exact A_ret ⟨by decide +kernel, Or.inl rfl⟩ ⟨_, rfl, h2⟩
  · have h3 := h.2 (Int.not_le.mp b1)
    refine A_aload_n (i := 0) (f := 0) (by omega) rfl (by decide +kernel) rfl ?_
    refine B_getr (o' := ((91 : Nat) : Int)) (q := (RX11, TX11, 59)) (ci := 10) (j := 57) (by decide +kernel) rfl (by decide) rfl (by omega) fl_11_112 rfl ?_
    refine A_iload (i := 5) (by decide +kernel) rfl ?_
    refine B_iald (v := (M 91 (x5).toNat)) (by decide +kernel) h3.1 rfl ?_
    have h4 := h3.2
    refine A_istore (i := 6) (by decide +kernel) (by decide) (fun w h0 hw => by simp at hw; first | (rw [← hw]; decide) | (rw [← hw]; simp)) ?_
    refine A_iload (i := 6) (by decide +kernel) rfl ?_
    refine A_iconst (a := 4) (by decide +kernel) (by unfold in32; omega) ?_
    refine A_irem (by decide +kernel) (by omega) ?_
    refine A_istore (i := 7) (by decide +kernel) (by decide) (fun w h0 hw => by simp at hw; first | (rw [← hw]; decide) | (rw [← hw]; simp)) ?_
    refine A_aload_n (i := 0) (f := 0) (by omega) rfl (by decide +kernel) rfl ?_
    refine A_iload (i := 6) (by decide +kernel) rfl ?_
    refine A_cVd (q := (RX11, TX11, 59)) (ci := 10) (o := ((59 : Nat) : Int)) (args := [(0, (M 91 (x5).toNat))]) (st := []) (by decide +kernel) cv_m11_takes rfl rfl in_m11_takes se_m11_takes lk_11_459 rfl (by omega) (Nat.le_of_ble_eq_true rfl) h4 (fun M6 h7 => ?_)
    refine A_aload_n (i := 0) (f := 0) (by omega) rfl (by decide +kernel) rfl ?_
    refine A_iload_n (i := 1) (f := 1) rfl (by decide +kernel) rfl ?_
    refine A_iload_n (i := 2) (f := 2) rfl (by decide +kernel) rfl ?_
    refine A_iload (i := 7) (by decide +kernel) rfl ?_
    refine A_cVi (q := (RX11, TX11, 59)) (ci := 10) (o := ((59 : Nat) : Int)) (args := [(0, x1), (0, x2), (0, (w32 (Int.tmod (M 91 (x5).toNat) 4)))]) (st := []) (by decide +kernel) cv_m11_isOver rfl rfl in_m11_isOver se_m11_isOver lk_11_453 rfl (by omega) (Nat.le_of_ble_eq_true rfl) h7 (fun r8 M9 _ h10 => ?_)
    refine A_if_eq (off := 11) (tgt := 207) (by decide +kernel) (by omega) (fun b11 => ?_) (fun b11 => ?_)
    · have h12 := h10.1 b11
      refine A_iconst (a := 0) (by decide +kernel) (by unfold in32; omega) ?_
      refine A_istore (i := 8) (by decide +kernel) (by decide) (fun w h0 hw => by simp at hw; first | (rw [← hw]; decide) | (rw [← hw]; simp)) ?_
      exact A_weak (lsub.keep (lsub.keep (lsub.keep (lsub.keep (lsub.keep (lsub.keep (lsub.keep (lsub.keep (lsub.keep (lsub.drop lsub.nil)))))))))) h12
    · have h13 := h10.2 b11
      refine A_aload_n (i := 0) (f := 0) (by omega) rfl (by decide +kernel) rfl ?_
      refine A_iload (i := 6) (by decide +kernel) rfl ?_
      refine A_iload_n (i := 3) (f := 3) rfl (by decide +kernel) rfl ?_
      refine A_cVi (q := (RX11, TX11, 59)) (ci := 10) (o := ((59 : Nat) : Int)) (args := [(0, (M 91 (x5).toNat)), (0, x3)]) (st := []) (by decide +kernel) cv_m11_path rfl rfl in_m11_path se_m11_path lk_11_462 rfl (by omega) (Nat.le_of_ble_eq_true rfl) h13 (fun r14 M15 _ h16 => ?_)
      exact A_ret ⟨by decide +kernel, Or.inl rfl⟩ ⟨_, rfl, h16⟩
theorem r_11_rise_210 {x1 : Int} {x2 : Int} {x3 : Int} {x4 : Int} {x5 : Int} {x6 : Int} {x7 : Int} {x8 : Int} {M : Mem} {P : Int → Mem → Prop} (h : (((M 61 0) ≤ x8 → A m11_rise 5 0 160 [(20, ((59 : Nat) : Int)), (0, x1), (0, x2), (0, x3), (0, x4), (0, (w32 (x5 + 1))), (2, 0), (2, 0), (2, 0), (2, 0)] [] M (Ki P)) ∧ (x8 < (M 61 0) → ((x8 = x1 → A m11_rise 5 0 210 [(20, ((59 : Nat) : Int)), (0, x1), (0, x2), (0, x3), (0, x4), (0, x5), (0, x6), (0, x7), (0, (w32 (x8 + 1))), (2, 0)] [] M (Ki P)) ∧ (x8 ≠ x1 → (CI m11_mayRise 4 [(20, ((59 : Nat) : Int)), (0, x1), (0, x8), (0, x7)] M (fun r7 M8 => ((r7 ≠ 0 → (CD m11_changes 1 [(20, ((59 : Nat) : Int)), (0, x1), (0, x8)] M8 (fun M14 => (CI m11_state 1 [(20, ((59 : Nat) : Int)), (0, (w32 (Int.tmod (w32 (x7 + 1)) 4)))] M14 (fun r16 M17 => (CD m11_changes 1 [(20, ((59 : Nat) : Int)), (0, x1), (0, x8)] M17 (fun M20 => ((0 ≤ r16 ∧ r16 < 12500) ∧ (((M20 90 (r16).toNat) = (-2) → ((0 ≤ r16 ∧ r16 < 12500) ∧ ((0 ≤ r16 ∧ r16 < 12500) ∧ ((0 ≤ x4 ∧ x4 < 480) ∧ A m11_rise 5 0 210 [(20, ((59 : Nat) : Int)), (0, x1), (0, x2), (0, x3), (0, (w32 (x4 + 1))), (0, x5), (0, x6), (0, x7), (0, (w32 (x8 + 1))), (2, 0)] [] (mset (mset (mset M20 90 (r16).toNat x8) 89 (r16).toNat x6) 91 (x4).toNat r16) (Ki P))))) ∧ ((M20 90 (r16).toNat) ≠ (-2) → A m11_rise 5 0 210 [(20, ((59 : Nat) : Int)), (0, x1), (0, x2), (0, x3), (0, x4), (0, x5), (0, x6), (0, x7), (0, (w32 (x8 + 1))), (2, 0)] [] M20 (Ki P))))))))))) ∧ (r7 = 0 → A m11_rise 5 0 210 [(20, ((59 : Nat) : Int)), (0, x1), (0, x2), (0, x3), (0, x4), (0, x5), (0, x6), (0, x7), (0, (w32 (x8 + 1))), (2, 0)] [] M8 (Ki P)))))))))) : A m11_rise 5 0 210 [(20, ((59 : Nat) : Int)), (0, x1), (0, x2), (0, x3), (0, x4), (0, x5), (0, x6), (0, x7), (0, x8), (2, 0)] [] M (Ki P) := by
  refine A_iload (i := 8) (by decide +kernel) rfl ?_
  refine A_aload_n (i := 0) (f := 0) (by omega) rfl (by decide +kernel) rfl ?_
  refine B_getr (o' := ((61 : Nat) : Int)) (q := (RX11, TX11, 59)) (ci := 10) (j := 3) (by decide +kernel) rfl (by decide) rfl (by omega) fl_11_13 rfl ?_
  refine A_iconst (a := 0) (by decide +kernel) (by unfold in32; omega) ?_
  refine B_iald (v := (M 61 0)) (by decide +kernel) (by decide) rfl ?_
  refine A_ic_ge (off := 101) (tgt := 319) (by decide +kernel) (by omega) (fun b1 => ?_) (fun b1 => ?_)
  · have h2 := h.1 b1
    refine A_iinc (i := 5) (n := 1) (by decide +kernel) (by decide) rfl (fun w h0 hw => by simp at hw; first | (rw [← hw]; decide) | (rw [← hw]; simp)) ?_
    refine A_goto (off := (-162)) (tgt := 160) (by decide +kernel) (by omega) ?_
    exact A_weak (lsub.keep (lsub.keep (lsub.keep (lsub.keep (lsub.keep (lsub.keep (lsub.drop (lsub.drop (lsub.drop (lsub.drop lsub.nil)))))))))) h2
  · have h3 := h.2 (Int.not_le.mp b1)
    refine A_iload (i := 8) (by decide +kernel) rfl ?_
    refine A_iload_n (i := 1) (f := 1) rfl (by decide +kernel) rfl ?_
    refine A_ic_eq (off := 89) (tgt := 313) (by decide +kernel) (by omega) (fun b4 => ?_) (fun b4 => ?_)
    · have h5 := h3.1 b4
      refine A_iinc (i := 8) (n := 1) (by decide +kernel) (by decide) rfl (fun w h0 hw => by simp at hw; first | (rw [← hw]; decide) | (rw [← hw]; simp)) ?_
      refine A_goto (off := (-106)) (tgt := 210) (by decide +kernel) (by omega) ?_
      exact A_weak (lsub.keep (lsub.keep (lsub.keep (lsub.keep (lsub.keep (lsub.keep (lsub.keep (lsub.keep (lsub.keep (lsub.drop lsub.nil)))))))))) h5
    · have h6 := h3.2 b4
      refine A_aload_n (i := 0) (f := 0) (by omega) rfl (by decide +kernel) rfl ?_
      refine A_iload_n (i := 1) (f := 1) rfl (by decide +kernel) rfl ?_
      refine A_iload (i := 8) (by decide +kernel) rfl ?_
      refine A_iload (i := 7) (by decide +kernel) rfl ?_
      refine A_cVi (q := (RX11, TX11, 59)) (ci := 10) (o := ((59 : Nat) : Int)) (args := [(0, x1), (0, x8), (0, x7)]) (st := []) (by decide +kernel) cv_m11_mayRise rfl rfl in_m11_mayRise se_m11_mayRise lk_11_465 rfl (by omega) (Nat.le_of_ble_eq_true rfl) h6 (fun r7 M8 _ h9 => ?_)
      refine A_if_ne (off := 6) (tgt := 242) (by decide +kernel) (by omega) (fun b10 => ?_) (fun b10 => ?_)
      · have h11 := h9.1 b10
        refine A_aload_n (i := 0) (f := 0) (by omega) rfl (by decide +kernel) rfl ?_
        refine A_iload_n (i := 1) (f := 1) rfl (by decide +kernel) rfl ?_
        refine A_iload (i := 8) (by decide +kernel) rfl ?_
        refine A_cVd (q := (RX11, TX11, 59)) (ci := 10) (o := ((59 : Nat) : Int)) (args := [(0, x1), (0, x8)]) (st := []) (by decide +kernel) cv_m11_changes rfl rfl in_m11_changes se_m11_changes lk_11_468 rfl (by omega) (Nat.le_of_ble_eq_true rfl) h11 (fun M14 h15 => ?_)
        refine A_aload_n (i := 0) (f := 0) (by omega) rfl (by decide +kernel) rfl ?_
        refine A_iload (i := 7) (by decide +kernel) rfl ?_
        refine A_iconst (a := 1) (by decide +kernel) (by unfold in32; omega) ?_
        refine A_iadd (by decide +kernel) ?_
        refine A_iconst (a := 4) (by decide +kernel) (by unfold in32; omega) ?_
        refine A_irem (by decide +kernel) (by omega) ?_
        refine A_cVi (q := (RX11, TX11, 59)) (ci := 10) (o := ((59 : Nat) : Int)) (args := [(0, (w32 (Int.tmod (w32 (x7 + 1)) 4)))]) (st := []) (by decide +kernel) cv_m11_state rfl rfl in_m11_state se_m11_state lk_11_456 rfl (by omega) (Nat.le_of_ble_eq_true rfl) h15 (fun r16 M17 _ h18 => ?_)
        refine A_istore (i := 9) (by decide +kernel) (by decide) (fun w h0 hw => by simp at hw; first | (rw [← hw]; decide) | (rw [← hw]; simp)) ?_
        refine A_aload_n (i := 0) (f := 0) (by omega) rfl (by decide +kernel) rfl ?_
        refine A_iload_n (i := 1) (f := 1) rfl (by decide +kernel) rfl ?_
        refine A_iload (i := 8) (by decide +kernel) rfl ?_
        refine A_cVd (q := (RX11, TX11, 59)) (ci := 10) (o := ((59 : Nat) : Int)) (args := [(0, x1), (0, x8)]) (st := []) (by decide +kernel) cv_m11_changes rfl rfl in_m11_changes se_m11_changes lk_11_468 rfl (by omega) (Nat.le_of_ble_eq_true rfl) h18 (fun M20 h21 => ?_)
        refine A_aload_n (i := 0) (f := 0) (by omega) rfl (by decide +kernel) rfl ?_
        refine B_getr (o' := ((90 : Nat) : Int)) (q := (RX11, TX11, 59)) (ci := 10) (j := 56) (by decide +kernel) rfl (by decide) rfl (by omega) fl_11_109 rfl ?_
        refine A_iload (i := 9) (by decide +kernel) rfl ?_
        refine B_iald (v := (M20 90 (r16).toNat)) (by decide +kernel) h21.1 rfl ?_
        have h22 := h21.2
        refine A_bipush (a := (-2)) (by decide +kernel) (by unfold in32; omega) (by decide +kernel) ?_
        refine A_ic_eq (off := 6) (tgt := 283) (by decide +kernel) (by omega) (fun b23 => ?_) (fun b23 => ?_)
        · have h24 := h22.1 b23
          refine A_aload_n (i := 0) (f := 0) (by omega) rfl (by decide +kernel) rfl ?_
          refine B_getr (o' := ((90 : Nat) : Int)) (q := (RX11, TX11, 59)) (ci := 10) (j := 56) (by decide +kernel) rfl (by decide) rfl (by omega) fl_11_109 rfl ?_
          refine A_iload (i := 9) (by decide +kernel) rfl ?_
          refine A_iload (i := 8) (by decide +kernel) rfl ?_
          refine B_iast (M' := (mset M20 90 (r16).toNat x8)) (by decide +kernel) h24.1 rfl ?_
          have h26 := h24.2
          refine A_aload_n (i := 0) (f := 0) (by omega) rfl (by decide +kernel) rfl ?_
          refine B_getr (o' := ((89 : Nat) : Int)) (q := (RX11, TX11, 59)) (ci := 10) (j := 55) (by decide +kernel) rfl (by decide) rfl (by omega) fl_11_106 rfl ?_
          refine A_iload (i := 9) (by decide +kernel) rfl ?_
          refine A_iload (i := 6) (by decide +kernel) rfl ?_
          refine B_iast (M' := (mset (mset M20 90 (r16).toNat x8) 89 (r16).toNat x6)) (by decide +kernel) h26.1 rfl ?_
          have h27 := h26.2
          refine A_aload_n (i := 0) (f := 0) (by omega) rfl (by decide +kernel) rfl ?_
          refine B_getr (o' := ((91 : Nat) : Int)) (q := (RX11, TX11, 59)) (ci := 10) (j := 57) (by decide +kernel) rfl (by decide) rfl (by omega) fl_11_112 rfl ?_
          refine A_iload (i := 4) (by decide +kernel) rfl ?_
          refine A_iload (i := 9) (by decide +kernel) rfl ?_
          refine B_iast (M' := (mset (mset (mset M20 90 (r16).toNat x8) 89 (r16).toNat x6) 91 (x4).toNat r16)) (by decide +kernel) h27.1 rfl ?_
          have h28 := h27.2
          refine A_iinc (i := 4) (n := 1) (by decide +kernel) (by decide) rfl (fun w h0 hw => by simp at hw; first | (rw [← hw]; decide) | (rw [← hw]; simp)) ?_
          refine A_iinc (i := 8) (n := 1) (by decide +kernel) (by decide) rfl (fun w h0 hw => by simp at hw; first | (rw [← hw]; decide) | (rw [← hw]; simp)) ?_
          refine A_goto (off := (-106)) (tgt := 210) (by decide +kernel) (by omega) ?_
          exact A_weak (lsub.keep (lsub.keep (lsub.keep (lsub.keep (lsub.keep (lsub.keep (lsub.keep (lsub.keep (lsub.keep (lsub.drop lsub.nil)))))))))) h28
        · have h25 := h22.2 b23
          refine A_goto (off := 33) (tgt := 313) (by decide +kernel) (by omega) ?_
          refine A_iinc (i := 8) (n := 1) (by decide +kernel) (by decide) rfl (fun w h0 hw => by simp at hw; first | (rw [← hw]; decide) | (rw [← hw]; simp)) ?_
          refine A_goto (off := (-106)) (tgt := 210) (by decide +kernel) (by omega) ?_
          exact A_weak (lsub.keep (lsub.keep (lsub.keep (lsub.keep (lsub.keep (lsub.keep (lsub.keep (lsub.keep (lsub.keep (lsub.drop lsub.nil)))))))))) h25
      · have h12 := h9.2 (Decidable.not_not.mp b10)
        refine A_goto (off := 74) (tgt := 313) (by decide +kernel) (by omega) ?_
        refine A_iinc (i := 8) (n := 1) (by decide +kernel) (by decide) rfl (fun w h0 hw => by simp at hw; first | (rw [← hw]; decide) | (rw [← hw]; simp)) ?_
        refine A_goto (off := (-106)) (tgt := 210) (by decide +kernel) (by omega) ?_
        exact A_weak (lsub.keep (lsub.keep (lsub.keep (lsub.keep (lsub.keep (lsub.keep (lsub.keep (lsub.keep (lsub.keep (lsub.drop lsub.nil)))))))))) h12
theorem q_11_changes {x1 : Int} {x2 : Int} {M : Mem} {P : Mem → Prop} (h : ((0 ≤ x1 ∧ x1 < 5) ∧ ((0 ≤ x2 ∧ x2 < 5) ∧ ((0 ≤ x1 ∧ x1 < 5) ∧ ((0 ≤ x2 ∧ x2 < 5) ∧ (P (mset (mset M 92 (x1).toNat (M 92 (x2).toNat)) 92 (x2).toNat (M 92 (x1).toNat)))))))) : CD m11_changes 1 [(20, ((59 : Nat) : Int)), (0, x1), (0, x2)] M P := by
  refine CD_of (by decide +kernel) (Nat.le_of_ble_eq_true rfl) ?_
  show A m11_changes 1 0 0 [(20, ((59 : Nat) : Int)), (0, x1), (0, x2), (2, 0)] [] M (Kd P)
  refine A_aload_n (i := 0) (f := 0) (by omega) rfl (by decide +kernel) rfl ?_
  refine B_getr (o' := ((92 : Nat) : Int)) (q := (RX11, TX11, 59)) (ci := 10) (j := 58) (by decide +kernel) rfl (by decide) rfl (by omega) fl_11_115 rfl ?_
  refine A_iload_n (i := 1) (f := 1) rfl (by decide +kernel) rfl ?_
  refine B_iald (v := (M 92 (x1).toNat)) (by decide +kernel) h.1 rfl ?_
  have h1 := h.2
  refine A_istore_n (i := 3) (f := 3) rfl (by decide +kernel) (by decide) (fun w h0 hw => by simp at hw; first | (rw [← hw]; decide) | (rw [← hw]; simp)) ?_
  refine A_aload_n (i := 0) (f := 0) (by omega) rfl (by decide +kernel) rfl ?_
  refine B_getr (o' := ((92 : Nat) : Int)) (q := (RX11, TX11, 59)) (ci := 10) (j := 58) (by decide +kernel) rfl (by decide) rfl (by omega) fl_11_115 rfl ?_
  refine A_iload_n (i := 1) (f := 1) rfl (by decide +kernel) rfl ?_
  refine A_aload_n (i := 0) (f := 0) (by omega) rfl (by decide +kernel) rfl ?_
  refine B_getr (o' := ((92 : Nat) : Int)) (q := (RX11, TX11, 59)) (ci := 10) (j := 58) (by decide +kernel) rfl (by decide) rfl (by omega) fl_11_115 rfl ?_
  refine A_iload_n (i := 2) (f := 2) rfl (by decide +kernel) rfl ?_
  refine B_iald (v := (M 92 (x2).toNat)) (by decide +kernel) h1.1 rfl ?_
  have h2 := h1.2
  refine B_iast (M' := (mset M 92 (x1).toNat (M 92 (x2).toNat))) (by decide +kernel) h2.1 rfl ?_
  have h3 := h2.2
  refine A_aload_n (i := 0) (f := 0) (by omega) rfl (by decide +kernel) rfl ?_
  refine B_getr (o' := ((92 : Nat) : Int)) (q := (RX11, TX11, 59)) (ci := 10) (j := 58) (by decide +kernel) rfl (by decide) rfl (by omega) fl_11_115 rfl ?_
  refine A_iload_n (i := 2) (f := 2) rfl (by decide +kernel) rfl ?_
  refine A_iload_n (i := 3) (f := 3) rfl (by decide +kernel) rfl ?_
  refine B_iast (M' := (mset (mset M 92 (x1).toNat (M 92 (x2).toNat)) 92 (x2).toNat (M 92 (x1).toNat))) (by decide +kernel) h3.1 rfl ?_
  have h4 := h3.2
  exact A_ret ⟨by decide +kernel, rfl⟩ ⟨rfl, h4⟩
theorem q_11_path {x1 : Int} {x2 : Int} {M : Mem} {P : Int → Mem → Prop} (h : A m11_path 1 0 5 [(20, ((59 : Nat) : Int)), (0, x1), (0, x2), (0, 0), (0, x1), (2, 0)] [] M (Ki P)) : CI m11_path 1 [(20, ((59 : Nat) : Int)), (0, x1), (0, x2)] M P := by
  refine CI_of (by decide +kernel) (Nat.le_of_ble_eq_true rfl) ?_
  show A m11_path 1 0 0 [(20, ((59 : Nat) : Int)), (0, x1), (0, x2), (2, 0), (2, 0), (2, 0)] [] M (Ki P)
  refine A_iconst (a := 0) (by decide +kernel) (by unfold in32; omega) ?_
  refine A_istore_n (i := 3) (f := 3) rfl (by decide +kernel) (by decide) (fun w h0 hw => by simp at hw; first | (rw [← hw]; decide) | (rw [← hw]; simp)) ?_
  refine A_iload_n (i := 1) (f := 1) rfl (by decide +kernel) rfl ?_
  refine A_istore (i := 4) (by decide +kernel) (by decide) (fun w h0 hw => by simp at hw; first | (rw [← hw]; decide) | (rw [← hw]; simp)) ?_
  exact A_weak (lsub.keep (lsub.keep (lsub.keep (lsub.keep (lsub.keep (lsub.drop lsub.nil)))))) h
theorem r_11_path_5 {x1 : Int} {x2 : Int} {x3 : Int} {x4 : Int} {M : Mem} {P : Int → Mem → Prop} (h : ((0 ≤ x4 ∧ x4 < 12500) ∧ (((M 90 (x4).toNat) = (-1) → ((x2 ≠ (-1) → ((x2 < x3 → A m11_path 1 0 54 [(20, ((59 : Nat) : Int)), (2, 0), (0, x2), (2, 0), (0, x1), (0, (w32 (x3 - 1)))] [] M (Ki P)) ∧ (x3 ≤ x2 → (P (-2) M)))) ∧ (x2 = (-1) → (P x3 M)))) ∧ ((M 90 (x4).toNat) ≠ (-1) → ((0 ≤ x4 ∧ x4 < 12500) ∧ A m11_path 1 0 5 [(20, ((59 : Nat) : Int)), (0, x1), (0, x2), (0, (w32 (x3 + 1))), (0, (M 89 (x4).toNat)), (2, 0)] [] M (Ki P)))))) : A m11_path 1 0 5 [(20, ((59 : Nat) : Int)), (0, x1), (0, x2), (0, x3), (0, x4), (2, 0)] [] M (Ki P) := by
  refine A_aload_n (i := 0) (f := 0) (by omega) rfl (by decide +kernel) rfl ?_
  refine B_getr (o' := ((90 : Nat) : Int)) (q := (RX11, TX11, 59)) (ci := 10) (j := 56) (by decide +kernel) rfl (by decide) rfl (by omega) fl_11_109 rfl ?_
  refine A_iload (i := 4) (by decide +kernel) rfl ?_
  refine B_iald (v := (M 90 (x4).toNat)) (by decide +kernel) h.1 rfl ?_
  have h1 := h.2
  refine A_iconst (a := (-1)) (by decide +kernel) (by unfold in32; omega) ?_
  refine A_ic_eq (off := 18) (tgt := 31) (by decide +kernel) (by omega) (fun b2 => ?_) (fun b2 => ?_)
  · have h3 := h1.1 b2
    refine A_iload_n (i := 2) (f := 2) rfl (by decide +kernel) rfl ?_
    refine A_iconst (a := (-1)) (by decide +kernel) (by unfold in32; omega) ?_
    refine A_ic_ne (off := 5) (tgt := 38) (by decide +kernel) (by omega) (fun b5 => ?_) (fun b5 => ?_)
    · have h6 := h3.1 b5
      refine A_iload_n (i := 2) (f := 2) rfl (by decide +kernel) rfl ?_
      refine A_iload_n (i := 3) (f := 3) rfl (by decide +kernel) rfl ?_
      refine A_ic_lt (off := 6) (tgt := 46) (by decide +kernel) (by omega) (fun b8 => ?_) (fun b8 => ?_)
      · have h9 := h6.1 b8
        refine A_iload_n (i := 1) (f := 1) rfl (by decide +kernel) rfl ?_
        refine A_istore (i := 4) (by decide +kernel) (by decide) (fun w h0 hw => by simp at hw; first | (rw [← hw]; decide) | (rw [← hw]; simp)) ?_
        refine A_iload_n (i := 3) (f := 3) rfl (by decide +kernel) rfl ?_
        refine A_iconst (a := 1) (by decide +kernel) (by unfold in32; omega) ?_
        refine A_isub (by decide +kernel) ?_
        refine A_istore (i := 5) (by decide +kernel) (by decide) (fun w h0 hw => by simp at hw; first | (rw [← hw]; decide) | (rw [← hw]; simp)) ?_
        exact A_weak (lsub.keep (lsub.drop (lsub.keep (lsub.drop (lsub.keep (lsub.keep lsub.nil)))))) h9
      · have h10 := h6.2 (Int.not_lt.mp b8)
        refine A_bipush (a := (-2)) (by decide +kernel) (by unfold in32; omega) (by decide +kernel) ?_
        exact A_ret ⟨by decide +kernel, Or.inl rfl⟩ ⟨_, rfl, h10⟩
    · have h7 := h3.2 (Decidable.not_not.mp b5)
      refine A_iload_n (i := 3) (f := 3) rfl (by decide +kernel) rfl ?_
      exact A_ret ⟨by decide +kernel, Or.inl rfl⟩ ⟨_, rfl, h7⟩
  · have h4 := h1.2 b2
    refine A_iinc (i := 3) (n := 1) (by decide +kernel) (by decide) rfl (fun w h0 hw => by simp at hw; first | (rw [← hw]; decide) | (rw [← hw]; simp)) ?_
    refine A_aload_n (i := 0) (f := 0) (by omega) rfl (by decide +kernel) rfl ?_
    refine B_getr (o' := ((89 : Nat) : Int)) (q := (RX11, TX11, 59)) (ci := 10) (j := 55) (by decide +kernel) rfl (by decide) rfl (by omega) fl_11_106 rfl ?_
    refine A_iload (i := 4) (by decide +kernel) rfl ?_
    refine B_iald (v := (M 89 (x4).toNat)) (by decide +kernel) h4.1 rfl ?_
    have h11 := h4.2
    refine A_istore (i := 4) (by decide +kernel) (by decide) (fun w h0 hw => by simp at hw; first | (rw [← hw]; decide) | (rw [← hw]; simp)) ?_
    refine A_goto (off := (-23)) (tgt := 5) (by decide +kernel) (by omega) ?_
    exact A_weak (lsub.keep (lsub.keep (lsub.keep (lsub.keep (lsub.keep (lsub.drop lsub.nil)))))) h11
theorem r_11_path_54 {x2 : Int} {x4 : Int} {x5 : Int} {M : Mem} {P : Int → Mem → Prop} (h : ((x5 ≤ x2 → ((0 ≤ x4 ∧ x4 < 12500) ∧ (P (M 90 (x4).toNat) M))) ∧ (x2 < x5 → ((0 ≤ x4 ∧ x4 < 12500) ∧ A m11_path 1 0 54 [(20, ((59 : Nat) : Int)), (2, 0), (0, x2), (2, 0), (0, (M 89 (x4).toNat)), (0, (w32 (x5 + (-1))))] [] M (Ki P))))) : A m11_path 1 0 54 [(20, ((59 : Nat) : Int)), (2, 0), (0, x2), (2, 0), (0, x4), (0, x5)] [] M (Ki P) := by
  refine A_iload (i := 5) (by decide +kernel) rfl ?_
  refine A_iload_n (i := 2) (f := 2) rfl (by decide +kernel) rfl ?_
  refine A_ic_le (off := 18) (tgt := 75) (by decide +kernel) (by omega) (fun b1 => ?_) (fun b1 => ?_)
  · have h2 := h.1 b1
    refine A_aload_n (i := 0) (f := 0) (by omega) rfl (by decide +kernel) rfl ?_
    refine B_getr (o' := ((90 : Nat) : Int)) (q := (RX11, TX11, 59)) (ci := 10) (j := 56) (by decide +kernel) rfl (by decide) rfl (by omega) fl_11_109 rfl ?_
    refine A_iload (i := 4) (by decide +kernel) rfl ?_
    refine B_iald (v := (M 90 (x4).toNat)) (by decide +kernel) h2.1 rfl ?_
    have h4 := h2.2
    exact A_ret ⟨by decide +kernel, Or.inl rfl⟩ ⟨_, rfl, h4⟩
  · have h3 := h.2 (Int.not_le.mp b1)
    refine A_aload_n (i := 0) (f := 0) (by omega) rfl (by decide +kernel) rfl ?_
    refine B_getr (o' := ((89 : Nat) : Int)) (q := (RX11, TX11, 59)) (ci := 10) (j := 55) (by decide +kernel) rfl (by decide) rfl (by omega) fl_11_106 rfl ?_
    refine A_iload (i := 4) (by decide +kernel) rfl ?_
    refine B_iald (v := (M 89 (x4).toNat)) (by decide +kernel) h3.1 rfl ?_
    have h5 := h3.2
    refine A_istore (i := 4) (by decide +kernel) (by decide) (fun w h0 hw => by simp at hw; first | (rw [← hw]; decide) | (rw [← hw]; simp)) ?_
    refine A_iinc (i := 5) (n := (-1)) (by decide +kernel) (by decide) rfl (fun w h0 hw => by simp at hw; first | (rw [← hw]; decide) | (rw [← hw]; simp)) ?_
    refine A_goto (off := (-18)) (tgt := 54) (by decide +kernel) (by omega) ?_
    exact A_weak (lsub.keep (lsub.drop (lsub.keep (lsub.drop (lsub.keep (lsub.keep lsub.nil)))))) h5
theorem q_11_keep  {M : Mem} {P : Int → Mem → Prop} (h : (CD m11_copyFacts 2 [(20, ((59 : Nat) : Int)), (0, 48), (0, 0), (0, ((mset M 59 0 0) 59 31))] (mset M 59 0 0) (fun M2 => (P ((mset (mset (mset M2 59 34 (M2 59 31)) 59 35 ((mset M2 59 34 (M2 59 31)) 59 32)) 59 33 1) 59 31) (mset (mset (mset M2 59 34 (M2 59 31)) 59 35 ((mset M2 59 34 (M2 59 31)) 59 32)) 59 33 1))))) : CI m11_keep 3 [(20, ((59 : Nat) : Int))] M P := by
  refine CI_of (by decide +kernel) (Nat.le_of_ble_eq_true rfl) ?_
  show A m11_keep 3 0 0 [(20, ((59 : Nat) : Int))] [] M (Ki P)
  refine A_aload_n (i := 0) (f := 0) (by omega) rfl (by decide +kernel) rfl ?_
  refine A_iconst (a := 0) (by decide +kernel) (by unfold in32; omega) ?_
  refine B_putp (M' := (mset M 59 0 0)) (q := (RX11, TX11, 59)) (ci := 10) (j := 0) (p := 0) (by decide +kernel) rfl (by decide) rfl (Or.inl ⟨rfl, rfl⟩) rfl fl_11_118 rfl ?_
  refine A_aload_n (i := 0) (f := 0) (by omega) rfl (by decide +kernel) rfl ?_
  refine A_bipush (a := 48) (by decide +kernel) (by unfold in32; omega) (by decide +kernel) ?_
  refine A_iconst (a := 0) (by decide +kernel) (by unfold in32; omega) ?_
  refine A_aload_n (i := 0) (f := 0) (by omega) rfl (by decide +kernel) rfl ?_
  refine B_getp (v := ((mset M 59 0 0) 59 31)) (q := (RX11, TX11, 59)) (ci := 10) (j := 31) (p := 31) (by decide +kernel) rfl (by decide) rfl (Or.inl rfl) fl_11_289 rfl ?_
  refine A_cVd (q := (RX11, TX11, 59)) (ci := 10) (o := ((59 : Nat) : Int)) (args := [(0, 48), (0, 0), (0, ((mset M 59 0 0) 59 31))]) (st := []) (by decide +kernel) cv_m11_copyFacts rfl rfl in_m11_copyFacts se_m11_copyFacts lk_11_292 rfl (by omega) (Nat.le_of_ble_eq_true rfl) h (fun M2 h3 => ?_)
  refine A_aload_n (i := 0) (f := 0) (by omega) rfl (by decide +kernel) rfl ?_
  refine A_aload_n (i := 0) (f := 0) (by omega) rfl (by decide +kernel) rfl ?_
  refine B_getp (v := (M2 59 31)) (q := (RX11, TX11, 59)) (ci := 10) (j := 31) (p := 31) (by decide +kernel) rfl (by decide) rfl (Or.inl rfl) fl_11_289 rfl ?_
  refine B_putp (M' := (mset M2 59 34 (M2 59 31))) (q := (RX11, TX11, 59)) (ci := 10) (j := 34) (p := 34) (by decide +kernel) rfl (by decide) rfl (Or.inl ⟨rfl, rfl⟩) rfl fl_11_471 rfl ?_
  refine A_aload_n (i := 0) (f := 0) (by omega) rfl (by decide +kernel) rfl ?_
  refine A_aload_n (i := 0) (f := 0) (by omega) rfl (by decide +kernel) rfl ?_
  refine B_getp (v := ((mset M2 59 34 (M2 59 31)) 59 32)) (q := (RX11, TX11, 59)) (ci := 10) (j := 32) (p := 32) (by decide +kernel) rfl (by decide) rfl (Or.inl rfl) fl_11_296 rfl ?_
  refine B_putp (M' := (mset (mset M2 59 34 (M2 59 31)) 59 35 ((mset M2 59 34 (M2 59 31)) 59 32))) (q := (RX11, TX11, 59)) (ci := 10) (j := 35) (p := 35) (by decide +kernel) rfl (by decide) rfl (Or.inl ⟨rfl, rfl⟩) rfl fl_11_474 rfl ?_
  refine A_aload_n (i := 0) (f := 0) (by omega) rfl (by decide +kernel) rfl ?_
  refine A_iconst (a := 1) (by decide +kernel) (by unfold in32; omega) ?_
  refine B_putp (M' := (mset (mset (mset M2 59 34 (M2 59 31)) 59 35 ((mset M2 59 34 (M2 59 31)) 59 32)) 59 33 1)) (q := (RX11, TX11, 59)) (ci := 10) (j := 33) (p := 33) (by decide +kernel) rfl (by decide) rfl (Or.inr ⟨rfl, rfl, by decide⟩) rfl fl_11_302 rfl ?_
  refine A_aload_n (i := 0) (f := 0) (by omega) rfl (by decide +kernel) rfl ?_
  refine B_getp (v := ((mset (mset (mset M2 59 34 (M2 59 31)) 59 35 ((mset M2 59 34 (M2 59 31)) 59 32)) 59 33 1) 59 31)) (q := (RX11, TX11, 59)) (ci := 10) (j := 31) (p := 31) (by decide +kernel) rfl (by decide) rfl (Or.inl rfl) fl_11_289 rfl ?_
  exact A_ret ⟨by decide +kernel, Or.inl rfl⟩ ⟨_, rfl, h3⟩
theorem q_11_back  {M : Mem} {P : Int → Mem → Prop} (h : ((((mset M 59 0 0) 59 33) ≠ 0 → (CD m11_copyFacts 2 [(20, ((59 : Nat) : Int)), (0, 0), (0, 48), (0, ((mset M 59 0 0) 59 34))] (mset M 59 0 0) (fun M5 => (P ((mset (mset M5 59 31 (M5 59 34)) 59 32 ((mset M5 59 31 (M5 59 34)) 59 35)) 59 31) (mset (mset M5 59 31 (M5 59 34)) 59 32 ((mset M5 59 31 (M5 59 34)) 59 35)))))) ∧ (((mset M 59 0 0) 59 33) = 0 → (P (-1) (mset M 59 0 0))))) : CI m11_back 3 [(20, ((59 : Nat) : Int))] M P := by
  refine CI_of (by decide +kernel) (Nat.le_of_ble_eq_true rfl) ?_
  show A m11_back 3 0 0 [(20, ((59 : Nat) : Int))] [] M (Ki P)
  refine A_aload_n (i := 0) (f := 0) (by omega) rfl (by decide +kernel) rfl ?_
  refine A_iconst (a := 0) (by decide +kernel) (by unfold in32; omega) ?_
  refine B_putp (M' := (mset M 59 0 0)) (q := (RX11, TX11, 59)) (ci := 10) (j := 0) (p := 0) (by decide +kernel) rfl (by decide) rfl (Or.inl ⟨rfl, rfl⟩) rfl fl_11_118 rfl ?_
  refine A_aload_n (i := 0) (f := 0) (by omega) rfl (by decide +kernel) rfl ?_
  refine B_getp (v := ((mset M 59 0 0) 59 33)) (q := (RX11, TX11, 59)) (ci := 10) (j := 33) (p := 33) (by decide +kernel) rfl (by decide) rfl (Or.inr rfl) fl_11_302 rfl ?_
  refine A_if_ne (off := 5) (tgt := 14) (by decide +kernel) (by omega) (fun b1 => ?_) (fun b1 => ?_)
  · have h2 := h.1 b1
    refine A_aload_n (i := 0) (f := 0) (by omega) rfl (by decide +kernel) rfl ?_
    refine A_iconst (a := 0) (by decide +kernel) (by unfold in32; omega) ?_
    refine A_bipush (a := 48) (by decide +kernel) (by unfold in32; omega) (by decide +kernel) ?_
    refine A_aload_n (i := 0) (f := 0) (by omega) rfl (by decide +kernel) rfl ?_
    refine B_getp (v := ((mset M 59 0 0) 59 34)) (q := (RX11, TX11, 59)) (ci := 10) (j := 34) (p := 34) (by decide +kernel) rfl (by decide) rfl (Or.inl rfl) fl_11_471 rfl ?_
    refine A_cVd (q := (RX11, TX11, 59)) (ci := 10) (o := ((59 : Nat) : Int)) (args := [(0, 0), (0, 48), (0, ((mset M 59 0 0) 59 34))]) (st := []) (by decide +kernel) cv_m11_copyFacts rfl rfl in_m11_copyFacts se_m11_copyFacts lk_11_292 rfl (by omega) (Nat.le_of_ble_eq_true rfl) h2 (fun M5 h6 => ?_)
    refine A_aload_n (i := 0) (f := 0) (by omega) rfl (by decide +kernel) rfl ?_
    refine A_aload_n (i := 0) (f := 0) (by omega) rfl (by decide +kernel) rfl ?_
    refine B_getp (v := (M5 59 34)) (q := (RX11, TX11, 59)) (ci := 10) (j := 34) (p := 34) (by decide +kernel) rfl (by decide) rfl (Or.inl rfl) fl_11_471 rfl ?_
    refine B_putp (M' := (mset M5 59 31 (M5 59 34))) (q := (RX11, TX11, 59)) (ci := 10) (j := 31) (p := 31) (by decide +kernel) rfl (by decide) rfl (Or.inl ⟨rfl, rfl⟩) rfl fl_11_289 rfl ?_
    refine A_aload_n (i := 0) (f := 0) (by omega) rfl (by decide +kernel) rfl ?_
    refine A_aload_n (i := 0) (f := 0) (by omega) rfl (by decide +kernel) rfl ?_
    refine B_getp (v := ((mset M5 59 31 (M5 59 34)) 59 35)) (q := (RX11, TX11, 59)) (ci := 10) (j := 35) (p := 35) (by decide +kernel) rfl (by decide) rfl (Or.inl rfl) fl_11_474 rfl ?_
    refine B_putp (M' := (mset (mset M5 59 31 (M5 59 34)) 59 32 ((mset M5 59 31 (M5 59 34)) 59 35))) (q := (RX11, TX11, 59)) (ci := 10) (j := 32) (p := 32) (by decide +kernel) rfl (by decide) rfl (Or.inl ⟨rfl, rfl⟩) rfl fl_11_296 rfl ?_
    refine A_aload_n (i := 0) (f := 0) (by omega) rfl (by decide +kernel) rfl ?_
    refine B_getp (v := ((mset (mset M5 59 31 (M5 59 34)) 59 32 ((mset M5 59 31 (M5 59 34)) 59 35)) 59 31)) (q := (RX11, TX11, 59)) (ci := 10) (j := 31) (p := 31) (by decide +kernel) rfl (by decide) rfl (Or.inl rfl) fl_11_289 rfl ?_
    exact A_ret ⟨by decide +kernel, Or.inl rfl⟩ ⟨_, rfl, h6⟩
  · have h3 := h.2 (Decidable.not_not.mp b1)
    refine A_iconst (a := (-1)) (by decide +kernel) (by unfold in32; omega) ?_
    exact A_ret ⟨by decide +kernel, Or.inl rfl⟩ ⟨_, rfl, h3⟩
theorem q_11_count {x1 : Int} {M : Mem} {P : Int → Mem → Prop} (h : ((x1 = 0 → (P ((mset M 59 0 0) 61 0) (mset M 59 0 0))) ∧ ((x1 = 1 → (P ((mset M 59 0 0) 59 31) (mset M 59 0 0))) ∧ ((x1 = 2 → (P ((mset M 59 0 0) 61 2) (mset M 59 0 0))) ∧ ((x1 = 3 → (P ((mset M 59 0 0) 61 4) (mset M 59 0 0))) ∧ ((x1 = 4 → (P ((mset M 59 0 0) 59 32) (mset M 59 0 0))) ∧ ((x1 = 5 → (P ((mset M 59 0 0) 59 46) (mset M 59 0 0))) ∧ ((x1 = 6 → (CI m11_knownMany 1 [(20, ((59 : Nat) : Int))] (mset M 59 0 0) (fun r9 M10 => (P r9 M10)))) ∧ ((x1 = 7 → A m11_count 2 0 99 [(20, ((59 : Nat) : Int)), (2, 0), (0, 0), (0, 0)] [] (mset M 59 0 0) (Ki P)) ∧ ((x1 < 0 ∨ 7 < x1) → (P (-1) (mset M 59 0 0)))))))))))) : CI m11_count 2 [(20, ((59 : Nat) : Int)), (0, x1)] M P := by
  refine CI_of (by decide +kernel) (Nat.le_of_ble_eq_true rfl) ?_
  show A m11_count 2 0 0 [(20, ((59 : Nat) : Int)), (0, x1), (2, 0), (2, 0)] [] M (Ki P)
  refine A_aload_n (i := 0) (f := 0) (by omega) rfl (by decide +kernel) rfl ?_
  refine A_iconst (a := 0) (by decide +kernel) (by unfold in32; omega) ?_
  refine B_putp (M' := (mset M 59 0 0)) (q := (RX11, TX11, 59)) (ci := 10) (j := 0) (p := 0) (by decide +kernel) rfl (by decide) rfl (Or.inl ⟨rfl, rfl⟩) rfl fl_11_118 rfl ?_
  refine A_iconst (a := 0) (by decide +kernel) (by unfold in32; omega) ?_
  refine A_istore_n (i := 2) (f := 2) rfl (by decide +kernel) (by decide) (fun w h0 hw => by simp at hw; first | (rw [← hw]; decide) | (rw [← hw]; simp)) ?_
  refine A_iload_n (i := 1) (f := 1) rfl (by decide +kernel) rfl ?_
  have hsw : x1 = 0 ∨ x1 = 1 ∨ x1 = 2 ∨ x1 = 3 ∨ x1 = 4 ∨ x1 = 5 ∨ x1 = 6 ∨ x1 = 7 ∨ (x1 < 0 ∨ 7 < x1) := by omega
  rcases hsw with e1 | e1 | e1 | e1 | e1 | e1 | e1 | e1 | e1
  · have h2 := h.1 e1
    refine A_tin (len := 48) (dflt := 124) (lo := 0) (hi := 7) (offs := #[48, 55, 60, 67, 74, 79, 84, 89]) (off := 48) (tgt := 56) (by decide +kernel) (by omega) (by omega) (by rw [e1]; rfl) (by omega) ?_
    refine A_aload_n (i := 0) (f := 0) (by omega) rfl (by decide +kernel) rfl ?_
    refine B_getr (o' := ((61 : Nat) : Int)) (q := (RX11, TX11, 59)) (ci := 10) (j := 3) (by decide +kernel) rfl (by decide) rfl (by omega) fl_11_13 rfl ?_
    refine A_iconst (a := 0) (by decide +kernel) (by unfold in32; omega) ?_
    refine B_iald (v := ((mset M 59 0 0) 61 0)) (by decide +kernel) (by decide) rfl ?_
    exact A_ret ⟨by decide +kernel, Or.inl rfl⟩ ⟨_, rfl, h2⟩
  · have h3 := h.2.1 e1
    refine A_tin (len := 48) (dflt := 124) (lo := 0) (hi := 7) (offs := #[48, 55, 60, 67, 74, 79, 84, 89]) (off := 55) (tgt := 63) (by decide +kernel) (by omega) (by omega) (by rw [e1]; rfl) (by omega) ?_
    refine A_aload_n (i := 0) (f := 0) (by omega) rfl (by decide +kernel) rfl ?_
    refine B_getp (v := ((mset M 59 0 0) 59 31)) (q := (RX11, TX11, 59)) (ci := 10) (j := 31) (p := 31) (by decide +kernel) rfl (by decide) rfl (Or.inl rfl) fl_11_289 rfl ?_
    exact A_ret ⟨by decide +kernel, Or.inl rfl⟩ ⟨_, rfl, h3⟩
  · have h4 := h.2.2.1 e1
    refine A_tin (len := 48) (dflt := 124) (lo := 0) (hi := 7) (offs := #[48, 55, 60, 67, 74, 79, 84, 89]) (off := 60) (tgt := 68) (by decide +kernel) (by omega) (by omega) (by rw [e1]; rfl) (by omega) ?_
    refine A_aload_n (i := 0) (f := 0) (by omega) rfl (by decide +kernel) rfl ?_
    refine B_getr (o' := ((61 : Nat) : Int)) (q := (RX11, TX11, 59)) (ci := 10) (j := 3) (by decide +kernel) rfl (by decide) rfl (by omega) fl_11_13 rfl ?_
    refine A_iconst (a := 2) (by decide +kernel) (by unfold in32; omega) ?_
    refine B_iald (v := ((mset M 59 0 0) 61 2)) (by decide +kernel) (by decide) rfl ?_
    exact A_ret ⟨by decide +kernel, Or.inl rfl⟩ ⟨_, rfl, h4⟩
  · have h5 := h.2.2.2.1 e1
    refine A_tin (len := 48) (dflt := 124) (lo := 0) (hi := 7) (offs := #[48, 55, 60, 67, 74, 79, 84, 89]) (off := 67) (tgt := 75) (by decide +kernel) (by omega) (by omega) (by rw [e1]; rfl) (by omega) ?_
    refine A_aload_n (i := 0) (f := 0) (by omega) rfl (by decide +kernel) rfl ?_
    refine B_getr (o' := ((61 : Nat) : Int)) (q := (RX11, TX11, 59)) (ci := 10) (j := 3) (by decide +kernel) rfl (by decide) rfl (by omega) fl_11_13 rfl ?_
    refine A_iconst (a := 4) (by decide +kernel) (by unfold in32; omega) ?_
    refine B_iald (v := ((mset M 59 0 0) 61 4)) (by decide +kernel) (by decide) rfl ?_
    exact A_ret ⟨by decide +kernel, Or.inl rfl⟩ ⟨_, rfl, h5⟩
  · have h6 := h.2.2.2.2.1 e1
    refine A_tin (len := 48) (dflt := 124) (lo := 0) (hi := 7) (offs := #[48, 55, 60, 67, 74, 79, 84, 89]) (off := 74) (tgt := 82) (by decide +kernel) (by omega) (by omega) (by rw [e1]; rfl) (by omega) ?_
    refine A_aload_n (i := 0) (f := 0) (by omega) rfl (by decide +kernel) rfl ?_
    refine B_getp (v := ((mset M 59 0 0) 59 32)) (q := (RX11, TX11, 59)) (ci := 10) (j := 32) (p := 32) (by decide +kernel) rfl (by decide) rfl (Or.inl rfl) fl_11_296 rfl ?_
    exact A_ret ⟨by decide +kernel, Or.inl rfl⟩ ⟨_, rfl, h6⟩
  · have h7 := h.2.2.2.2.2.1 e1
    refine A_tin (len := 48) (dflt := 124) (lo := 0) (hi := 7) (offs := #[48, 55, 60, 67, 74, 79, 84, 89]) (off := 79) (tgt := 87) (by decide +kernel) (by omega) (by omega) (by rw [e1]; rfl) (by omega) ?_
    refine A_aload_n (i := 0) (f := 0) (by omega) rfl (by decide +kernel) rfl ?_
    refine B_getp (v := ((mset M 59 0 0) 59 46)) (q := (RX11, TX11, 59)) (ci := 10) (j := 46) (p := 46) (by decide +kernel) rfl (by decide) rfl (Or.inl rfl) fl_11_299 rfl ?_
    exact A_ret ⟨by decide +kernel, Or.inl rfl⟩ ⟨_, rfl, h7⟩
  · have h8 := h.2.2.2.2.2.2.1 e1
    refine A_tin (len := 48) (dflt := 124) (lo := 0) (hi := 7) (offs := #[48, 55, 60, 67, 74, 79, 84, 89]) (off := 84) (tgt := 92) (by decide +kernel) (by omega) (by omega) (by rw [e1]; rfl) (by omega) ?_
    refine A_aload_n (i := 0) (f := 0) (by omega) rfl (by decide +kernel) rfl ?_
    refine A_cVi (q := (RX11, TX11, 59)) (ci := 10) (o := ((59 : Nat) : Int)) (args := []) (st := []) (by decide +kernel) cv_m11_knownMany rfl rfl in_m11_knownMany se_m11_knownMany lk_11_428 rfl (by omega) (Nat.le_of_ble_eq_true rfl) h8 (fun r9 M10 _ h11 => ?_)
    exact A_ret ⟨by decide +kernel, Or.inl rfl⟩ ⟨_, rfl, h11⟩
  · have h12 := h.2.2.2.2.2.2.2.1 e1
    refine A_tin (len := 48) (dflt := 124) (lo := 0) (hi := 7) (offs := #[48, 55, 60, 67, 74, 79, 84, 89]) (off := 89) (tgt := 97) (by decide +kernel) (by omega) (by omega) (by rw [e1]; rfl) (by omega) ?_
    refine A_iconst (a := 0) (by decide +kernel) (by unfold in32; omega) ?_
    refine A_istore_n (i := 3) (f := 3) rfl (by decide +kernel) (by decide) (fun w h0 hw => by simp at hw; first | (rw [← hw]; decide) | (rw [← hw]; simp)) ?_
    exact A_weak (lsub.keep (lsub.drop (lsub.keep (lsub.keep lsub.nil)))) h12
  · have h13 := h.2.2.2.2.2.2.2.2 e1
    refine A_tout (len := 48) (dflt := 124) (lo := 0) (hi := 7) (offs := #[48, 55, 60, 67, 74, 79, 84, 89]) (tgt := 132) (by decide +kernel) e1 (by omega) ?_
    refine A_iconst (a := (-1)) (by decide +kernel) (by unfold in32; omega) ?_
    exact A_ret ⟨by decide +kernel, Or.inl rfl⟩ ⟨_, rfl, h13⟩
theorem r_11_count_99 {x2 : Int} {x3 : Int} {M : Mem} {P : Int → Mem → Prop} (h : (((M 59 31) ≤ x3 → (P x2 M)) ∧ (x3 < (M 59 31) → ((0 ≤ x3 ∧ x3 < 72) ∧ (((M 73 (x3).toNat) = 0 → A m11_count 2 0 99 [(20, ((59 : Nat) : Int)), (2, 0), (0, (w32 (x2 + 1))), (0, (w32 (x3 + 1)))] [] M (Ki P)) ∧ ((M 73 (x3).toNat) ≠ 0 → A m11_count 2 0 99 [(20, ((59 : Nat) : Int)), (2, 0), (0, (w32 (x2 + 0))), (0, (w32 (x3 + 1)))] [] M (Ki P))))))) : A m11_count 2 0 99 [(20, ((59 : Nat) : Int)), (2, 0), (0, x2), (0, x3)] [] M (Ki P) := by
  refine A_iload_n (i := 3) (f := 3) rfl (by decide +kernel) rfl ?_
  refine A_aload_n (i := 0) (f := 0) (by omega) rfl (by decide +kernel) rfl ?_
  refine B_getp (v := (M 59 31)) (q := (RX11, TX11, 59)) (ci := 10) (j := 31) (p := 31) (by decide +kernel) rfl (by decide) rfl (Or.inl rfl) fl_11_289 rfl ?_
  refine A_ic_ge (off := 26) (tgt := 130) (by decide +kernel) (by omega) (fun b1 => ?_) (fun b1 => ?_)
  · have h2 := h.1 b1
    refine A_iload_n (i := 2) (f := 2) rfl (by decide +kernel) rfl ?_
    exact A_ret ⟨by decide +kernel, Or.inl rfl⟩ ⟨_, rfl, h2⟩
  · have h3 := h.2 (Int.not_le.mp b1)
    refine A_iload_n (i := 2) (f := 2) rfl (by decide +kernel) rfl ?_
    refine A_aload_n (i := 0) (f := 0) (by omega) rfl (by decide +kernel) rfl ?_
    refine B_getr (o' := ((73 : Nat) : Int)) (q := (RX11, TX11, 59)) (ci := 10) (j := 15) (by decide +kernel) rfl (by decide) rfl (by omega) fl_11_49 rfl ?_
    refine A_iload_n (i := 3) (f := 3) rfl (by decide +kernel) rfl ?_
    refine B_zald (v := (M 73 (x3).toNat)) (by decide +kernel) h3.1 rfl ?_
    have h4 := h3.2
    refine A_if_eq (off := 7) (tgt := 121) (by decide +kernel) (by omega) (fun b5 => ?_) (fun b5 => ?_)
    · have h6 := h4.1 b5
      refine A_iconst (a := 1) (by decide +kernel) (by unfold in32; omega) ?_
      refine A_iadd (by decide +kernel) ?_
      refine A_istore_n (i := 2) (f := 2) rfl (by decide +kernel) (by decide) (fun w h0 hw => by simp at hw; first | (rw [← hw]; decide) | (rw [← hw]; simp)) ?_
      refine A_iinc (i := 3) (n := 1) (by decide +kernel) (by decide) rfl (fun w h0 hw => by simp at hw; first | (rw [← hw]; decide) | (rw [← hw]; simp)) ?_
      refine A_goto (off := (-28)) (tgt := 99) (by decide +kernel) (by omega) ?_
      exact A_weak (lsub.keep (lsub.drop (lsub.keep (lsub.keep lsub.nil)))) h6
    · have h7 := h4.2 b5
      refine A_iconst (a := 0) (by decide +kernel) (by unfold in32; omega) ?_
      refine A_goto (off := 4) (tgt := 122) (by decide +kernel) (by omega) ?_
      refine A_iadd (by decide +kernel) ?_
      refine A_istore_n (i := 2) (f := 2) rfl (by decide +kernel) (by decide) (fun w h0 hw => by simp at hw; first | (rw [← hw]; decide) | (rw [← hw]; simp)) ?_
      refine A_iinc (i := 3) (n := 1) (by decide +kernel) (by decide) rfl (fun w h0 hw => by simp at hw; first | (rw [← hw]; decide) | (rw [← hw]; simp)) ?_
      refine A_goto (off := (-28)) (tgt := 99) (by decide +kernel) (by omega) ?_
      exact A_weak (lsub.keep (lsub.drop (lsub.keep (lsub.keep lsub.nil)))) h7
