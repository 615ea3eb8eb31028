/-! CourtTongue$Climb: its regions (made by wip/whole/gall.py) -/
theorem q_1_learn {x1 : Int} {p2 : Nat} {M : Mem} {P : Mem → Prop} (h : A m1_learn 3 0 2 [(11, ((52 : Nat) : Int)), (0, x1), (15, (p2 : Int)), (0, 0)] [] M (Kd P)) : CD m1_learn 3 [(11, ((52 : Nat) : Int)), (0, x1), (15, (p2 : Int))] M P := by
  refine CD_of (by decide +kernel) (Nat.le_of_ble_eq_true rfl) ?_
  show A m1_learn 3 0 0 [(11, ((52 : Nat) : Int)), (0, x1), (15, (p2 : Int)), (2, 0)] [] M (Kd P)
  refine A_iconst (a := 0) (by decide +kernel) (by unfold in32; omega) ?_
  refine A_istore_n (i := 3) (f := 3) rfl (by decide +kernel) (by decide) (fun w h0 hw => by simp at hw; first | (rw [← hw]; decide) | (rw [← hw]; simp)) ?_
  exact A_weak (lsub.keep (lsub.keep (lsub.keep (lsub.keep lsub.nil)))) h
theorem r_1_learn_2 {p2 : Nat} {x1 : Int} {x3 : Int} {M : Mem} {P : Mem → Prop} (h : ((8 ≤ x3 → (P M)) ∧ (x3 < 8 → (CI m5_belowOf 2 [(15, (p2 : Int)), (0, x3)] M (fun r4 M5 => (CD m10_put 1 [(30, ((53 : Nat) : Int)), (0, (w32 ((w32 (x1 * 8)) + x3))), (0, r4)] M5 (fun M8 => A m1_learn 3 0 2 [(11, ((52 : Nat) : Int)), (0, x1), (15, (p2 : Int)), (0, (w32 (x3 + 1)))] [] M8 (Kd P)))))))) : A m1_learn 3 0 2 [(11, ((52 : Nat) : Int)), (0, x1), (15, (p2 : Int)), (0, x3)] [] M (Kd P) := by
  refine A_iload_n (i := 3) (f := 3) rfl (by decide +kernel) rfl ?_
  refine A_bipush (a := 8) (by decide +kernel) (by unfold in32; omega) (by decide +kernel) ?_
  refine A_ic_ge (off := 27) (tgt := 32) (by decide +kernel) (by omega) (fun b1 => ?_) (fun b1 => ?_)
  · have h2 := h.1 b1
    exact A_ret ⟨by decide +kernel, rfl⟩ ⟨rfl, h2⟩
  · have h3 := h.2 (Int.not_le.mp b1)
    refine A_aload_n (i := 0) (f := 0) (by omega) rfl (by decide +kernel) rfl ?_
    refine B_getr (o' := ((53 : Nat) : Int)) (q := (RX1, TX1, 9)) (ci := 1) (j := 0) (by decide +kernel) rfl (by decide) rfl (by omega) fl_1_11 rfl ?_
    refine A_iload_n (i := 1) (f := 1) rfl (by decide +kernel) rfl ?_
    refine A_bipush (a := 8) (by decide +kernel) (by unfold in32; omega) (by decide +kernel) ?_
    refine A_imul (by decide +kernel) ?_
    refine A_iload_n (i := 3) (f := 3) rfl (by decide +kernel) rfl ?_
    refine A_iadd (by decide +kernel) ?_
    refine A_aload_n (i := 2) (f := 2) (by omega) rfl (by decide +kernel) rfl ?_
    refine A_iload_n (i := 3) (f := 3) rfl (by decide +kernel) rfl ?_
    refine A_cVi (q := (RX5, TX5, 5)) (ci := 5) (o := (p2 : Int)) (args := [(0, x3)]) (st := [(0, (w32 ((w32 (x1 * 8)) + x3))), (30, ((53 : Nat) : Int))]) (by decide +kernel) cv_m5_belowOf rfl rfl in_m5_belowOf se_m5_belowOf lk_1_31 rfl (by omega) (Nat.le_of_ble_eq_true rfl) h3 (fun r4 M5 _ h6 => ?_)
    refine A_cSNd (args := [(30, ((53 : Nat) : Int)), (0, (w32 ((w32 (x1 * 8)) + x3))), (0, r4)]) (st := []) (by decide +kernel) cv_m10_put st_m10_put lk_1_37 rfl (by omega) (Nat.le_of_ble_eq_true rfl) h6 (fun M8 h9 => ?_)
    refine A_iinc (i := 3) (n := 1) (by decide +kernel) (by decide) rfl (fun w h0 hw => by simp at hw; first | (rw [← hw]; decide) | (rw [← hw]; simp)) ?_
    refine A_goto (off := (-27)) (tgt := 2) (by decide +kernel) (by omega) ?_
    exact A_weak (lsub.keep (lsub.keep (lsub.keep (lsub.keep lsub.nil)))) h9
theorem q_1_search {x2 : Int} {x3 : Int} {x4 : Int} {M : Mem} {P : Int → Mem → Prop} (h : A m1_search 7 0 18 [(11, ((52 : Nat) : Int)), (10, ((21 : Nat) : Int)), (2, 0), (0, x3), (0, x4), (0, 0)] [] (mset (mset (mset M 52 9 x2) 52 6 0) 52 7 (-1)) (Ki P)) : CI m1_search 7 [(11, ((52 : Nat) : Int)), (10, ((21 : Nat) : Int)), (0, x2), (0, x3), (0, x4)] M P := by
  refine CI_of (by decide +kernel) (Nat.le_of_ble_eq_true rfl) ?_
  show A m1_search 7 0 0 [(11, ((52 : Nat) : Int)), (10, ((21 : Nat) : Int)), (0, x2), (0, x3), (0, x4), (2, 0)] [] M (Ki P)
  refine A_aload_n (i := 0) (f := 0) (by omega) rfl (by decide +kernel) rfl ?_
  refine A_iload_n (i := 2) (f := 2) rfl (by decide +kernel) rfl ?_
  refine B_putp (M' := (mset M 52 9 x2)) (q := (RX1, TX1, 9)) (ci := 1) (j := 8) (p := 9) (by decide +kernel) rfl (by decide) rfl (Or.inl ⟨rfl, rfl⟩) rfl fl_1_41 rfl ?_
  refine A_aload_n (i := 0) (f := 0) (by omega) rfl (by decide +kernel) rfl ?_
  refine A_iconst (a := 0) (by decide +kernel) (by unfold in32; omega) ?_
  refine B_putp (M' := (mset (mset M 52 9 x2) 52 6 0)) (q := (RX1, TX1, 9)) (ci := 1) (j := 6) (p := 6) (by decide +kernel) rfl (by decide) rfl (Or.inl ⟨rfl, rfl⟩) rfl fl_1_45 rfl ?_
  refine A_aload_n (i := 0) (f := 0) (by omega) rfl (by decide +kernel) rfl ?_
  refine A_iconst (a := (-1)) (by decide +kernel) (by unfold in32; omega) ?_
  refine B_putp (M' := (mset (mset (mset M 52 9 x2) 52 6 0) 52 7 (-1))) (q := (RX1, TX1, 9)) (ci := 1) (j := 7) (p := 7) (by decide +kernel) rfl (by decide) rfl (Or.inl ⟨rfl, rfl⟩) rfl fl_1_48 rfl ?_
  refine A_iconst (a := 0) (by decide +kernel) (by unfold in32; omega) ?_
  refine A_istore (i := 5) (by decide +kernel) (by decide) (fun w h0 hw => by simp at hw; first | (rw [← hw]; decide) | (rw [← hw]; simp)) ?_
  exact A_weak (lsub.keep (lsub.keep (lsub.drop (lsub.keep (lsub.keep (lsub.keep lsub.nil)))))) h
theorem r_1_search_18 {x3 : Int} {x4 : Int} {x5 : Int} {M : Mem} {P : Int → Mem → Prop} (h : ((480 ≤ x5 → (CI m1_firstState 1 [(0, x4)] M (fun r4 M5 => (CD m1_add 3 [(11, ((52 : Nat) : Int)), (0, r4), (0, (-1)), (0, (-1))] M5 (fun M8 => A m1_search 7 0 56 [(11, ((52 : Nat) : Int)), (10, ((21 : Nat) : Int)), (2, 0), (0, x3), (2, 0), (0, 0)] [] M8 (Ki P)))))) ∧ (x5 < 480 → ((0 ≤ x5 ∧ x5 < 480) ∧ A m1_search 7 0 18 [(11, ((52 : Nat) : Int)), (10, ((21 : Nat) : Int)), (2, 0), (0, x3), (0, x4), (0, (w32 (x5 + 1)))] [] (mset M 57 (x5).toNat 0) (Ki P))))) : A m1_search 7 0 18 [(11, ((52 : Nat) : Int)), (10, ((21 : Nat) : Int)), (2, 0), (0, x3), (0, x4), (0, x5)] [] M (Ki P) := by
  refine A_iload (i := 5) (by decide +kernel) rfl ?_
  refine A_aload_n (i := 0) (f := 0) (by omega) rfl (by decide +kernel) rfl ?_
  refine B_getr (o' := ((57 : Nat) : Int)) (q := (RX1, TX1, 9)) (ci := 1) (j := 4) (by decide +kernel) rfl (by decide) rfl (by omega) fl_1_24 rfl ?_
  refine B_alen (v := 480) (by decide +kernel) (by decide) rfl ?_
  refine A_ic_ge (off := 17) (tgt := 42) (by decide +kernel) (by omega) (fun b1 => ?_) (fun b1 => ?_)
  · have h2 := h.1 b1
    refine A_aload_n (i := 0) (f := 0) (by omega) rfl (by decide +kernel) rfl ?_
    refine A_iload (i := 4) (by decide +kernel) rfl ?_
    refine A_cSi (args := [(0, x4)]) (st := [(11, ((52 : Nat) : Int))]) (by decide +kernel) cv_m1_firstState st_m1_firstState lk_1_51 rfl (by omega) (Nat.le_of_ble_eq_true rfl) h2 (fun r4 M5 _ h6 => ?_)
    refine A_iconst (a := (-1)) (by decide +kernel) (by unfold in32; omega) ?_
    refine A_iconst (a := (-1)) (by decide +kernel) (by unfold in32; omega) ?_
    refine A_cVd (q := (RX1, TX1, 9)) (ci := 1) (o := ((52 : Nat) : Int)) (args := [(0, r4), (0, (-1)), (0, (-1))]) (st := []) (by decide +kernel) cv_m1_add rfl rfl in_m1_add se_m1_add lk_1_54 rfl (by omega) (Nat.le_of_ble_eq_true rfl) h6 (fun M8 h9 => ?_)
    refine A_iconst (a := 0) (by decide +kernel) (by unfold in32; omega) ?_
    refine A_istore (i := 5) (by decide +kernel) (by decide) (fun w h0 hw => by simp at hw; first | (rw [← hw]; decide) | (rw [← hw]; simp)) ?_
    exact A_weak (lsub.keep (lsub.keep (lsub.drop (lsub.keep (lsub.drop (lsub.keep lsub.nil)))))) h9
  · have h3 := h.2 (Int.not_le.mp b1)
    refine A_aload_n (i := 0) (f := 0) (by omega) rfl (by decide +kernel) rfl ?_
    refine B_getr (o' := ((57 : Nat) : Int)) (q := (RX1, TX1, 9)) (ci := 1) (j := 4) (by decide +kernel) rfl (by decide) rfl (by omega) fl_1_24 rfl ?_
    refine A_iload (i := 5) (by decide +kernel) rfl ?_
    refine A_iconst (a := 0) (by decide +kernel) (by unfold in32; omega) ?_
    refine B_zast (M' := (mset M 57 (x5).toNat 0)) (by decide +kernel) h3.1 (by decide) rfl ?_
    have h10 := h3.2
    refine A_iinc (i := 5) (n := 1) (by decide +kernel) (by decide) rfl (fun w h0 hw => by simp at hw; first | (rw [← hw]; decide) | (rw [← hw]; simp)) ?_
    refine A_goto (off := (-21)) (tgt := 18) (by decide +kernel) (by omega) ?_
    exact A_weak (lsub.keep (lsub.keep (lsub.drop (lsub.keep (lsub.keep (lsub.keep lsub.nil)))))) h10
theorem r_1_search_56 {x3 : Int} {x5 : Int} {M : Mem} {P : Int → Mem → Prop} (h : (((M 52 6) ≤ x5 → (((M 52 7) ≠ (-1) → (CI m1_countSteps 2 [(11, ((52 : Nat) : Int))] M (fun r7 M8 => (P r7 M8)))) ∧ ((M 52 7) = (-1) → (P (-1) M)))) ∧ (x5 < (M 52 6) → ((480 ≤ x5 → (((M 52 7) ≠ (-1) → (CI m1_countSteps 2 [(11, ((52 : Nat) : Int))] M (fun r16 M17 => (P r16 M17)))) ∧ ((M 52 7) = (-1) → (P (-1) M)))) ∧ (x5 < 480 → (((M 52 7) ≠ (-1) → (((M 52 7) ≠ (-1) → (CI m1_countSteps 2 [(11, ((52 : Nat) : Int))] M (fun r25 M26 => (P r25 M26)))) ∧ ((M 52 7) = (-1) → (P (-1) M)))) ∧ ((M 52 7) = (-1) → (CI m10_at 1 [(30, ((54 : Nat) : Int)), (0, x5)] M (fun r28 M29 => (CI m1_isAbove 2 [(11, ((52 : Nat) : Int)), (0, r28), (0, (M29 52 9)), (0, x3)] M29 (fun r31 M32 => ((r31 = 0 → (CD m1_spread 6 [(11, ((52 : Nat) : Int)), (10, ((21 : Nat) : Int)), (0, x5)] M32 (fun M38 => A m1_search 7 0 56 [(11, ((52 : Nat) : Int)), (10, ((21 : Nat) : Int)), (2, 0), (0, x3), (2, 0), (0, (w32 (x5 + 1)))] [] M38 (Ki P)))) ∧ (r31 ≠ 0 → A m1_search 7 0 56 [(11, ((52 : Nat) : Int)), (10, ((21 : Nat) : Int)), (2, 0), (0, x3), (2, 0), (0, (w32 (x5 + 1)))] [] (mset M32 52 7 x5) (Ki P)))))))))))))) : A m1_search 7 0 56 [(11, ((52 : Nat) : Int)), (10, ((21 : Nat) : Int)), (2, 0), (0, x3), (2, 0), (0, x5)] [] M (Ki P) := by
  refine A_iload (i := 5) (by decide +kernel) rfl ?_
  refine A_aload_n (i := 0) (f := 0) (by omega) rfl (by decide +kernel) rfl ?_
  refine B_getp (v := (M 52 6)) (q := (RX1, TX1, 9)) (ci := 1) (j := 6) (p := 6) (by decide +kernel) rfl (by decide) rfl (Or.inl rfl) fl_1_45 rfl ?_
  refine A_ic_ge (off := 62) (tgt := 124) (by decide +kernel) (by omega) (fun b1 => ?_) (fun b1 => ?_)
  · have h2 := h.1 b1
    refine A_aload_n (i := 0) (f := 0) (by omega) rfl (by decide +kernel) rfl ?_
    refine B_getp (v := (M 52 7)) (q := (RX1, TX1, 9)) (ci := 1) (j := 7) (p := 7) (by decide +kernel) rfl (by decide) rfl (Or.inl rfl) fl_1_48 rfl ?_
    refine A_iconst (a := (-1)) (by decide +kernel) (by unfold in32; omega) ?_
    refine A_ic_ne (off := 7) (tgt := 136) (by decide +kernel) (by omega) (fun b4 => ?_) (fun b4 => ?_)
    · have h5 := h2.1 b4
      refine A_aload_n (i := 0) (f := 0) (by omega) rfl (by decide +kernel) rfl ?_
      refine A_cVi (q := (RX1, TX1, 9)) (ci := 1) (o := ((52 : Nat) : Int)) (args := []) (st := []) (by decide +kernel) cv_m1_countSteps rfl rfl in_m1_countSteps se_m1_countSteps lk_1_70 rfl (by omega) (Nat.le_of_ble_eq_true rfl) h5 (fun r7 M8 _ h9 => ?_)
      exact A_ret ⟨by decide +kernel, Or.inl rfl⟩ ⟨_, rfl, h9⟩
    · have h6 := h2.2 (Decidable.not_not.mp b4)
      refine A_iconst (a := (-1)) (by decide +kernel) (by unfold in32; omega) ?_
      refine A_goto (off := 7) (tgt := 140) (by decide +kernel) (by omega) ?_
      exact A_ret ⟨by decide +kernel, Or.inl rfl⟩ ⟨_, rfl, h6⟩
  · have h3 := h.2 (Int.not_le.mp b1)
    refine A_iload (i := 5) (by decide +kernel) rfl ?_
    refine A_sipush (a := 480) (by decide +kernel) (by unfold in32; omega) (by decide +kernel) ?_
    refine A_ic_ge (off := 54) (tgt := 124) (by decide +kernel) (by omega) (fun b10 => ?_) (fun b10 => ?_)
    · have h11 := h3.1 b10
      refine A_aload_n (i := 0) (f := 0) (by omega) rfl (by decide +kernel) rfl ?_
      refine B_getp (v := (M 52 7)) (q := (RX1, TX1, 9)) (ci := 1) (j := 7) (p := 7) (by decide +kernel) rfl (by decide) rfl (Or.inl rfl) fl_1_48 rfl ?_
      refine A_iconst (a := (-1)) (by decide +kernel) (by unfold in32; omega) ?_
      refine A_ic_ne (off := 7) (tgt := 136) (by decide +kernel) (by omega) (fun b13 => ?_) (fun b13 => ?_)
      · have h14 := h11.1 b13
        refine A_aload_n (i := 0) (f := 0) (by omega) rfl (by decide +kernel) rfl ?_
        refine A_cVi (q := (RX1, TX1, 9)) (ci := 1) (o := ((52 : Nat) : Int)) (args := []) (st := []) (by decide +kernel) cv_m1_countSteps rfl rfl in_m1_countSteps se_m1_countSteps lk_1_70 rfl (by omega) (Nat.le_of_ble_eq_true rfl) h14 (fun r16 M17 _ h18 => ?_)
        exact A_ret ⟨by decide +kernel, Or.inl rfl⟩ ⟨_, rfl, h18⟩
      · have h15 := h11.2 (Decidable.not_not.mp b13)
        refine A_iconst (a := (-1)) (by decide +kernel) (by unfold in32; omega) ?_
        refine A_goto (off := 7) (tgt := 140) (by decide +kernel) (by omega) ?_
        exact A_ret ⟨by decide +kernel, Or.inl rfl⟩ ⟨_, rfl, h15⟩
    · have h12 := h3.2 (Int.not_le.mp b10)
      refine A_aload_n (i := 0) (f := 0) (by omega) rfl (by decide +kernel) rfl ?_
      refine B_getp (v := (M 52 7)) (q := (RX1, TX1, 9)) (ci := 1) (j := 7) (p := 7) (by decide +kernel) rfl (by decide) rfl (Or.inl rfl) fl_1_48 rfl ?_
      refine A_iconst (a := (-1)) (by decide +kernel) (by unfold in32; omega) ?_
      refine A_ic_ne (off := 46) (tgt := 124) (by decide +kernel) (by omega) (fun b19 => ?_) (fun b19 => ?_)
      · have h20 := h12.1 b19
        refine A_aload_n (i := 0) (f := 0) (by omega) rfl (by decide +kernel) rfl ?_
        refine B_getp (v := (M 52 7)) (q := (RX1, TX1, 9)) (ci := 1) (j := 7) (p := 7) (by decide +kernel) rfl (by decide) rfl (Or.inl rfl) fl_1_48 rfl ?_
        refine A_iconst (a := (-1)) (by decide +kernel) (by unfold in32; omega) ?_
        refine A_ic_ne (off := 7) (tgt := 136) (by decide +kernel) (by omega) (fun b22 => ?_) (fun b22 => ?_)
        · have h23 := h20.1 b22
          refine A_aload_n (i := 0) (f := 0) (by omega) rfl (by decide +kernel) rfl ?_
          refine A_cVi (q := (RX1, TX1, 9)) (ci := 1) (o := ((52 : Nat) : Int)) (args := []) (st := []) (by decide +kernel) cv_m1_countSteps rfl rfl in_m1_countSteps se_m1_countSteps lk_1_70 rfl (by omega) (Nat.le_of_ble_eq_true rfl) h23 (fun r25 M26 _ h27 => ?_)
          exact A_ret ⟨by decide +kernel, Or.inl rfl⟩ ⟨_, rfl, h27⟩
        · have h24 := h20.2 (Decidable.not_not.mp b22)
          refine A_iconst (a := (-1)) (by decide +kernel) (by unfold in32; omega) ?_
          refine A_goto (off := 7) (tgt := 140) (by decide +kernel) (by omega) ?_
          exact A_ret ⟨by decide +kernel, Or.inl rfl⟩ ⟨_, rfl, h24⟩
      · have h21 := h12.2 (Decidable.not_not.mp b19)
        refine A_aload_n (i := 0) (f := 0) (by omega) rfl (by decide +kernel) rfl ?_
        refine A_aload_n (i := 0) (f := 0) (by omega) rfl (by decide +kernel) rfl ?_
        refine B_getr (o' := ((54 : Nat) : Int)) (q := (RX1, TX1, 9)) (ci := 1) (j := 1) (by decide +kernel) rfl (by decide) rfl (by omega) fl_1_15 rfl ?_
        refine A_iload (i := 5) (by decide +kernel) rfl ?_
        refine A_cSNi (args := [(30, ((54 : Nat) : Int)), (0, x5)]) (st := [(11, ((52 : Nat) : Int))]) (by decide +kernel) cv_m10_at st_m10_at lk_1_58 rfl (by omega) (Nat.le_of_ble_eq_true rfl) h21 (fun r28 M29 _ h30 => ?_)
        refine A_aload_n (i := 0) (f := 0) (by omega) rfl (by decide +kernel) rfl ?_
        refine B_getp (v := (M29 52 9)) (q := (RX1, TX1, 9)) (ci := 1) (j := 8) (p := 9) (by decide +kernel) rfl (by decide) rfl (Or.inl rfl) fl_1_41 rfl ?_
        refine A_iload_n (i := 3) (f := 3) rfl (by decide +kernel) rfl ?_
        refine A_cVi (q := (RX1, TX1, 9)) (ci := 1) (o := ((52 : Nat) : Int)) (args := [(0, r28), (0, (M29 52 9)), (0, x3)]) (st := []) (by decide +kernel) cv_m1_isAbove rfl rfl in_m1_isAbove se_m1_isAbove lk_1_62 rfl (by omega) (Nat.le_of_ble_eq_true rfl) h30 (fun r31 M32 _ h33 => ?_)
        refine A_if_eq (off := 12) (tgt := 111) (by decide +kernel) (by omega) (fun b34 => ?_) (fun b34 => ?_)
        · have h35 := h33.1 b34
          refine A_aload_n (i := 0) (f := 0) (by omega) rfl (by decide +kernel) rfl ?_
          refine A_aload_n (i := 1) (f := 1) (by omega) rfl (by decide +kernel) rfl ?_
          refine A_iload (i := 5) (by decide +kernel) rfl ?_
          refine A_cVd (q := (RX1, TX1, 9)) (ci := 1) (o := ((52 : Nat) : Int)) (args := [(10, ((21 : Nat) : Int)), (0, x5)]) (st := []) (by decide +kernel) cv_m1_spread rfl rfl in_m1_spread se_m1_spread lk_1_66 rfl (by omega) (Nat.le_of_ble_eq_true rfl) h35 (fun M38 h39 => ?_)
          refine A_iinc (i := 5) (n := 1) (by decide +kernel) (by decide) rfl (fun w h0 hw => by simp at hw; first | (rw [← hw]; decide) | (rw [← hw]; simp)) ?_
          refine A_goto (off := (-65)) (tgt := 56) (by decide +kernel) (by omega) ?_
          exact A_weak (lsub.keep (lsub.keep (lsub.drop (lsub.keep (lsub.drop (lsub.keep lsub.nil)))))) h39
        · have h36 := h33.2 b34
          refine A_aload_n (i := 0) (f := 0) (by omega) rfl (by decide +kernel) rfl ?_
          refine A_iload (i := 5) (by decide +kernel) rfl ?_
          refine B_putp (M' := (mset M32 52 7 x5)) (q := (RX1, TX1, 9)) (ci := 1) (j := 7) (p := 7) (by decide +kernel) rfl (by decide) rfl (Or.inl ⟨rfl, rfl⟩) rfl fl_1_48 rfl ?_
          refine A_goto (off := 10) (tgt := 118) (by decide +kernel) (by omega) ?_
          refine A_iinc (i := 5) (n := 1) (by decide +kernel) (by decide) rfl (fun w h0 hw => by simp at hw; first | (rw [← hw]; decide) | (rw [← hw]; simp)) ?_
          refine A_goto (off := (-65)) (tgt := 56) (by decide +kernel) (by omega) ?_
          exact A_weak (lsub.keep (lsub.keep (lsub.drop (lsub.keep (lsub.drop (lsub.keep lsub.nil)))))) h36
theorem q_1_firstState {x0 : Int} {M : Mem} {P : Int → Mem → Prop} (h : A m1_firstState 1 0 7 [(2, 0), (0, (ishl x0 15)), (0, 0)] [] M (Ki P)) : CI m1_firstState 1 [(0, x0)] M P := by
  refine CI_of (by decide +kernel) (Nat.le_of_ble_eq_true rfl) ?_
  show A m1_firstState 1 0 0 [(0, x0), (2, 0), (2, 0)] [] M (Ki P)
  refine A_iload_n (i := 0) (f := 0) rfl (by decide +kernel) rfl ?_
  refine A_bipush (a := 15) (by decide +kernel) (by unfold in32; omega) (by decide +kernel) ?_
  refine A_ishl (by decide +kernel) ?_
  refine A_istore_n (i := 1) (f := 1) rfl (by decide +kernel) (by decide) (fun w h0 hw => by simp at hw; first | (rw [← hw]; decide) | (rw [← hw]; simp)) ?_
  refine A_iconst (a := 0) (by decide +kernel) (by unfold in32; omega) ?_
  refine A_istore_n (i := 2) (f := 2) rfl (by decide +kernel) (by decide) (fun w h0 hw => by simp at hw; first | (rw [← hw]; decide) | (rw [← hw]; simp)) ?_
  exact A_weak (lsub.drop (lsub.keep (lsub.keep lsub.nil))) h
theorem r_1_firstState_7 {x1 : Int} {x2 : Int} {M : Mem} {P : Int → Mem → Prop} (h : ((5 ≤ x2 → (P x1 M)) ∧ (x2 < 5 → A m1_firstState 1 0 7 [(2, 0), (0, (ior x1 (ishl x2 (w32 (3 * x2))))), (0, (w32 (x2 + 1)))] [] M (Ki P)))) : A m1_firstState 1 0 7 [(2, 0), (0, x1), (0, x2)] [] M (Ki P) := by
  refine A_iload_n (i := 2) (f := 2) rfl (by decide +kernel) rfl ?_
  refine A_iconst (a := 5) (by decide +kernel) (by unfold in32; omega) ?_
  refine A_ic_ge (off := 17) (tgt := 26) (by decide +kernel) (by omega) (fun b1 => ?_) (fun b1 => ?_)
  · have h2 := h.1 b1
    refine A_iload_n (i := 1) (f := 1) rfl (by decide +kernel) rfl ?_
    exact A_ret ⟨by decide +kernel, Or.inl rfl⟩ ⟨_, rfl, h2⟩
  · have h3 := h.2 (Int.not_le.mp b1)
    refine A_iload_n (i := 1) (f := 1) rfl (by decide +kernel) rfl ?_
    refine A_iload_n (i := 2) (f := 2) rfl (by decide +kernel) rfl ?_
    refine A_iconst (a := 3) (by decide +kernel) (by unfold in32; omega) ?_
    refine A_iload_n (i := 2) (f := 2) rfl (by decide +kernel) rfl ?_
    refine A_imul (by decide +kernel) ?_
    refine A_ishl (by decide +kernel) ?_
    refine A_ior (by decide +kernel) ?_
    refine A_istore_n (i := 1) (f := 1) rfl (by decide +kernel) (by decide) (fun w h0 hw => by simp at hw; first | (rw [← hw]; decide) | (rw [← hw]; simp)) ?_
    refine A_iinc (i := 2) (n := 1) (by decide +kernel) (by decide) rfl (fun w h0 hw => by simp at hw; first | (rw [← hw]; decide) | (rw [← hw]; simp)) ?_
    refine A_goto (off := (-16)) (tgt := 7) (by decide +kernel) (by omega) ?_
    exact A_weak (lsub.drop (lsub.keep (lsub.keep lsub.nil))) h3
theorem q_1_spread {x2 : Int} {M : Mem} {P : Mem → Prop} (h : (CI m10_at 1 [(30, ((54 : Nat) : Int)), (0, x2)] M (fun r1 M2 => A m1_spread 6 0 12 [(11, ((52 : Nat) : Int)), (10, ((21 : Nat) : Int)), (0, x2), (0, r1), (0, 0)] [] M2 (Kd P)))) : CD m1_spread 6 [(11, ((52 : Nat) : Int)), (10, ((21 : Nat) : Int)), (0, x2)] M P := by
  refine CD_of (by decide +kernel) (Nat.le_of_ble_eq_true rfl) ?_
  show A m1_spread 6 0 0 [(11, ((52 : Nat) : Int)), (10, ((21 : Nat) : Int)), (0, x2), (2, 0), (2, 0)] [] M (Kd P)
  refine A_aload_n (i := 0) (f := 0) (by omega) rfl (by decide +kernel) rfl ?_
  refine B_getr (o' := ((54 : Nat) : Int)) (q := (RX1, TX1, 9)) (ci := 1) (j := 1) (by decide +kernel) rfl (by decide) rfl (by omega) fl_1_15 rfl ?_
  refine A_iload_n (i := 2) (f := 2) rfl (by decide +kernel) rfl ?_
  refine A_cSNi (args := [(30, ((54 : Nat) : Int)), (0, x2)]) (st := []) (by decide +kernel) cv_m10_at st_m10_at lk_1_58 rfl (by omega) (Nat.le_of_ble_eq_true rfl) h (fun r1 M2 _ h3 => ?_)
  refine A_istore_n (i := 3) (f := 3) rfl (by decide +kernel) (by decide) (fun w h0 hw => by simp at hw; first | (rw [← hw]; decide) | (rw [← hw]; simp)) ?_
  refine A_iconst (a := 0) (by decide +kernel) (by unfold in32; omega) ?_
  refine A_istore (i := 4) (by decide +kernel) (by decide) (fun w h0 hw => by simp at hw; first | (rw [← hw]; decide) | (rw [← hw]; simp)) ?_
  exact A_weak (lsub.keep (lsub.keep (lsub.keep (lsub.keep (lsub.keep lsub.nil))))) h3
theorem r_1_spread_12 {x2 : Int} {x3 : Int} {x4 : Int} {M : Mem} {P : Mem → Prop} (h : (((M 21 2) ≤ x4 → (P M)) ∧ (x4 < (M 21 2) → ((x4 = (M 52 9) → A m1_spread 6 0 12 [(11, ((52 : Nat) : Int)), (10, ((21 : Nat) : Int)), (0, x2), (0, x3), (0, (w32 (x4 + 1)))] [] M (Kd P)) ∧ (x4 ≠ (M 52 9) → (CI m1_mayChange 5 [(11, ((52 : Nat) : Int)), (10, ((21 : Nat) : Int)), (0, x3), (0, x4)] M (fun r7 M8 => ((r7 = 0 → A m1_spread 6 0 12 [(11, ((52 : Nat) : Int)), (10, ((21 : Nat) : Int)), (0, x2), (0, x3), (0, (w32 (x4 + 1)))] [] M8 (Kd P)) ∧ (r7 ≠ 0 → (CI m1_changed 2 [(11, ((52 : Nat) : Int)), (0, x3), (0, x4)] M8 (fun r13 M14 => (CD m1_add 3 [(11, ((52 : Nat) : Int)), (0, r13), (0, x2), (0, x4)] M14 (fun M17 => A m1_spread 6 0 12 [(11, ((52 : Nat) : Int)), (10, ((21 : Nat) : Int)), (0, x2), (0, x3), (0, (w32 (x4 + 1)))] [] M17 (Kd P)))))))))))))) : A m1_spread 6 0 12 [(11, ((52 : Nat) : Int)), (10, ((21 : Nat) : Int)), (0, x2), (0, x3), (0, x4)] [] M (Kd P) := by
  refine A_iload (i := 4) (by decide +kernel) rfl ?_
  refine A_aload_n (i := 1) (f := 1) (by omega) rfl (by decide +kernel) rfl ?_
  refine B_getp (v := (M 21 2)) (q := (RX0, TX0, 9)) (ci := 0) (j := 2) (p := 2) (by decide +kernel) rfl (by decide) rfl (Or.inl rfl) fl_1_74 rfl ?_
  refine A_ic_ge (off := 43) (tgt := 61) (by decide +kernel) (by omega) (fun b1 => ?_) (fun b1 => ?_)
  · have h2 := h.1 b1
    exact A_ret ⟨by decide +kernel, rfl⟩ ⟨rfl, h2⟩
  · have h3 := h.2 (Int.not_le.mp b1)
    refine A_iload (i := 4) (by decide +kernel) rfl ?_
    refine A_aload_n (i := 0) (f := 0) (by omega) rfl (by decide +kernel) rfl ?_
    refine B_getp (v := (M 52 9)) (q := (RX1, TX1, 9)) (ci := 1) (j := 8) (p := 9) (by decide +kernel) rfl (by decide) rfl (Or.inl rfl) fl_1_41 rfl ?_
    refine A_ic_eq (off := 28) (tgt := 55) (by decide +kernel) (by omega) (fun b4 => ?_) (fun b4 => ?_)
    · have h5 := h3.1 b4
      refine A_iinc (i := 4) (n := 1) (by decide +kernel) (by decide) rfl (fun w h0 hw => by simp at hw; first | (rw [← hw]; decide) | (rw [← hw]; simp)) ?_
      refine A_goto (off := (-46)) (tgt := 12) (by decide +kernel) (by omega) ?_
      exact A_weak (lsub.keep (lsub.keep (lsub.keep (lsub.keep (lsub.keep lsub.nil))))) h5
    · have h6 := h3.2 b4
      refine A_aload_n (i := 0) (f := 0) (by omega) rfl (by decide +kernel) rfl ?_
      refine A_aload_n (i := 1) (f := 1) (by omega) rfl (by decide +kernel) rfl ?_
      refine A_iload_n (i := 3) (f := 3) rfl (by decide +kernel) rfl ?_
      refine A_iload (i := 4) (by decide +kernel) rfl ?_
      refine A_cVi (q := (RX1, TX1, 9)) (ci := 1) (o := ((52 : Nat) : Int)) (args := [(10, ((21 : Nat) : Int)), (0, x3), (0, x4)]) (st := []) (by decide +kernel) cv_m1_mayChange rfl rfl in_m1_mayChange se_m1_mayChange lk_1_79 rfl (by omega) (Nat.le_of_ble_eq_true rfl) h6 (fun r7 M8 _ h9 => ?_)
      refine A_if_eq (off := 17) (tgt := 55) (by decide +kernel) (by omega) (fun b10 => ?_) (fun b10 => ?_)
      · have h11 := h9.1 b10
        refine A_iinc (i := 4) (n := 1) (by decide +kernel) (by decide) rfl (fun w h0 hw => by simp at hw; first | (rw [← hw]; decide) | (rw [← hw]; simp)) ?_
        refine A_goto (off := (-46)) (tgt := 12) (by decide +kernel) (by omega) ?_
        exact A_weak (lsub.keep (lsub.keep (lsub.keep (lsub.keep (lsub.keep lsub.nil))))) h11
      · have h12 := h9.2 b10
        refine A_aload_n (i := 0) (f := 0) (by omega) rfl (by decide +kernel) rfl ?_
        refine A_aload_n (i := 0) (f := 0) (by omega) rfl (by decide +kernel) rfl ?_
        refine A_iload_n (i := 3) (f := 3) rfl (by decide +kernel) rfl ?_
        refine A_iload (i := 4) (by decide +kernel) rfl ?_
        refine A_cVi (q := (RX1, TX1, 9)) (ci := 1) (o := ((52 : Nat) : Int)) (args := [(0, x3), (0, x4)]) (st := [(11, ((52 : Nat) : Int))]) (by decide +kernel) cv_m1_changed rfl rfl in_m1_changed se_m1_changed lk_1_83 rfl (by omega) (Nat.le_of_ble_eq_true rfl) h12 (fun r13 M14 _ h15 => ?_)
        refine A_iload_n (i := 2) (f := 2) rfl (by decide +kernel) rfl ?_
        refine A_iload (i := 4) (by decide +kernel) rfl ?_
        refine A_cVd (q := (RX1, TX1, 9)) (ci := 1) (o := ((52 : Nat) : Int)) (args := [(0, r13), (0, x2), (0, x4)]) (st := []) (by decide +kernel) cv_m1_add rfl rfl in_m1_add se_m1_add lk_1_54 rfl (by omega) (Nat.le_of_ble_eq_true rfl) h15 (fun M17 h18 => ?_)
        refine A_iinc (i := 4) (n := 1) (by decide +kernel) (by decide) rfl (fun w h0 hw => by simp at hw; first | (rw [← hw]; decide) | (rw [← hw]; simp)) ?_
        refine A_goto (off := (-46)) (tgt := 12) (by decide +kernel) (by omega) ?_
        exact A_weak (lsub.keep (lsub.keep (lsub.keep (lsub.keep (lsub.keep lsub.nil))))) h18
theorem q_1_add {x1 : Int} {x2 : Int} {x3 : Int} {M : Mem} {P : Mem → Prop} (h : (CI m1_numberOf 2 [(0, x1)] M (fun r1 M2 => ((r1 < 0 → (P M2)) ∧ (0 ≤ r1 → ((480 ≤ r1 → (P M2)) ∧ (r1 < 480 → ((0 ≤ r1 ∧ r1 < 480) ∧ (((M2 57 (r1).toNat) = 0 → ((0 ≤ r1 ∧ r1 < 480) ∧ (CD m10_put 1 [(30, ((54 : Nat) : Int)), (0, ((mset M2 57 (r1).toNat 1) 52 6)), (0, x1)] (mset M2 57 (r1).toNat 1) (fun M16 => (CD m10_put 1 [(30, ((55 : Nat) : Int)), (0, (M16 52 6)), (0, x2)] M16 (fun M19 => (CD m10_put 1 [(30, ((56 : Nat) : Int)), (0, (M19 52 6)), (0, x3)] M19 (fun M22 => (P (mset M22 52 6 (w32 ((M22 52 6) + 1)))))))))))) ∧ ((M2 57 (r1).toNat) ≠ 0 → (P M2))))))))))) : CD m1_add 3 [(11, ((52 : Nat) : Int)), (0, x1), (0, x2), (0, x3)] M P := by
  refine CD_of (by decide +kernel) (Nat.le_of_ble_eq_true rfl) ?_
  show A m1_add 3 0 0 [(11, ((52 : Nat) : Int)), (0, x1), (0, x2), (0, x3), (2, 0)] [] M (Kd P)
  refine A_iload_n (i := 1) (f := 1) rfl (by decide +kernel) rfl ?_
  refine A_cSi (args := [(0, x1)]) (st := []) (by decide +kernel) cv_m1_numberOf st_m1_numberOf lk_1_87 rfl (by omega) (Nat.le_of_ble_eq_true rfl) h (fun r1 M2 _ h3 => ?_)
  refine A_istore (i := 4) (by decide +kernel) (by decide) (fun w h0 hw => by simp at hw; first | (rw [← hw]; decide) | (rw [← hw]; simp)) ?_
  refine A_iload (i := 4) (by decide +kernel) rfl ?_
  refine A_if_lt (off := 23) (tgt := 31) (by decide +kernel) (by omega) (fun b4 => ?_) (fun b4 => ?_)
  · have h5 := h3.1 b4
    exact A_ret ⟨by decide +kernel, rfl⟩ ⟨rfl, h5⟩
  · have h6 := h3.2 (Int.not_lt.mp b4)
    refine A_iload (i := 4) (by decide +kernel) rfl ?_
    refine A_aload_n (i := 0) (f := 0) (by omega) rfl (by decide +kernel) rfl ?_
    refine B_getr (o' := ((57 : Nat) : Int)) (q := (RX1, TX1, 9)) (ci := 1) (j := 4) (by decide +kernel) rfl (by decide) rfl (by omega) fl_1_24 rfl ?_
    refine B_alen (v := 480) (by decide +kernel) (by decide) rfl ?_
    refine A_ic_ge (off := 13) (tgt := 31) (by decide +kernel) (by omega) (fun b7 => ?_) (fun b7 => ?_)
    · have h8 := h6.1 b7
      exact A_ret ⟨by decide +kernel, rfl⟩ ⟨rfl, h8⟩
    · have h9 := h6.2 (Int.not_le.mp b7)
      refine A_aload_n (i := 0) (f := 0) (by omega) rfl (by decide +kernel) rfl ?_
      refine B_getr (o' := ((57 : Nat) : Int)) (q := (RX1, TX1, 9)) (ci := 1) (j := 4) (by decide +kernel) rfl (by decide) rfl (by omega) fl_1_24 rfl ?_
      refine A_iload (i := 4) (by decide +kernel) rfl ?_
      refine B_zald (v := (M2 57 (r1).toNat)) (by decide +kernel) h9.1 rfl ?_
      have h10 := h9.2
      refine A_if_eq (off := 4) (tgt := 32) (by decide +kernel) (by omega) (fun b11 => ?_) (fun b11 => ?_)
      · have h12 := h10.1 b11
        refine A_aload_n (i := 0) (f := 0) (by omega) rfl (by decide +kernel) rfl ?_
        refine B_getr (o' := ((57 : Nat) : Int)) (q := (RX1, TX1, 9)) (ci := 1) (j := 4) (by decide +kernel) rfl (by decide) rfl (by omega) fl_1_24 rfl ?_
        refine A_iload (i := 4) (by decide +kernel) rfl ?_
        refine A_iconst (a := 1) (by decide +kernel) (by unfold in32; omega) ?_
        refine B_zast (M' := (mset M2 57 (r1).toNat 1)) (by decide +kernel) h12.1 (by decide) rfl ?_
        have h14 := h12.2
        refine A_aload_n (i := 0) (f := 0) (by omega) rfl (by decide +kernel) rfl ?_
        refine B_getr (o' := ((54 : Nat) : Int)) (q := (RX1, TX1, 9)) (ci := 1) (j := 1) (by decide +kernel) rfl (by decide) rfl (by omega) fl_1_15 rfl ?_
        refine A_aload_n (i := 0) (f := 0) (by omega) rfl (by decide +kernel) rfl ?_
        refine B_getp (v := ((mset M2 57 (r1).toNat 1) 52 6)) (q := (RX1, TX1, 9)) (ci := 1) (j := 6) (p := 6) (by decide +kernel) rfl (by decide) rfl (Or.inl rfl) fl_1_45 rfl ?_
        refine A_iload_n (i := 1) (f := 1) rfl (by decide +kernel) rfl ?_
        refine A_cSNd (args := [(30, ((54 : Nat) : Int)), (0, ((mset M2 57 (r1).toNat 1) 52 6)), (0, x1)]) (st := []) (by decide +kernel) cv_m10_put st_m10_put lk_1_37 rfl (by omega) (Nat.le_of_ble_eq_true rfl) h14 (fun M16 h17 => ?_)
        refine A_aload_n (i := 0) (f := 0) (by omega) rfl (by decide +kernel) rfl ?_
        refine B_getr (o' := ((55 : Nat) : Int)) (q := (RX1, TX1, 9)) (ci := 1) (j := 2) (by decide +kernel) rfl (by decide) rfl (by omega) fl_1_18 rfl ?_
        refine A_aload_n (i := 0) (f := 0) (by omega) rfl (by decide +kernel) rfl ?_
        refine B_getp (v := (M16 52 6)) (q := (RX1, TX1, 9)) (ci := 1) (j := 6) (p := 6) (by decide +kernel) rfl (by decide) rfl (Or.inl rfl) fl_1_45 rfl ?_
        refine A_iload_n (i := 2) (f := 2) rfl (by decide +kernel) rfl ?_
        refine A_cSNd (args := [(30, ((55 : Nat) : Int)), (0, (M16 52 6)), (0, x2)]) (st := []) (by decide +kernel) cv_m10_put st_m10_put lk_1_37 rfl (by omega) (Nat.le_of_ble_eq_true rfl) h17 (fun M19 h20 => ?_)
        refine A_aload_n (i := 0) (f := 0) (by omega) rfl (by decide +kernel) rfl ?_
        refine B_getr (o' := ((56 : Nat) : Int)) (q := (RX1, TX1, 9)) (ci := 1) (j := 3) (by decide +kernel) rfl (by decide) rfl (by omega) fl_1_21 rfl ?_
        refine A_aload_n (i := 0) (f := 0) (by omega) rfl (by decide +kernel) rfl ?_
        refine B_getp (v := (M19 52 6)) (q := (RX1, TX1, 9)) (ci := 1) (j := 6) (p := 6) (by decide +kernel) rfl (by decide) rfl (Or.inl rfl) fl_1_45 rfl ?_
        refine A_iload_n (i := 3) (f := 3) rfl (by decide +kernel) rfl ?_
        refine A_cSNd (args := [(30, ((56 : Nat) : Int)), (0, (M19 52 6)), (0, x3)]) (st := []) (by decide +kernel) cv_m10_put st_m10_put lk_1_37 rfl (by omega) (Nat.le_of_ble_eq_true rfl) h20 (fun M22 h23 => ?_)
        refine A_aload_n (i := 0) (f := 0) (by omega) rfl (by decide +kernel) rfl ?_
        refine A_dup (by decide +kernel) (by simp) ?_
        refine B_getp (v := (M22 52 6)) (q := (RX1, TX1, 9)) (ci := 1) (j := 6) (p := 6) (by decide +kernel) rfl (by decide) rfl (Or.inl rfl) fl_1_45 rfl ?_
        refine A_iconst (a := 1) (by decide +kernel) (by unfold in32; omega) ?_
        refine A_iadd (by decide +kernel) ?_
        refine B_putp (M' := (mset M22 52 6 (w32 ((M22 52 6) + 1)))) (q := (RX1, TX1, 9)) (ci := 1) (j := 6) (p := 6) (by decide +kernel) rfl (by decide) rfl (Or.inl ⟨rfl, rfl⟩) rfl fl_1_45 rfl ?_
        exact A_ret ⟨by decide +kernel, rfl⟩ ⟨rfl, h23⟩
      · have h13 := h10.2 b11
        exact A_ret ⟨by decide +kernel, rfl⟩ ⟨rfl, h13⟩
theorem q_1_placeOf {x0 : Int} {x1 : Int} {M : Mem} {P : Int → Mem → Prop} (h : (P (iand (ishr x0 (w32 (3 * x1))) 7) M)) : CI m1_placeOf 1 [(0, x0), (0, x1)] M P := by
  refine CI_of (by decide +kernel) (Nat.le_of_ble_eq_true rfl) ?_
  show A m1_placeOf 1 0 0 [(0, x0), (0, x1)] [] M (Ki P)
  refine A_iload_n (i := 0) (f := 0) rfl (by decide +kernel) rfl ?_
  refine A_iconst (a := 3) (by decide +kernel) (by unfold in32; omega) ?_
  refine A_iload_n (i := 1) (f := 1) rfl (by decide +kernel) rfl ?_
  refine A_imul (by decide +kernel) ?_
  refine A_ishr (by decide +kernel) ?_
  refine A_bipush (a := 7) (by decide +kernel) (by unfold in32; omega) (by decide +kernel) ?_
  refine A_iand (by decide +kernel) ?_
  exact A_ret ⟨by decide +kernel, Or.inl rfl⟩ ⟨_, rfl, h⟩
theorem q_1_seasonOf {x0 : Int} {M : Mem} {P : Int → Mem → Prop} (h : (P (ishr x0 15) M)) : CI m1_seasonOf 1 [(0, x0)] M P := by
  refine CI_of (by decide +kernel) (Nat.le_of_ble_eq_true rfl) ?_
  show A m1_seasonOf 1 0 0 [(0, x0)] [] M (Ki P)
  refine A_iload_n (i := 0) (f := 0) rfl (by decide +kernel) rfl ?_
  refine A_bipush (a := 15) (by decide +kernel) (by unfold in32; omega) (by decide +kernel) ?_
  refine A_ishr (by decide +kernel) ?_
  exact A_ret ⟨by decide +kernel, Or.inl rfl⟩ ⟨_, rfl, h⟩
theorem q_1_numberOf {x0 : Int} {M : Mem} {P : Int → Mem → Prop} (h : (CI m1_seasonOf 1 [(0, x0)] M (fun r1 M2 => A m1_numberOf 2 0 7 [(0, x0), (0, r1), (0, 0), (2, 0), (2, 0)] [] M2 (Ki P)))) : CI m1_numberOf 2 [(0, x0)] M P := by
  refine CI_of (by decide +kernel) (Nat.le_of_ble_eq_true rfl) ?_
  show A m1_numberOf 2 0 0 [(0, x0), (2, 0), (2, 0), (2, 0), (2, 0)] [] M (Ki P)
  refine A_iload_n (i := 0) (f := 0) rfl (by decide +kernel) rfl ?_
  refine A_cSi (args := [(0, x0)]) (st := []) (by decide +kernel) cv_m1_seasonOf st_m1_seasonOf lk_1_90 rfl (by omega) (Nat.le_of_ble_eq_true rfl) h (fun r1 M2 _ h3 => ?_)
  refine A_istore_n (i := 1) (f := 1) rfl (by decide +kernel) (by decide) (fun w h0 hw => by simp at hw; first | (rw [← hw]; decide) | (rw [← hw]; simp)) ?_
  refine A_iconst (a := 0) (by decide +kernel) (by unfold in32; omega) ?_
  refine A_istore_n (i := 2) (f := 2) rfl (by decide +kernel) (by decide) (fun w h0 hw => by simp at hw; first | (rw [← hw]; decide) | (rw [← hw]; simp)) ?_
  exact A_weak (lsub.keep (lsub.keep (lsub.keep (lsub.drop (lsub.drop lsub.nil))))) h3
theorem r_1_numberOf_7 {x0 : Int} {x1 : Int} {x2 : Int} {M : Mem} {P : Int → Mem → Prop} (h : ((5 ≤ x2 → (P x1 M)) ∧ (x2 < 5 → A m1_numberOf 2 0 19 [(0, x0), (0, x1), (0, x2), (0, 0), (0, (w32 (x2 + 1)))] [] M (Ki P)))) : A m1_numberOf 2 0 7 [(0, x0), (0, x1), (0, x2), (2, 0), (2, 0)] [] M (Ki P) := by
  refine A_iload_n (i := 2) (f := 2) rfl (by decide +kernel) rfl ?_
  refine A_iconst (a := 5) (by decide +kernel) (by unfold in32; omega) ?_
  refine A_ic_ge (off := 53) (tgt := 62) (by decide +kernel) (by omega) (fun b1 => ?_) (fun b1 => ?_)
  · have h2 := h.1 b1
    refine A_iload_n (i := 1) (f := 1) rfl (by decide +kernel) rfl ?_
    exact A_ret ⟨by decide +kernel, Or.inl rfl⟩ ⟨_, rfl, h2⟩
  · have h3 := h.2 (Int.not_le.mp b1)
    refine A_iconst (a := 0) (by decide +kernel) (by unfold in32; omega) ?_
    refine A_istore_n (i := 3) (f := 3) rfl (by decide +kernel) (by decide) (fun w h0 hw => by simp at hw; first | (rw [← hw]; decide) | (rw [← hw]; simp)) ?_
    refine A_iload_n (i := 2) (f := 2) rfl (by decide +kernel) rfl ?_
    refine A_iconst (a := 1) (by decide +kernel) (by unfold in32; omega) ?_
    refine A_iadd (by decide +kernel) ?_
    refine A_istore (i := 4) (by decide +kernel) (by decide) (fun w h0 hw => by simp at hw; first | (rw [← hw]; decide) | (rw [← hw]; simp)) ?_
    exact A_weak (lsub.keep (lsub.keep (lsub.keep (lsub.keep (lsub.keep lsub.nil))))) h3
theorem r_1_numberOf_19 {x0 : Int} {x1 : Int} {x2 : Int} {x3 : Int} {x4 : Int} {M : Mem} {P : Int → Mem → Prop} (h : ((5 ≤ x4 → A m1_numberOf 2 0 7 [(0, x0), (0, (w32 ((w32 (x1 * (w32 (5 - x2)))) + x3))), (0, (w32 (x2 + 1))), (2, 0), (2, 0)] [] M (Ki P)) ∧ (x4 < 5 → (CI m1_placeOf 1 [(0, x0), (0, x4)] M (fun r4 M5 => (CI m1_placeOf 1 [(0, x0), (0, x2)] M5 (fun r7 M8 => ((r7 ≤ r4 → A m1_numberOf 2 0 19 [(0, x0), (0, x1), (0, x2), (0, x3), (0, (w32 (x4 + 1)))] [] M8 (Ki P)) ∧ (r4 < r7 → A m1_numberOf 2 0 19 [(0, x0), (0, x1), (0, x2), (0, (w32 (x3 + 1))), (0, (w32 (x4 + 1)))] [] M8 (Ki P)))))))))) : A m1_numberOf 2 0 19 [(0, x0), (0, x1), (0, x2), (0, x3), (0, x4)] [] M (Ki P) := by
  refine A_iload (i := 4) (by decide +kernel) rfl ?_
  refine A_iconst (a := 5) (by decide +kernel) (by unfold in32; omega) ?_
  refine A_ic_ge (off := 26) (tgt := 48) (by decide +kernel) (by omega) (fun b1 => ?_) (fun b1 => ?_)
  · have h2 := h.1 b1
    refine A_iload_n (i := 1) (f := 1) rfl (by decide +kernel) rfl ?_
    refine A_iconst (a := 5) (by decide +kernel) (by unfold in32; omega) ?_
    refine A_iload_n (i := 2) (f := 2) rfl (by decide +kernel) rfl ?_
    refine A_isub (by decide +kernel) ?_
    refine A_imul (by decide +kernel) ?_
    refine A_iload_n (i := 3) (f := 3) rfl (by decide +kernel) rfl ?_
    refine A_iadd (by decide +kernel) ?_
    refine A_istore_n (i := 1) (f := 1) rfl (by decide +kernel) (by decide) (fun w h0 hw => by simp at hw; first | (rw [← hw]; decide) | (rw [← hw]; simp)) ?_
    refine A_iinc (i := 2) (n := 1) (by decide +kernel) (by decide) rfl (fun w h0 hw => by simp at hw; first | (rw [← hw]; decide) | (rw [← hw]; simp)) ?_
    refine A_goto (off := (-52)) (tgt := 7) (by decide +kernel) (by omega) ?_
    exact A_weak (lsub.keep (lsub.keep (lsub.keep (lsub.drop (lsub.drop lsub.nil))))) h2
  · have h3 := h.2 (Int.not_le.mp b1)
    refine A_iload_n (i := 0) (f := 0) rfl (by decide +kernel) rfl ?_
    refine A_iload (i := 4) (by decide +kernel) rfl ?_
    refine A_cSi (args := [(0, x0), (0, x4)]) (st := []) (by decide +kernel) cv_m1_placeOf st_m1_placeOf lk_1_93 rfl (by omega) (Nat.le_of_ble_eq_true rfl) h3 (fun r4 M5 _ h6 => ?_)
    refine A_iload_n (i := 0) (f := 0) rfl (by decide +kernel) rfl ?_
    refine A_iload_n (i := 2) (f := 2) rfl (by decide +kernel) rfl ?_
    refine A_cSi (args := [(0, x0), (0, x2)]) (st := [(0, r4)]) (by decide +kernel) cv_m1_placeOf st_m1_placeOf lk_1_93 rfl (by omega) (Nat.le_of_ble_eq_true rfl) h6 (fun r7 M8 _ h9 => ?_)
    refine A_ic_ge (off := 6) (tgt := 42) (by decide +kernel) (by omega) (fun b10 => ?_) (fun b10 => ?_)
    · have h11 := h9.1 b10
      refine A_iinc (i := 4) (n := 1) (by decide +kernel) (by decide) rfl (fun w h0 hw => by simp at hw; first | (rw [← hw]; decide) | (rw [← hw]; simp)) ?_
      refine A_goto (off := (-26)) (tgt := 19) (by decide +kernel) (by omega) ?_
      exact A_weak (lsub.keep (lsub.keep (lsub.keep (lsub.keep (lsub.keep lsub.nil))))) h11
    · have h12 := h9.2 (Int.not_le.mp b10)
      refine A_iinc (i := 3) (n := 1) (by decide +kernel) (by decide) rfl (fun w h0 hw => by simp at hw; first | (rw [← hw]; decide) | (rw [← hw]; simp)) ?_
      refine A_iinc (i := 4) (n := 1) (by decide +kernel) (by decide) rfl (fun w h0 hw => by simp at hw; first | (rw [← hw]; decide) | (rw [← hw]; simp)) ?_
      refine A_goto (off := (-26)) (tgt := 19) (by decide +kernel) (by omega) ?_
      exact A_weak (lsub.keep (lsub.keep (lsub.keep (lsub.keep (lsub.keep lsub.nil))))) h12
theorem q_1_changed {x1 : Int} {x2 : Int} {M : Mem} {P : Int → Mem → Prop} (h : (CI m1_placeOf 1 [(0, x1), (0, (M 52 9))] M (fun r1 M2 => (CI m1_placeOf 1 [(0, x1), (0, x2)] M2 (fun r4 M5 => (CI m1_seasonOf 1 [(0, x1)] M5 (fun r7 M8 => (P (ior (ixor (iand x1 32767) (ior (ishl (ixor r1 r4) (w32 (3 * (M5 52 9)))) (ishl (ixor r1 r4) (w32 (3 * x2))))) (ishl (w32 (Int.tmod (w32 (r7 + 1)) 4)) 15)) M8)))))))) : CI m1_changed 2 [(11, ((52 : Nat) : Int)), (0, x1), (0, x2)] M P := by
  refine CI_of (by decide +kernel) (Nat.le_of_ble_eq_true rfl) ?_
  show A m1_changed 2 0 0 [(11, ((52 : Nat) : Int)), (0, x1), (0, x2), (2, 0), (2, 0), (2, 0), (2, 0)] [] M (Ki P)
  refine A_iload_n (i := 1) (f := 1) rfl (by decide +kernel) rfl ?_
  refine A_aload_n (i := 0) (f := 0) (by omega) rfl (by decide +kernel) rfl ?_
  refine B_getp (v := (M 52 9)) (q := (RX1, TX1, 9)) (ci := 1) (j := 8) (p := 9) (by decide +kernel) rfl (by decide) rfl (Or.inl rfl) fl_1_41 rfl ?_
  refine A_cSi (args := [(0, x1), (0, (M 52 9))]) (st := []) (by decide +kernel) cv_m1_placeOf st_m1_placeOf lk_1_93 rfl (by omega) (Nat.le_of_ble_eq_true rfl) h (fun r1 M2 _ h3 => ?_)
  refine A_iload_n (i := 1) (f := 1) rfl (by decide +kernel) rfl ?_
  refine A_iload_n (i := 2) (f := 2) rfl (by decide +kernel) rfl ?_
  refine A_cSi (args := [(0, x1), (0, x2)]) (st := [(0, r1)]) (by decide +kernel) cv_m1_placeOf st_m1_placeOf lk_1_93 rfl (by omega) (Nat.le_of_ble_eq_true rfl) h3 (fun r4 M5 _ h6 => ?_)
  refine A_ixor (by decide +kernel) ?_
  refine A_istore_n (i := 3) (f := 3) rfl (by decide +kernel) (by decide) (fun w h0 hw => by simp at hw; first | (rw [← hw]; decide) | (rw [← hw]; simp)) ?_
  refine A_iload_n (i := 3) (f := 3) rfl (by decide +kernel) rfl ?_
  refine A_iconst (a := 3) (by decide +kernel) (by unfold in32; omega) ?_
  refine A_aload_n (i := 0) (f := 0) (by omega) rfl (by decide +kernel) rfl ?_
  refine B_getp (v := (M5 52 9)) (q := (RX1, TX1, 9)) (ci := 1) (j := 8) (p := 9) (by decide +kernel) rfl (by decide) rfl (Or.inl rfl) fl_1_41 rfl ?_
  refine A_imul (by decide +kernel) ?_
  refine A_ishl (by decide +kernel) ?_
  refine A_iload_n (i := 3) (f := 3) rfl (by decide +kernel) rfl ?_
  refine A_iconst (a := 3) (by decide +kernel) (by unfold in32; omega) ?_
  refine A_iload_n (i := 2) (f := 2) rfl (by decide +kernel) rfl ?_
  refine A_imul (by decide +kernel) ?_
  refine A_ishl (by decide +kernel) ?_
  refine A_ior (by decide +kernel) ?_
  refine A_istore (i := 4) (by decide +kernel) (by decide) (fun w h0 hw => by simp at hw; first | (rw [← hw]; decide) | (rw [← hw]; simp)) ?_
  refine A_iload_n (i := 1) (f := 1) rfl (by decide +kernel) rfl ?_
  refine A_sipush (a := 32767) (by decide +kernel) (by unfold in32; omega) (by decide +kernel) ?_
  refine A_iand (by decide +kernel) ?_
  refine A_iload (i := 4) (by decide +kernel) rfl ?_
  refine A_ixor (by decide +kernel) ?_
  refine A_istore (i := 5) (by decide +kernel) (by decide) (fun w h0 hw => by simp at hw; first | (rw [← hw]; decide) | (rw [← hw]; simp)) ?_
  refine A_iload_n (i := 1) (f := 1) rfl (by decide +kernel) rfl ?_
  refine A_cSi (args := [(0, x1)]) (st := []) (by decide +kernel) cv_m1_seasonOf st_m1_seasonOf lk_1_90 rfl (by omega) (Nat.le_of_ble_eq_true rfl) h6 (fun r7 M8 _ h9 => ?_)
  refine A_iconst (a := 1) (by decide +kernel) (by unfold in32; omega) ?_
  refine A_iadd (by decide +kernel) ?_
  refine A_iconst (a := 4) (by decide +kernel) (by unfold in32; omega) ?_
  refine A_irem (by decide +kernel) (by omega) ?_
  refine A_istore (i := 6) (by decide +kernel) (by decide) (fun w h0 hw => by simp at hw; first | (rw [← hw]; decide) | (rw [← hw]; simp)) ?_
  refine A_iload (i := 5) (by decide +kernel) rfl ?_
  refine A_iload (i := 6) (by decide +kernel) rfl ?_
  refine A_bipush (a := 15) (by decide +kernel) (by unfold in32; omega) (by decide +kernel) ?_
  refine A_ishl (by decide +kernel) ?_
  refine A_ior (by decide +kernel) ?_
  exact A_ret ⟨by decide +kernel, Or.inl rfl⟩ ⟨_, rfl, h9⟩
theorem q_1_isAbove {x1 : Int} {x2 : Int} {x3 : Int} {M : Mem} {P : Int → Mem → Prop} (h : (CI m1_seasonOf 1 [(0, x1)] M (fun r1 M2 => (CI m1_placeOf 1 [(0, x1), (0, x2)] M2 (fun r4 M5 => (CI m10_at 1 [(30, ((53 : Nat) : Int)), (0, (w32 ((w32 (r1 * 8)) + r4)))] M5 (fun r7 M8 => (CI m1_placeOf 1 [(0, x1), (0, x3)] M8 (fun r10 M11 => (((iand (ishr r7 r10) 1) ≠ 1 → (P 0 M11)) ∧ ((iand (ishr r7 r10) 1) = 1 → (P 1 M11)))))))))))) : CI m1_isAbove 2 [(11, ((52 : Nat) : Int)), (0, x1), (0, x2), (0, x3)] M P := by
  refine CI_of (by decide +kernel) (Nat.le_of_ble_eq_true rfl) ?_
  show A m1_isAbove 2 0 0 [(11, ((52 : Nat) : Int)), (0, x1), (0, x2), (0, x3), (2, 0)] [] M (Ki P)
  refine A_aload_n (i := 0) (f := 0) (by omega) rfl (by decide +kernel) rfl ?_
  refine B_getr (o' := ((53 : Nat) : Int)) (q := (RX1, TX1, 9)) (ci := 1) (j := 0) (by decide +kernel) rfl (by decide) rfl (by omega) fl_1_11 rfl ?_
  refine A_iload_n (i := 1) (f := 1) rfl (by decide +kernel) rfl ?_
  refine A_cSi (args := [(0, x1)]) (st := [(30, ((53 : Nat) : Int))]) (by decide +kernel) cv_m1_seasonOf st_m1_seasonOf lk_1_90 rfl (by omega) (Nat.le_of_ble_eq_true rfl) h (fun r1 M2 _ h3 => ?_)
  refine A_bipush (a := 8) (by decide +kernel) (by unfold in32; omega) (by decide +kernel) ?_
  refine A_imul (by decide +kernel) ?_
  refine A_iload_n (i := 1) (f := 1) rfl (by decide +kernel) rfl ?_
  refine A_iload_n (i := 2) (f := 2) rfl (by decide +kernel) rfl ?_
  refine A_cSi (args := [(0, x1), (0, x2)]) (st := [(0, (w32 (r1 * 8))), (30, ((53 : Nat) : Int))]) (by decide +kernel) cv_m1_placeOf st_m1_placeOf lk_1_93 rfl (by omega) (Nat.le_of_ble_eq_true rfl) h3 (fun r4 M5 _ h6 => ?_)
  refine A_iadd (by decide +kernel) ?_
  refine A_cSNi (args := [(30, ((53 : Nat) : Int)), (0, (w32 ((w32 (r1 * 8)) + r4)))]) (st := []) (by decide +kernel) cv_m10_at st_m10_at lk_1_58 rfl (by omega) (Nat.le_of_ble_eq_true rfl) h6 (fun r7 M8 _ h9 => ?_)
  refine A_istore (i := 4) (by decide +kernel) (by decide) (fun w h0 hw => by simp at hw; first | (rw [← hw]; decide) | (rw [← hw]; simp)) ?_
  refine A_iload (i := 4) (by decide +kernel) rfl ?_
  refine A_iload_n (i := 1) (f := 1) rfl (by decide +kernel) rfl ?_
  refine A_iload_n (i := 3) (f := 3) rfl (by decide +kernel) rfl ?_
  refine A_cSi (args := [(0, x1), (0, x3)]) (st := [(0, r7)]) (by decide +kernel) cv_m1_placeOf st_m1_placeOf lk_1_93 rfl (by omega) (Nat.le_of_ble_eq_true rfl) h9 (fun r10 M11 _ h12 => ?_)
  refine A_ishr (by decide +kernel) ?_
  refine A_iconst (a := 1) (by decide +kernel) (by unfold in32; omega) ?_
  refine A_iand (by decide +kernel) ?_
  refine A_iconst (a := 1) (by decide +kernel) (by unfold in32; omega) ?_
  refine A_ic_ne (off := 7) (tgt := 40) (by decide +kernel) (by omega) (fun b13 => ?_) (fun b13 => ?_)
  · have h14 := h12.1 b13
    refine A_iconst (a := 0) (by decide +kernel) (by unfold in32; omega) ?_
    exact A_ret ⟨by decide +kernel, Or.inr ⟨rfl, by decide⟩⟩ ⟨_, rfl, h14⟩
  · have h15 := h12.2 (Decidable.not_not.mp b13)
    refine A_iconst (a := 1) (by decide +kernel) (by unfold in32; omega) ?_
    refine A_goto (off := 4) (tgt := 41) (by decide +kernel) (by omega) ?_
    exact A_ret ⟨by decide +kernel, Or.inr ⟨rfl, by decide⟩⟩ ⟨_, rfl, h15⟩
theorem q_1_mayChange {x2 : Int} {x3 : Int} {M : Mem} {P : Int → Mem → Prop} (h : (CI m1_isAbove 2 [(11, ((52 : Nat) : Int)), (0, x2), (0, x3), (0, (M 52 9))] M (fun r1 M2 => (((M2 21 8) ≠ 0 → (CI m1_isAbove 2 [(11, ((52 : Nat) : Int)), (0, x2), (0, (M2 52 9)), (0, x3)] M2 (fun r7 M8 => ((r1 = 0 → ((r7 = 0 → (CD m10_put 1 [(30, ((58 : Nat) : Int)), (0, 0), (0, 0)] M8 (fun M17 => (CD m10_put 1 [(30, ((58 : Nat) : Int)), (0, 1), (0, 0)] M17 (fun M20 => (CD m10_put 1 [(30, ((58 : Nat) : Int)), (0, 2), (0, 0)] M20 (fun M23 => (CI m10_at 1 [(30, ((23 : Nat) : Int)), (0, x3)] M23 (fun r25 M26 => (CI m10_at 1 [(30, ((23 : Nat) : Int)), (0, (M26 52 9))] M26 (fun r28 M29 => ((r25 ≤ r28 → (CD m10_put 1 [(30, ((58 : Nat) : Int)), (0, 3), (0, 0)] M29 (fun M35 => (CD m10_put 1 [(30, ((58 : Nat) : Int)), (0, 4), (0, 0)] M35 (fun M38 => (CI m1_seasonOf 1 [(0, x2)] M38 (fun r40 M41 => (CD m10_put 1 [(30, ((58 : Nat) : Int)), (0, 5), (0, r40)] M41 (fun M44 => (CD m10_put 1 [(30, ((58 : Nat) : Int)), (0, 6), (0, 1)] M44 (fun M47 => (CI m1_gapTo 3 [(11, ((52 : Nat) : Int)), (0, x2), (0, x3), (0, (M47 21 2))] M47 (fun r49 M50 => (CD m10_put 1 [(30, ((58 : Nat) : Int)), (0, 7), (0, r49)] M50 (fun M53 => (CL m3_work 4 [(13, ((25 : Nat) : Int)), (0, 5), (30, ((58 : Nat) : Int))] M53 (fun r55 M56 => ((r55 ≠ (-9223372036854775808) → ((r55 = 0 → (P 0 M56)) ∧ (r55 ≠ 0 → (P 1 M56)))) ∧ (r55 = (-9223372036854775808) → ((r1 = 0 ∨ r1 = 1) ∧ P r1 M56)))))))))))))))))))) ∧ (r28 < r25 → (CD m10_put 1 [(30, ((58 : Nat) : Int)), (0, 3), (0, 1)] M29 (fun M65 => (CD m10_put 1 [(30, ((58 : Nat) : Int)), (0, 4), (0, 0)] M65 (fun M68 => (CI m1_seasonOf 1 [(0, x2)] M68 (fun r70 M71 => (CD m10_put 1 [(30, ((58 : Nat) : Int)), (0, 5), (0, r70)] M71 (fun M74 => (CD m10_put 1 [(30, ((58 : Nat) : Int)), (0, 6), (0, 1)] M74 (fun M77 => (CI m1_gapTo 3 [(11, ((52 : Nat) : Int)), (0, x2), (0, x3), (0, (M77 21 2))] M77 (fun r79 M80 => (CD m10_put 1 [(30, ((58 : Nat) : Int)), (0, 7), (0, r79)] M80 (fun M83 => (CL m3_work 4 [(13, ((25 : Nat) : Int)), (0, 5), (30, ((58 : Nat) : Int))] M83 (fun r85 M86 => ((r85 ≠ (-9223372036854775808) → ((r85 = 0 → (P 0 M86)) ∧ (r85 ≠ 0 → (P 1 M86)))) ∧ (r85 = (-9223372036854775808) → ((r1 = 0 ∨ r1 = 1) ∧ P r1 M86)))))))))))))))))))))))))))))))) ∧ (r7 ≠ 0 → (CD m10_put 1 [(30, ((58 : Nat) : Int)), (0, 0), (0, (-1))] M8 (fun M95 => (CD m10_put 1 [(30, ((58 : Nat) : Int)), (0, 1), (0, (-1))] M95 (fun M98 => (CD m10_put 1 [(30, ((58 : Nat) : Int)), (0, 2), (0, 0)] M98 (fun M101 => (CI m10_at 1 [(30, ((23 : Nat) : Int)), (0, x3)] M101 (fun r103 M104 => (CI m10_at 1 [(30, ((23 : Nat) : Int)), (0, (M104 52 9))] M104 (fun r106 M107 => ((r103 ≤ r106 → (CD m10_put 1 [(30, ((58 : Nat) : Int)), (0, 3), (0, 0)] M107 (fun M113 => (CD m10_put 1 [(30, ((58 : Nat) : Int)), (0, 4), (0, 0)] M113 (fun M116 => (CI m1_seasonOf 1 [(0, x2)] M116 (fun r118 M119 => (CD m10_put 1 [(30, ((58 : Nat) : Int)), (0, 5), (0, r118)] M119 (fun M122 => (CD m10_put 1 [(30, ((58 : Nat) : Int)), (0, 6), (0, 1)] M122 (fun M125 => (CI m1_gapTo 3 [(11, ((52 : Nat) : Int)), (0, x2), (0, x3), (0, (M125 21 2))] M125 (fun r127 M128 => (CD m10_put 1 [(30, ((58 : Nat) : Int)), (0, 7), (0, r127)] M128 (fun M131 => (CL m3_work 4 [(13, ((25 : Nat) : Int)), (0, 5), (30, ((58 : Nat) : Int))] M131 (fun r133 M134 => ((r133 ≠ (-9223372036854775808) → ((r133 = 0 → (P 0 M134)) ∧ (r133 ≠ 0 → (P 1 M134)))) ∧ (r133 = (-9223372036854775808) → ((r1 = 0 ∨ r1 = 1) ∧ P r1 M134)))))))))))))))))))) ∧ (r106 < r103 → (CD m10_put 1 [(30, ((58 : Nat) : Int)), (0, 3), (0, 1)] M107 (fun M143 => (CD m10_put 1 [(30, ((58 : Nat) : Int)), (0, 4), (0, 0)] M143 (fun M146 => (CI m1_seasonOf 1 [(0, x2)] M146 (fun r148 M149 => (CD m10_put 1 [(30, ((58 : Nat) : Int)), (0, 5), (0, r148)] M149 (fun M152 => (CD m10_put 1 [(30, ((58 : Nat) : Int)), (0, 6), (0, 1)] M152 (fun M155 => (CI m1_gapTo 3 [(11, ((52 : Nat) : Int)), (0, x2), (0, x3), (0, (M155 21 2))] M155 (fun r157 M158 => (CD m10_put 1 [(30, ((58 : Nat) : Int)), (0, 7), (0, r157)] M158 (fun M161 => (CL m3_work 4 [(13, ((25 : Nat) : Int)), (0, 5), (30, ((58 : Nat) : Int))] M161 (fun r163 M164 => ((r163 ≠ (-9223372036854775808) → ((r163 = 0 → (P 0 M164)) ∧ (r163 ≠ 0 → (P 1 M164)))) ∧ (r163 = (-9223372036854775808) → ((r1 = 0 ∨ r1 = 1) ∧ P r1 M164)))))))))))))))))))))))))))))))))) ∧ (r1 ≠ 0 → (CD m10_put 1 [(30, ((58 : Nat) : Int)), (0, 0), (0, 1)] M8 (fun M173 => (CD m10_put 1 [(30, ((58 : Nat) : Int)), (0, 1), (0, 1)] M173 (fun M176 => (CD m10_put 1 [(30, ((58 : Nat) : Int)), (0, 2), (0, 0)] M176 (fun M179 => (CI m10_at 1 [(30, ((23 : Nat) : Int)), (0, x3)] M179 (fun r181 M182 => (CI m10_at 1 [(30, ((23 : Nat) : Int)), (0, (M182 52 9))] M182 (fun r184 M185 => ((r181 ≤ r184 → (CD m10_put 1 [(30, ((58 : Nat) : Int)), (0, 3), (0, 0)] M185 (fun M191 => (CD m10_put 1 [(30, ((58 : Nat) : Int)), (0, 4), (0, 0)] M191 (fun M194 => (CI m1_seasonOf 1 [(0, x2)] M194 (fun r196 M197 => (CD m10_put 1 [(30, ((58 : Nat) : Int)), (0, 5), (0, r196)] M197 (fun M200 => (CD m10_put 1 [(30, ((58 : Nat) : Int)), (0, 6), (0, 1)] M200 (fun M203 => (CI m1_gapTo 3 [(11, ((52 : Nat) : Int)), (0, x2), (0, x3), (0, (M203 21 2))] M203 (fun r205 M206 => (CD m10_put 1 [(30, ((58 : Nat) : Int)), (0, 7), (0, r205)] M206 (fun M209 => (CL m3_work 4 [(13, ((25 : Nat) : Int)), (0, 5), (30, ((58 : Nat) : Int))] M209 (fun r211 M212 => ((r211 ≠ (-9223372036854775808) → ((r211 = 0 → (P 0 M212)) ∧ (r211 ≠ 0 → (P 1 M212)))) ∧ (r211 = (-9223372036854775808) → ((r1 = 0 ∨ r1 = 1) ∧ P r1 M212)))))))))))))))))))) ∧ (r184 < r181 → (CD m10_put 1 [(30, ((58 : Nat) : Int)), (0, 3), (0, 1)] M185 (fun M221 => (CD m10_put 1 [(30, ((58 : Nat) : Int)), (0, 4), (0, 0)] M221 (fun M224 => (CI m1_seasonOf 1 [(0, x2)] M224 (fun r226 M227 => (CD m10_put 1 [(30, ((58 : Nat) : Int)), (0, 5), (0, r226)] M227 (fun M230 => (CD m10_put 1 [(30, ((58 : Nat) : Int)), (0, 6), (0, 1)] M230 (fun M233 => (CI m1_gapTo 3 [(11, ((52 : Nat) : Int)), (0, x2), (0, x3), (0, (M233 21 2))] M233 (fun r235 M236 => (CD m10_put 1 [(30, ((58 : Nat) : Int)), (0, 7), (0, r235)] M236 (fun M239 => (CL m3_work 4 [(13, ((25 : Nat) : Int)), (0, 5), (30, ((58 : Nat) : Int))] M239 (fun r241 M242 => ((r241 ≠ (-9223372036854775808) → ((r241 = 0 → (P 0 M242)) ∧ (r241 ≠ 0 → (P 1 M242)))) ∧ (r241 = (-9223372036854775808) → ((r1 = 0 ∨ r1 = 1) ∧ P r1 M242)))))))))))))))))))))))))))))))))))) ∧ ((M2 21 8) = 0 → ((r1 = 0 ∨ r1 = 1) ∧ P r1 M2)))))) : CI m1_mayChange 5 [(11, ((52 : Nat) : Int)), (10, ((21 : Nat) : Int)), (0, x2), (0, x3)] M P := by
  refine CI_of (by decide +kernel) (Nat.le_of_ble_eq_true rfl) ?_
  show A m1_mayChange 5 0 0 [(11, ((52 : Nat) : Int)), (10, ((21 : Nat) : Int)), (0, x2), (0, x3), (2, 0), (2, 0), (2, 0), (2, 0), (2, 0)] [] M (Ki P)
  refine A_aload_n (i := 0) (f := 0) (by omega) rfl (by decide +kernel) rfl ?_
  refine A_iload_n (i := 2) (f := 2) rfl (by decide +kernel) rfl ?_
  refine A_iload_n (i := 3) (f := 3) rfl (by decide +kernel) rfl ?_
  refine A_aload_n (i := 0) (f := 0) (by omega) rfl (by decide +kernel) rfl ?_
  refine B_getp (v := (M 52 9)) (q := (RX1, TX1, 9)) (ci := 1) (j := 8) (p := 9) (by decide +kernel) rfl (by decide) rfl (Or.inl rfl) fl_1_41 rfl ?_
  refine A_cVi (q := (RX1, TX1, 9)) (ci := 1) (o := ((52 : Nat) : Int)) (args := [(0, x2), (0, x3), (0, (M 52 9))]) (st := []) (by decide +kernel) cv_m1_isAbove rfl rfl in_m1_isAbove se_m1_isAbove lk_1_62 rfl (by omega) (Nat.le_of_ble_eq_true rfl) h (fun r1 M2 _ h3 => ?_)
  refine A_istore (i := 4) (by decide +kernel) (by decide) (fun w h0 hw => by simp at hw; first | (rw [← hw]; decide) | (rw [← hw]; simp)) ?_
  refine A_aload_n (i := 1) (f := 1) (by omega) rfl (by decide +kernel) rfl ?_
  refine B_getp (v := (M2 21 8)) (q := (RX0, TX0, 9)) (ci := 0) (j := 8) (p := 8) (by decide +kernel) rfl (by decide) rfl (Or.inr rfl) fl_1_96 rfl ?_
  refine A_if_ne (off := 6) (tgt := 22) (by decide +kernel) (by omega) (fun b4 => ?_) (fun b4 => ?_)
  · have h5 := h3.1 b4
    refine A_aload_n (i := 0) (f := 0) (by omega) rfl (by decide +kernel) rfl ?_
    refine A_iload_n (i := 2) (f := 2) rfl (by decide +kernel) rfl ?_
    refine A_aload_n (i := 0) (f := 0) (by omega) rfl (by decide +kernel) rfl ?_
    refine B_getp (v := (M2 52 9)) (q := (RX1, TX1, 9)) (ci := 1) (j := 8) (p := 9) (by decide +kernel) rfl (by decide) rfl (Or.inl rfl) fl_1_41 rfl ?_
    refine A_iload_n (i := 3) (f := 3) rfl (by decide +kernel) rfl ?_
    refine A_cVi (q := (RX1, TX1, 9)) (ci := 1) (o := ((52 : Nat) : Int)) (args := [(0, x2), (0, (M2 52 9)), (0, x3)]) (st := []) (by decide +kernel) cv_m1_isAbove rfl rfl in_m1_isAbove se_m1_isAbove lk_1_62 rfl (by omega) (Nat.le_of_ble_eq_true rfl) h5 (fun r7 M8 _ h9 => ?_)
    refine A_istore (i := 5) (by decide +kernel) (by decide) (fun w h0 hw => by simp at hw; first | (rw [← hw]; decide) | (rw [← hw]; simp)) ?_
    refine A_iload (i := 4) (by decide +kernel) rfl ?_
    refine A_if_eq (off := 7) (tgt := 43) (by decide +kernel) (by omega) (fun b10 => ?_) (fun b10 => ?_)
    · have h11 := h9.1 b10
      refine A_iload (i := 5) (by decide +kernel) rfl ?_
      refine A_if_eq (off := 7) (tgt := 52) (by decide +kernel) (by omega) (fun b13 => ?_) (fun b13 => ?_)
      · have h14 := h11.1 b13
        refine A_iconst (a := 0) (by decide +kernel) (by unfold in32; omega) ?_
        refine A_istore (i := 6) (by decide +kernel) (by decide) (fun w h0 hw => by simp at hw; first | (rw [← hw]; decide) | (rw [← hw]; simp)) ?_
        refine A_aload_n (i := 0) (f := 0) (by omega) rfl (by decide +kernel) rfl ?_
        refine B_getr (o' := ((58 : Nat) : Int)) (q := (RX1, TX1, 9)) (ci := 1) (j := 5) (by decide +kernel) rfl (by decide) rfl (by omega) fl_1_28 rfl ?_
        refine A_iconst (a := 0) (by decide +kernel) (by unfold in32; omega) ?_
        refine A_iload (i := 6) (by decide +kernel) rfl ?_
        refine A_cSNd (args := [(30, ((58 : Nat) : Int)), (0, 0), (0, 0)]) (st := []) (by decide +kernel) cv_m10_put st_m10_put lk_1_37 rfl (by omega) (Nat.le_of_ble_eq_true rfl) h14 (fun M17 h18 => ?_)
        refine A_aload_n (i := 0) (f := 0) (by omega) rfl (by decide +kernel) rfl ?_
        refine B_getr (o' := ((58 : Nat) : Int)) (q := (RX1, TX1, 9)) (ci := 1) (j := 5) (by decide +kernel) rfl (by decide) rfl (by omega) fl_1_28 rfl ?_
        refine A_iconst (a := 1) (by decide +kernel) (by unfold in32; omega) ?_
        refine A_iload (i := 6) (by decide +kernel) rfl ?_
        refine A_cSNd (args := [(30, ((58 : Nat) : Int)), (0, 1), (0, 0)]) (st := []) (by decide +kernel) cv_m10_put st_m10_put lk_1_37 rfl (by omega) (Nat.le_of_ble_eq_true rfl) h18 (fun M20 h21 => ?_)
        refine A_aload_n (i := 0) (f := 0) (by omega) rfl (by decide +kernel) rfl ?_
        refine B_getr (o' := ((58 : Nat) : Int)) (q := (RX1, TX1, 9)) (ci := 1) (j := 5) (by decide +kernel) rfl (by decide) rfl (by omega) fl_1_28 rfl ?_
        refine A_iconst (a := 2) (by decide +kernel) (by unfold in32; omega) ?_
        refine A_iconst (a := 0) (by decide +kernel) (by unfold in32; omega) ?_
        refine A_cSNd (args := [(30, ((58 : Nat) : Int)), (0, 2), (0, 0)]) (st := []) (by decide +kernel) cv_m10_put st_m10_put lk_1_37 rfl (by omega) (Nat.le_of_ble_eq_true rfl) h21 (fun M23 h24 => ?_)
        refine A_aload_n (i := 0) (f := 0) (by omega) rfl (by decide +kernel) rfl ?_
        refine B_getr (o' := ((58 : Nat) : Int)) (q := (RX1, TX1, 9)) (ci := 1) (j := 5) (by decide +kernel) rfl (by decide) rfl (by omega) fl_1_28 rfl ?_
        refine A_iconst (a := 3) (by decide +kernel) (by unfold in32; omega) ?_
        refine A_aload_n (i := 1) (f := 1) (by omega) rfl (by decide +kernel) rfl ?_
        refine B_getr (o' := ((23 : Nat) : Int)) (q := (RX0, TX0, 9)) (ci := 0) (j := 1) (by decide +kernel) rfl (by decide) rfl (by omega) fl_1_100 rfl ?_
        refine A_iload_n (i := 3) (f := 3) rfl (by decide +kernel) rfl ?_
        refine A_cSNi (args := [(30, ((23 : Nat) : Int)), (0, x3)]) (st := [(0, 3), (30, ((58 : Nat) : Int))]) (by decide +kernel) cv_m10_at st_m10_at lk_1_58 rfl (by omega) (Nat.le_of_ble_eq_true rfl) h24 (fun r25 M26 _ h27 => ?_)
        refine A_aload_n (i := 1) (f := 1) (by omega) rfl (by decide +kernel) rfl ?_
        refine B_getr (o' := ((23 : Nat) : Int)) (q := (RX0, TX0, 9)) (ci := 0) (j := 1) (by decide +kernel) rfl (by decide) rfl (by omega) fl_1_100 rfl ?_
        refine A_aload_n (i := 0) (f := 0) (by omega) rfl (by decide +kernel) rfl ?_
        refine B_getp (v := (M26 52 9)) (q := (RX1, TX1, 9)) (ci := 1) (j := 8) (p := 9) (by decide +kernel) rfl (by decide) rfl (Or.inl rfl) fl_1_41 rfl ?_
        refine A_cSNi (args := [(30, ((23 : Nat) : Int)), (0, (M26 52 9))]) (st := [(0, r25), (0, 3), (30, ((58 : Nat) : Int))]) (by decide +kernel) cv_m10_at st_m10_at lk_1_58 rfl (by omega) (Nat.le_of_ble_eq_true rfl) h27 (fun r28 M29 _ h30 => ?_)
        refine A_ic_le (off := 7) (tgt := 115) (by decide +kernel) (by omega) (fun b31 => ?_) (fun b31 => ?_)
        · have h32 := h30.1 b31
          refine A_iconst (a := 0) (by decide +kernel) (by unfold in32; omega) ?_
          refine A_cSNd (args := [(30, ((58 : Nat) : Int)), (0, 3), (0, 0)]) (st := []) (by decide +kernel) cv_m10_put st_m10_put lk_1_37 rfl (by omega) (Nat.le_of_ble_eq_true rfl) h32 (fun M35 h36 => ?_)
          refine A_aload_n (i := 0) (f := 0) (by omega) rfl (by decide +kernel) rfl ?_
          refine B_getr (o' := ((58 : Nat) : Int)) (q := (RX1, TX1, 9)) (ci := 1) (j := 5) (by decide +kernel) rfl (by decide) rfl (by omega) fl_1_28 rfl ?_
          refine A_iconst (a := 4) (by decide +kernel) (by unfold in32; omega) ?_
          refine A_iconst (a := 0) (by decide +kernel) (by unfold in32; omega) ?_
          refine A_cSNd (args := [(30, ((58 : Nat) : Int)), (0, 4), (0, 0)]) (st := []) (by decide +kernel) cv_m10_put st_m10_put lk_1_37 rfl (by omega) (Nat.le_of_ble_eq_true rfl) h36 (fun M38 h39 => ?_)
          refine A_aload_n (i := 0) (f := 0) (by omega) rfl (by decide +kernel) rfl ?_
          refine B_getr (o' := ((58 : Nat) : Int)) (q := (RX1, TX1, 9)) (ci := 1) (j := 5) (by decide +kernel) rfl (by decide) rfl (by omega) fl_1_28 rfl ?_
          refine A_iconst (a := 5) (by decide +kernel) (by unfold in32; omega) ?_
          refine A_iload_n (i := 2) (f := 2) rfl (by decide +kernel) rfl ?_
          refine A_cSi (args := [(0, x2)]) (st := [(0, 5), (30, ((58 : Nat) : Int))]) (by decide +kernel) cv_m1_seasonOf st_m1_seasonOf lk_1_90 rfl (by omega) (Nat.le_of_ble_eq_true rfl) h39 (fun r40 M41 _ h42 => ?_)
          refine A_cSNd (args := [(30, ((58 : Nat) : Int)), (0, 5), (0, r40)]) (st := []) (by decide +kernel) cv_m10_put st_m10_put lk_1_37 rfl (by omega) (Nat.le_of_ble_eq_true rfl) h42 (fun M44 h45 => ?_)
          refine A_aload_n (i := 0) (f := 0) (by omega) rfl (by decide +kernel) rfl ?_
          refine B_getr (o' := ((58 : Nat) : Int)) (q := (RX1, TX1, 9)) (ci := 1) (j := 5) (by decide +kernel) rfl (by decide) rfl (by omega) fl_1_28 rfl ?_
          refine A_bipush (a := 6) (by decide +kernel) (by unfold in32; omega) (by decide +kernel) ?_
          refine A_iconst (a := 1) (by decide +kernel) (by unfold in32; omega) ?_
          refine A_cSNd (args := [(30, ((58 : Nat) : Int)), (0, 6), (0, 1)]) (st := []) (by decide +kernel) cv_m10_put st_m10_put lk_1_37 rfl (by omega) (Nat.le_of_ble_eq_true rfl) h45 (fun M47 h48 => ?_)
          refine A_aload_n (i := 0) (f := 0) (by omega) rfl (by decide +kernel) rfl ?_
          refine B_getr (o' := ((58 : Nat) : Int)) (q := (RX1, TX1, 9)) (ci := 1) (j := 5) (by decide +kernel) rfl (by decide) rfl (by omega) fl_1_28 rfl ?_
          refine A_bipush (a := 7) (by decide +kernel) (by unfold in32; omega) (by decide +kernel) ?_
          refine A_aload_n (i := 0) (f := 0) (by omega) rfl (by decide +kernel) rfl ?_
          refine A_iload_n (i := 2) (f := 2) rfl (by decide +kernel) rfl ?_
          refine A_iload_n (i := 3) (f := 3) rfl (by decide +kernel) rfl ?_
          refine A_aload_n (i := 1) (f := 1) (by omega) rfl (by decide +kernel) rfl ?_
          refine B_getp (v := (M47 21 2)) (q := (RX0, TX0, 9)) (ci := 0) (j := 2) (p := 2) (by decide +kernel) rfl (by decide) rfl (Or.inl rfl) fl_1_74 rfl ?_
          refine A_cVi (q := (RX1, TX1, 9)) (ci := 1) (o := ((52 : Nat) : Int)) (args := [(0, x2), (0, x3), (0, (M47 21 2))]) (st := [(0, 7), (30, ((58 : Nat) : Int))]) (by decide +kernel) cv_m1_gapTo rfl rfl in_m1_gapTo se_m1_gapTo lk_1_103 rfl (by omega) (Nat.le_of_ble_eq_true rfl) h48 (fun r49 M50 _ h51 => ?_)
          refine A_cSNd (args := [(30, ((58 : Nat) : Int)), (0, 7), (0, r49)]) (st := []) (by decide +kernel) cv_m10_put st_m10_put lk_1_37 rfl (by omega) (Nat.le_of_ble_eq_true rfl) h51 (fun M53 h54 => ?_)
          refine A_aload_n (i := 1) (f := 1) (by omega) rfl (by decide +kernel) rfl ?_
          refine B_getr (o' := ((25 : Nat) : Int)) (q := (RX0, TX0, 9)) (ci := 0) (j := 5) (by decide +kernel) rfl (by decide) rfl (by omega) fl_1_107 rfl ?_
          refine A_iconst (a := 5) (by decide +kernel) (by unfold in32; omega) ?_
          refine A_aload_n (i := 0) (f := 0) (by omega) rfl (by decide +kernel) rfl ?_
          refine B_getr (o' := ((58 : Nat) : Int)) (q := (RX1, TX1, 9)) (ci := 1) (j := 5) (by decide +kernel) rfl (by decide) rfl (by omega) fl_1_28 rfl ?_
          refine A_cVl (q := (RX3, TX3, 6)) (ci := 3) (o := ((25 : Nat) : Int)) (args := [(0, 5), (30, ((58 : Nat) : Int))]) (st := []) (by decide +kernel) cv_m3_work rfl rfl in_m3_work se_m3_work lk_1_113 rfl (by omega) (Nat.le_of_ble_eq_true rfl) h54 (fun r55 M56 _ h57 => ?_)
          refine A_lstore (i := 7) (by decide +kernel) (by decide) (fun w h0 hw => by simp at hw; first | (rw [← hw]; decide) | (rw [← hw]; simp)) ?_
          refine A_lload (i := 7) (by decide +kernel) rfl ?_
          refine A_ldc2 (by decide +kernel) (by unfold in64; omega) kl_1_117 rfl ?_
          refine A_lcmp (by decide +kernel) ?_
          refine A_if_ne (off := 8) (tgt := 197) (by decide +kernel) (by omega) (fun b58 => ?_) (fun b58 => ?_)
          · have h59 := h57.1 (fun e => b58 (lcmp_eq.mpr e))
            refine A_lload (i := 7) (by decide +kernel) rfl ?_
            refine A_lconst (n := 0) (a := 0) (by decide +kernel) (by unfold in64; omega) (by decide +kernel) ?_
            refine A_lcmp (by decide +kernel) ?_
            refine A_if_eq (off := 7) (tgt := 208) (by decide +kernel) (by omega) (fun b61 => ?_) (fun b61 => ?_)
            · have h62 := h59.1 (lcmp_eq.mp b61)
              refine A_iconst (a := 0) (by decide +kernel) (by unfold in32; omega) ?_
              exact A_ret ⟨by decide +kernel, Or.inr ⟨rfl, by decide⟩⟩ ⟨_, rfl, h62⟩
            · have h63 := h59.2 (fun e => b61 (lcmp_eq.mpr e))
              refine A_iconst (a := 1) (by decide +kernel) (by unfold in32; omega) ?_
              refine A_goto (off := 4) (tgt := 209) (by decide +kernel) (by omega) ?_
              exact A_ret ⟨by decide +kernel, Or.inr ⟨rfl, by decide⟩⟩ ⟨_, rfl, h63⟩
          · have h60 := h57.2 (lcmp_eq.mp (Decidable.not_not.mp b58))
            refine A_iload (i := 4) (by decide +kernel) rfl ?_
            refine A_goto (off := 15) (tgt := 209) (by decide +kernel) (by omega) ?_
            exact A_ret ⟨by decide +kernel, Or.inr ⟨rfl, h60.1⟩⟩ ⟨_, rfl, h60.2⟩
        · have h33 := h30.2 (Int.not_le.mp b31)
          refine A_iconst (a := 1) (by decide +kernel) (by unfold in32; omega) ?_
          refine A_goto (off := 4) (tgt := 116) (by decide +kernel) (by omega) ?_
          refine A_cSNd (args := [(30, ((58 : Nat) : Int)), (0, 3), (0, 1)]) (st := []) (by decide +kernel) cv_m10_put st_m10_put lk_1_37 rfl (by omega) (Nat.le_of_ble_eq_true rfl) h33 (fun M65 h66 => ?_)
          refine A_aload_n (i := 0) (f := 0) (by omega) rfl (by decide +kernel) rfl ?_
          refine B_getr (o' := ((58 : Nat) : Int)) (q := (RX1, TX1, 9)) (ci := 1) (j := 5) (by decide +kernel) rfl (by decide) rfl (by omega) fl_1_28 rfl ?_
          refine A_iconst (a := 4) (by decide +kernel) (by unfold in32; omega) ?_
          refine A_iconst (a := 0) (by decide +kernel) (by unfold in32; omega) ?_
          refine A_cSNd (args := [(30, ((58 : Nat) : Int)), (0, 4), (0, 0)]) (st := []) (by decide +kernel) cv_m10_put st_m10_put lk_1_37 rfl (by omega) (Nat.le_of_ble_eq_true rfl) h66 (fun M68 h69 => ?_)
          refine A_aload_n (i := 0) (f := 0) (by omega) rfl (by decide +kernel) rfl ?_
          refine B_getr (o' := ((58 : Nat) : Int)) (q := (RX1, TX1, 9)) (ci := 1) (j := 5) (by decide +kernel) rfl (by decide) rfl (by omega) fl_1_28 rfl ?_
          refine A_iconst (a := 5) (by decide +kernel) (by unfold in32; omega) ?_
          refine A_iload_n (i := 2) (f := 2) rfl (by decide +kernel) rfl ?_
          refine A_cSi (args := [(0, x2)]) (st := [(0, 5), (30, ((58 : Nat) : Int))]) (by decide +kernel) cv_m1_seasonOf st_m1_seasonOf lk_1_90 rfl (by omega) (Nat.le_of_ble_eq_true rfl) h69 (fun r70 M71 _ h72 => ?_)
          refine A_cSNd (args := [(30, ((58 : Nat) : Int)), (0, 5), (0, r70)]) (st := []) (by decide +kernel) cv_m10_put st_m10_put lk_1_37 rfl (by omega) (Nat.le_of_ble_eq_true rfl) h72 (fun M74 h75 => ?_)
          refine A_aload_n (i := 0) (f := 0) (by omega) rfl (by decide +kernel) rfl ?_
          refine B_getr (o' := ((58 : Nat) : Int)) (q := (RX1, TX1, 9)) (ci := 1) (j := 5) (by decide +kernel) rfl (by decide) rfl (by omega) fl_1_28 rfl ?_
          refine A_bipush (a := 6) (by decide +kernel) (by unfold in32; omega) (by decide +kernel) ?_
          refine A_iconst (a := 1) (by decide +kernel) (by unfold in32; omega) ?_
          refine A_cSNd (args := [(30, ((58 : Nat) : Int)), (0, 6), (0, 1)]) (st := []) (by decide +kernel) cv_m10_put st_m10_put lk_1_37 rfl (by omega) (Nat.le_of_ble_eq_true rfl) h75 (fun M77 h78 => ?_)
          refine A_aload_n (i := 0) (f := 0) (by omega) rfl (by decide +kernel) rfl ?_
          refine B_getr (o' := ((58 : Nat) : Int)) (q := (RX1, TX1, 9)) (ci := 1) (j := 5) (by decide +kernel) rfl (by decide) rfl (by omega) fl_1_28 rfl ?_
          refine A_bipush (a := 7) (by decide +kernel) (by unfold in32; omega) (by decide +kernel) ?_
          refine A_aload_n (i := 0) (f := 0) (by omega) rfl (by decide +kernel) rfl ?_
          refine A_iload_n (i := 2) (f := 2) rfl (by decide +kernel) rfl ?_
          refine A_iload_n (i := 3) (f := 3) rfl (by decide +kernel) rfl ?_
          refine A_aload_n (i := 1) (f := 1) (by omega) rfl (by decide +kernel) rfl ?_
          refine B_getp (v := (M77 21 2)) (q := (RX0, TX0, 9)) (ci := 0) (j := 2) (p := 2) (by decide +kernel) rfl (by decide) rfl (Or.inl rfl) fl_1_74 rfl ?_
          refine A_cVi (q := (RX1, TX1, 9)) (ci := 1) (o := ((52 : Nat) : Int)) (args := [(0, x2), (0, x3), (0, (M77 21 2))]) (st := [(0, 7), (30, ((58 : Nat) : Int))]) (by decide +kernel) cv_m1_gapTo rfl rfl in_m1_gapTo se_m1_gapTo lk_1_103 rfl (by omega) (Nat.le_of_ble_eq_true rfl) h78 (fun r79 M80 _ h81 => ?_)
          refine A_cSNd (args := [(30, ((58 : Nat) : Int)), (0, 7), (0, r79)]) (st := []) (by decide +kernel) cv_m10_put st_m10_put lk_1_37 rfl (by omega) (Nat.le_of_ble_eq_true rfl) h81 (fun M83 h84 => ?_)
          refine A_aload_n (i := 1) (f := 1) (by omega) rfl (by decide +kernel) rfl ?_
          refine B_getr (o' := ((25 : Nat) : Int)) (q := (RX0, TX0, 9)) (ci := 0) (j := 5) (by decide +kernel) rfl (by decide) rfl (by omega) fl_1_107 rfl ?_
          refine A_iconst (a := 5) (by decide +kernel) (by unfold in32; omega) ?_
          refine A_aload_n (i := 0) (f := 0) (by omega) rfl (by decide +kernel) rfl ?_
          refine B_getr (o' := ((58 : Nat) : Int)) (q := (RX1, TX1, 9)) (ci := 1) (j := 5) (by decide +kernel) rfl (by decide) rfl (by omega) fl_1_28 rfl ?_
          refine A_cVl (q := (RX3, TX3, 6)) (ci := 3) (o := ((25 : Nat) : Int)) (args := [(0, 5), (30, ((58 : Nat) : Int))]) (st := []) (by decide +kernel) cv_m3_work rfl rfl in_m3_work se_m3_work lk_1_113 rfl (by omega) (Nat.le_of_ble_eq_true rfl) h84 (fun r85 M86 _ h87 => ?_)
          refine A_lstore (i := 7) (by decide +kernel) (by decide) (fun w h0 hw => by simp at hw; first | (rw [← hw]; decide) | (rw [← hw]; simp)) ?_
          refine A_lload (i := 7) (by decide +kernel) rfl ?_
          refine A_ldc2 (by decide +kernel) (by unfold in64; omega) kl_1_117 rfl ?_
          refine A_lcmp (by decide +kernel) ?_
          refine A_if_ne (off := 8) (tgt := 197) (by decide +kernel) (by omega) (fun b88 => ?_) (fun b88 => ?_)
          · have h89 := h87.1 (fun e => b88 (lcmp_eq.mpr e))
            refine A_lload (i := 7) (by decide +kernel) rfl ?_
            refine A_lconst (n := 0) (a := 0) (by decide +kernel) (by unfold in64; omega) (by decide +kernel) ?_
            refine A_lcmp (by decide +kernel) ?_
            refine A_if_eq (off := 7) (tgt := 208) (by decide +kernel) (by omega) (fun b91 => ?_) (fun b91 => ?_)
            · have h92 := h89.1 (lcmp_eq.mp b91)
              refine A_iconst (a := 0) (by decide +kernel) (by unfold in32; omega) ?_
              exact A_ret ⟨by decide +kernel, Or.inr ⟨rfl, by decide⟩⟩ ⟨_, rfl, h92⟩
            · have h93 := h89.2 (fun e => b91 (lcmp_eq.mpr e))
              refine A_iconst (a := 1) (by decide +kernel) (by unfold in32; omega) ?_
              refine A_goto (off := 4) (tgt := 209) (by decide +kernel) (by omega) ?_
              exact A_ret ⟨by decide +kernel, Or.inr ⟨rfl, by decide⟩⟩ ⟨_, rfl, h93⟩
          · have h90 := h87.2 (lcmp_eq.mp (Decidable.not_not.mp b88))
            refine A_iload (i := 4) (by decide +kernel) rfl ?_
            refine A_goto (off := 15) (tgt := 209) (by decide +kernel) (by omega) ?_
            exact A_ret ⟨by decide +kernel, Or.inr ⟨rfl, h90.1⟩⟩ ⟨_, rfl, h90.2⟩
      · have h15 := h11.2 b13
        refine A_iconst (a := (-1)) (by decide +kernel) (by unfold in32; omega) ?_
        refine A_goto (off := 4) (tgt := 53) (by decide +kernel) (by omega) ?_
        refine A_istore (i := 6) (by decide +kernel) (by decide) (fun w h0 hw => by simp at hw; first | (rw [← hw]; decide) | (rw [← hw]; simp)) ?_
        refine A_aload_n (i := 0) (f := 0) (by omega) rfl (by decide +kernel) rfl ?_
        refine B_getr (o' := ((58 : Nat) : Int)) (q := (RX1, TX1, 9)) (ci := 1) (j := 5) (by decide +kernel) rfl (by decide) rfl (by omega) fl_1_28 rfl ?_
        refine A_iconst (a := 0) (by decide +kernel) (by unfold in32; omega) ?_
        refine A_iload (i := 6) (by decide +kernel) rfl ?_
        refine A_cSNd (args := [(30, ((58 : Nat) : Int)), (0, 0), (0, (-1))]) (st := []) (by decide +kernel) cv_m10_put st_m10_put lk_1_37 rfl (by omega) (Nat.le_of_ble_eq_true rfl) h15 (fun M95 h96 => ?_)
        refine A_aload_n (i := 0) (f := 0) (by omega) rfl (by decide +kernel) rfl ?_
        refine B_getr (o' := ((58 : Nat) : Int)) (q := (RX1, TX1, 9)) (ci := 1) (j := 5) (by decide +kernel) rfl (by decide) rfl (by omega) fl_1_28 rfl ?_
        refine A_iconst (a := 1) (by decide +kernel) (by unfold in32; omega) ?_
        refine A_iload (i := 6) (by decide +kernel) rfl ?_
        refine A_cSNd (args := [(30, ((58 : Nat) : Int)), (0, 1), (0, (-1))]) (st := []) (by decide +kernel) cv_m10_put st_m10_put lk_1_37 rfl (by omega) (Nat.le_of_ble_eq_true rfl) h96 (fun M98 h99 => ?_)
        refine A_aload_n (i := 0) (f := 0) (by omega) rfl (by decide +kernel) rfl ?_
        refine B_getr (o' := ((58 : Nat) : Int)) (q := (RX1, TX1, 9)) (ci := 1) (j := 5) (by decide +kernel) rfl (by decide) rfl (by omega) fl_1_28 rfl ?_
        refine A_iconst (a := 2) (by decide +kernel) (by unfold in32; omega) ?_
        refine A_iconst (a := 0) (by decide +kernel) (by unfold in32; omega) ?_
        refine A_cSNd (args := [(30, ((58 : Nat) : Int)), (0, 2), (0, 0)]) (st := []) (by decide +kernel) cv_m10_put st_m10_put lk_1_37 rfl (by omega) (Nat.le_of_ble_eq_true rfl) h99 (fun M101 h102 => ?_)
        refine A_aload_n (i := 0) (f := 0) (by omega) rfl (by decide +kernel) rfl ?_
        refine B_getr (o' := ((58 : Nat) : Int)) (q := (RX1, TX1, 9)) (ci := 1) (j := 5) (by decide +kernel) rfl (by decide) rfl (by omega) fl_1_28 rfl ?_
        refine A_iconst (a := 3) (by decide +kernel) (by unfold in32; omega) ?_
        refine A_aload_n (i := 1) (f := 1) (by omega) rfl (by decide +kernel) rfl ?_
        refine B_getr (o' := ((23 : Nat) : Int)) (q := (RX0, TX0, 9)) (ci := 0) (j := 1) (by decide +kernel) rfl (by decide) rfl (by omega) fl_1_100 rfl ?_
        refine A_iload_n (i := 3) (f := 3) rfl (by decide +kernel) rfl ?_
        refine A_cSNi (args := [(30, ((23 : Nat) : Int)), (0, x3)]) (st := [(0, 3), (30, ((58 : Nat) : Int))]) (by decide +kernel) cv_m10_at st_m10_at lk_1_58 rfl (by omega) (Nat.le_of_ble_eq_true rfl) h102 (fun r103 M104 _ h105 => ?_)
        refine A_aload_n (i := 1) (f := 1) (by omega) rfl (by decide +kernel) rfl ?_
        refine B_getr (o' := ((23 : Nat) : Int)) (q := (RX0, TX0, 9)) (ci := 0) (j := 1) (by decide +kernel) rfl (by decide) rfl (by omega) fl_1_100 rfl ?_
        refine A_aload_n (i := 0) (f := 0) (by omega) rfl (by decide +kernel) rfl ?_
        refine B_getp (v := (M104 52 9)) (q := (RX1, TX1, 9)) (ci := 1) (j := 8) (p := 9) (by decide +kernel) rfl (by decide) rfl (Or.inl rfl) fl_1_41 rfl ?_
        refine A_cSNi (args := [(30, ((23 : Nat) : Int)), (0, (M104 52 9))]) (st := [(0, r103), (0, 3), (30, ((58 : Nat) : Int))]) (by decide +kernel) cv_m10_at st_m10_at lk_1_58 rfl (by omega) (Nat.le_of_ble_eq_true rfl) h105 (fun r106 M107 _ h108 => ?_)
        refine A_ic_le (off := 7) (tgt := 115) (by decide +kernel) (by omega) (fun b109 => ?_) (fun b109 => ?_)
        · have h110 := h108.1 b109
          refine A_iconst (a := 0) (by decide +kernel) (by unfold in32; omega) ?_
          refine A_cSNd (args := [(30, ((58 : Nat) : Int)), (0, 3), (0, 0)]) (st := []) (by decide +kernel) cv_m10_put st_m10_put lk_1_37 rfl (by omega) (Nat.le_of_ble_eq_true rfl) h110 (fun M113 h114 => ?_)
          refine A_aload_n (i := 0) (f := 0) (by omega) rfl (by decide +kernel) rfl ?_
          refine B_getr (o' := ((58 : Nat) : Int)) (q := (RX1, TX1, 9)) (ci := 1) (j := 5) (by decide +kernel) rfl (by decide) rfl (by omega) fl_1_28 rfl ?_
          refine A_iconst (a := 4) (by decide +kernel) (by unfold in32; omega) ?_
          refine A_iconst (a := 0) (by decide +kernel) (by unfold in32; omega) ?_
          refine A_cSNd (args := [(30, ((58 : Nat) : Int)), (0, 4), (0, 0)]) (st := []) (by decide +kernel) cv_m10_put st_m10_put lk_1_37 rfl (by omega) (Nat.le_of_ble_eq_true rfl) h114 (fun M116 h117 => ?_)
          refine A_aload_n (i := 0) (f := 0) (by omega) rfl (by decide +kernel) rfl ?_
          refine B_getr (o' := ((58 : Nat) : Int)) (q := (RX1, TX1, 9)) (ci := 1) (j := 5) (by decide +kernel) rfl (by decide) rfl (by omega) fl_1_28 rfl ?_
          refine A_iconst (a := 5) (by decide +kernel) (by unfold in32; omega) ?_
          refine A_iload_n (i := 2) (f := 2) rfl (by decide +kernel) rfl ?_
          refine A_cSi (args := [(0, x2)]) (st := [(0, 5), (30, ((58 : Nat) : Int))]) (by decide +kernel) cv_m1_seasonOf st_m1_seasonOf lk_1_90 rfl (by omega) (Nat.le_of_ble_eq_true rfl) h117 (fun r118 M119 _ h120 => ?_)
          refine A_cSNd (args := [(30, ((58 : Nat) : Int)), (0, 5), (0, r118)]) (st := []) (by decide +kernel) cv_m10_put st_m10_put lk_1_37 rfl (by omega) (Nat.le_of_ble_eq_true rfl) h120 (fun M122 h123 => ?_)
          refine A_aload_n (i := 0) (f := 0) (by omega) rfl (by decide +kernel) rfl ?_
          refine B_getr (o' := ((58 : Nat) : Int)) (q := (RX1, TX1, 9)) (ci := 1) (j := 5) (by decide +kernel) rfl (by decide) rfl (by omega) fl_1_28 rfl ?_
          refine A_bipush (a := 6) (by decide +kernel) (by unfold in32; omega) (by decide +kernel) ?_
          refine A_iconst (a := 1) (by decide +kernel) (by unfold in32; omega) ?_
          refine A_cSNd (args := [(30, ((58 : Nat) : Int)), (0, 6), (0, 1)]) (st := []) (by decide +kernel) cv_m10_put st_m10_put lk_1_37 rfl (by omega) (Nat.le_of_ble_eq_true rfl) h123 (fun M125 h126 => ?_)
          refine A_aload_n (i := 0) (f := 0) (by omega) rfl (by decide +kernel) rfl ?_
          refine B_getr (o' := ((58 : Nat) : Int)) (q := (RX1, TX1, 9)) (ci := 1) (j := 5) (by decide +kernel) rfl (by decide) rfl (by omega) fl_1_28 rfl ?_
          refine A_bipush (a := 7) (by decide +kernel) (by unfold in32; omega) (by decide +kernel) ?_
          refine A_aload_n (i := 0) (f := 0) (by omega) rfl (by decide +kernel) rfl ?_
          refine A_iload_n (i := 2) (f := 2) rfl (by decide +kernel) rfl ?_
          refine A_iload_n (i := 3) (f := 3) rfl (by decide +kernel) rfl ?_
          refine A_aload_n (i := 1) (f := 1) (by omega) rfl (by decide +kernel) rfl ?_
          refine B_getp (v := (M125 21 2)) (q := (RX0, TX0, 9)) (ci := 0) (j := 2) (p := 2) (by decide +kernel) rfl (by decide) rfl (Or.inl rfl) fl_1_74 rfl ?_
          refine A_cVi (q := (RX1, TX1, 9)) (ci := 1) (o := ((52 : Nat) : Int)) (args := [(0, x2), (0, x3), (0, (M125 21 2))]) (st := [(0, 7), (30, ((58 : Nat) : Int))]) (by decide +kernel) cv_m1_gapTo rfl rfl in_m1_gapTo se_m1_gapTo lk_1_103 rfl (by omega) (Nat.le_of_ble_eq_true rfl) h126 (fun r127 M128 _ h129 => ?_)
          refine A_cSNd (args := [(30, ((58 : Nat) : Int)), (0, 7), (0, r127)]) (st := []) (by decide +kernel) cv_m10_put st_m10_put lk_1_37 rfl (by omega) (Nat.le_of_ble_eq_true rfl) h129 (fun M131 h132 => ?_)
          refine A_aload_n (i := 1) (f := 1) (by omega) rfl (by decide +kernel) rfl ?_
          refine B_getr (o' := ((25 : Nat) : Int)) (q := (RX0, TX0, 9)) (ci := 0) (j := 5) (by decide +kernel) rfl (by decide) rfl (by omega) fl_1_107 rfl ?_
          refine A_iconst (a := 5) (by decide +kernel) (by unfold in32; omega) ?_
          refine A_aload_n (i := 0) (f := 0) (by omega) rfl (by decide +kernel) rfl ?_
          refine B_getr (o' := ((58 : Nat) : Int)) (q := (RX1, TX1, 9)) (ci := 1) (j := 5) (by decide +kernel) rfl (by decide) rfl (by omega) fl_1_28 rfl ?_
          refine A_cVl (q := (RX3, TX3, 6)) (ci := 3) (o := ((25 : Nat) : Int)) (args := [(0, 5), (30, ((58 : Nat) : Int))]) (st := []) (by decide +kernel) cv_m3_work rfl rfl in_m3_work se_m3_work lk_1_113 rfl (by omega) (Nat.le_of_ble_eq_true rfl) h132 (fun r133 M134 _ h135 => ?_)
          refine A_lstore (i := 7) (by decide +kernel) (by decide) (fun w h0 hw => by simp at hw; first | (rw [← hw]; decide) | (rw [← hw]; simp)) ?_
          refine A_lload (i := 7) (by decide +kernel) rfl ?_
          refine A_ldc2 (by decide +kernel) (by unfold in64; omega) kl_1_117 rfl ?_
          refine A_lcmp (by decide +kernel) ?_
          refine A_if_ne (off := 8) (tgt := 197) (by decide +kernel) (by omega) (fun b136 => ?_) (fun b136 => ?_)
          · have h137 := h135.1 (fun e => b136 (lcmp_eq.mpr e))
            refine A_lload (i := 7) (by decide +kernel) rfl ?_
            refine A_lconst (n := 0) (a := 0) (by decide +kernel) (by unfold in64; omega) (by decide +kernel) ?_
            refine A_lcmp (by decide +kernel) ?_
            refine A_if_eq (off := 7) (tgt := 208) (by decide +kernel) (by omega) (fun b139 => ?_) (fun b139 => ?_)
            · have h140 := h137.1 (lcmp_eq.mp b139)
              refine A_iconst (a := 0) (by decide +kernel) (by unfold in32; omega) ?_
              exact A_ret ⟨by decide +kernel, Or.inr ⟨rfl, by decide⟩⟩ ⟨_, rfl, h140⟩
            · have h141 := h137.2 (fun e => b139 (lcmp_eq.mpr e))
              refine A_iconst (a := 1) (by decide +kernel) (by unfold in32; omega) ?_
              refine A_goto (off := 4) (tgt := 209) (by decide +kernel) (by omega) ?_
              exact A_ret ⟨by decide +kernel, Or.inr ⟨rfl, by decide⟩⟩ ⟨_, rfl, h141⟩
          · have h138 := h135.2 (lcmp_eq.mp (Decidable.not_not.mp b136))
            refine A_iload (i := 4) (by decide +kernel) rfl ?_
            refine A_goto (off := 15) (tgt := 209) (by decide +kernel) (by omega) ?_
            exact A_ret ⟨by decide +kernel, Or.inr ⟨rfl, h138.1⟩⟩ ⟨_, rfl, h138.2⟩
        · have h111 := h108.2 (Int.not_le.mp b109)
          refine A_iconst (a := 1) (by decide +kernel) (by unfold in32; omega) ?_
          refine A_goto (off := 4) (tgt := 116) (by decide +kernel) (by omega) ?_
          refine A_cSNd (args := [(30, ((58 : Nat) : Int)), (0, 3), (0, 1)]) (st := []) (by decide +kernel) cv_m10_put st_m10_put lk_1_37 rfl (by omega) (Nat.le_of_ble_eq_true rfl) h111 (fun M143 h144 => ?_)
          refine A_aload_n (i := 0) (f := 0) (by omega) rfl (by decide +kernel) rfl ?_
          refine B_getr (o' := ((58 : Nat) : Int)) (q := (RX1, TX1, 9)) (ci := 1) (j := 5) (by decide +kernel) rfl (by decide) rfl (by omega) fl_1_28 rfl ?_
          refine A_iconst (a := 4) (by decide +kernel) (by unfold in32; omega) ?_
          refine A_iconst (a := 0) (by decide +kernel) (by unfold in32; omega) ?_
          refine A_cSNd (args := [(30, ((58 : Nat) : Int)), (0, 4), (0, 0)]) (st := []) (by decide +kernel) cv_m10_put st_m10_put lk_1_37 rfl (by omega) (Nat.le_of_ble_eq_true rfl) h144 (fun M146 h147 => ?_)
          refine A_aload_n (i := 0) (f := 0) (by omega) rfl (by decide +kernel) rfl ?_
          refine B_getr (o' := ((58 : Nat) : Int)) (q := (RX1, TX1, 9)) (ci := 1) (j := 5) (by decide +kernel) rfl (by decide) rfl (by omega) fl_1_28 rfl ?_
          refine A_iconst (a := 5) (by decide +kernel) (by unfold in32; omega) ?_
          refine A_iload_n (i := 2) (f := 2) rfl (by decide +kernel) rfl ?_
          refine A_cSi (args := [(0, x2)]) (st := [(0, 5), (30, ((58 : Nat) : Int))]) (by decide +kernel) cv_m1_seasonOf st_m1_seasonOf lk_1_90 rfl (by omega) (Nat.le_of_ble_eq_true rfl) h147 (fun r148 M149 _ h150 => ?_)
          refine A_cSNd (args := [(30, ((58 : Nat) : Int)), (0, 5), (0, r148)]) (st := []) (by decide +kernel) cv_m10_put st_m10_put lk_1_37 rfl (by omega) (Nat.le_of_ble_eq_true rfl) h150 (fun M152 h153 => ?_)
          refine A_aload_n (i := 0) (f := 0) (by omega) rfl (by decide +kernel) rfl ?_
          refine B_getr (o' := ((58 : Nat) : Int)) (q := (RX1, TX1, 9)) (ci := 1) (j := 5) (by decide +kernel) rfl (by decide) rfl (by omega) fl_1_28 rfl ?_
          refine A_bipush (a := 6) (by decide +kernel) (by unfold in32; omega) (by decide +kernel) ?_
          refine A_iconst (a := 1) (by decide +kernel) (by unfold in32; omega) ?_
          refine A_cSNd (args := [(30, ((58 : Nat) : Int)), (0, 6), (0, 1)]) (st := []) (by decide +kernel) cv_m10_put st_m10_put lk_1_37 rfl (by omega) (Nat.le_of_ble_eq_true rfl) h153 (fun M155 h156 => ?_)
          refine A_aload_n (i := 0) (f := 0) (by omega) rfl (by decide +kernel) rfl ?_
          refine B_getr (o' := ((58 : Nat) : Int)) (q := (RX1, TX1, 9)) (ci := 1) (j := 5) (by decide +kernel) rfl (by decide) rfl (by omega) fl_1_28 rfl ?_
          refine A_bipush (a := 7) (by decide +kernel) (by unfold in32; omega) (by decide +kernel) ?_
          refine A_aload_n (i := 0) (f := 0) (by omega) rfl (by decide +kernel) rfl ?_
          refine A_iload_n (i := 2) (f := 2) rfl (by decide +kernel) rfl ?_
          refine A_iload_n (i := 3) (f := 3) rfl (by decide +kernel) rfl ?_
          refine A_aload_n (i := 1) (f := 1) (by omega) rfl (by decide +kernel) rfl ?_
          refine B_getp (v := (M155 21 2)) (q := (RX0, TX0, 9)) (ci := 0) (j := 2) (p := 2) (by decide +kernel) rfl (by decide) rfl (Or.inl rfl) fl_1_74 rfl ?_
          refine A_cVi (q := (RX1, TX1, 9)) (ci := 1) (o := ((52 : Nat) : Int)) (args := [(0, x2), (0, x3), (0, (M155 21 2))]) (st := [(0, 7), (30, ((58 : Nat) : Int))]) (by decide +kernel) cv_m1_gapTo rfl rfl in_m1_gapTo se_m1_gapTo lk_1_103 rfl (by omega) (Nat.le_of_ble_eq_true rfl) h156 (fun r157 M158 _ h159 => ?_)
          refine A_cSNd (args := [(30, ((58 : Nat) : Int)), (0, 7), (0, r157)]) (st := []) (by decide +kernel) cv_m10_put st_m10_put lk_1_37 rfl (by omega) (Nat.le_of_ble_eq_true rfl) h159 (fun M161 h162 => ?_)
          refine A_aload_n (i := 1) (f := 1) (by omega) rfl (by decide +kernel) rfl ?_
          refine B_getr (o' := ((25 : Nat) : Int)) (q := (RX0, TX0, 9)) (ci := 0) (j := 5) (by decide +kernel) rfl (by decide) rfl (by omega) fl_1_107 rfl ?_
          refine A_iconst (a := 5) (by decide +kernel) (by unfold in32; omega) ?_
          refine A_aload_n (i := 0) (f := 0) (by omega) rfl (by decide +kernel) rfl ?_
          refine B_getr (o' := ((58 : Nat) : Int)) (q := (RX1, TX1, 9)) (ci := 1) (j := 5) (by decide +kernel) rfl (by decide) rfl (by omega) fl_1_28 rfl ?_
          refine A_cVl (q := (RX3, TX3, 6)) (ci := 3) (o := ((25 : Nat) : Int)) (args := [(0, 5), (30, ((58 : Nat) : Int))]) (st := []) (by decide +kernel) cv_m3_work rfl rfl in_m3_work se_m3_work lk_1_113 rfl (by omega) (Nat.le_of_ble_eq_true rfl) h162 (fun r163 M164 _ h165 => ?_)
          refine A_lstore (i := 7) (by decide +kernel) (by decide) (fun w h0 hw => by simp at hw; first | (rw [← hw]; decide) | (rw [← hw]; simp)) ?_
          refine A_lload (i := 7) (by decide +kernel) rfl ?_
          refine A_ldc2 (by decide +kernel) (by unfold in64; omega) kl_1_117 rfl ?_
          refine A_lcmp (by decide +kernel) ?_
          refine A_if_ne (off := 8) (tgt := 197) (by decide +kernel) (by omega) (fun b166 => ?_) (fun b166 => ?_)
          · have h167 := h165.1 (fun e => b166 (lcmp_eq.mpr e))
            refine A_lload (i := 7) (by decide +kernel) rfl ?_
            refine A_lconst (n := 0) (a := 0) (by decide +kernel) (by unfold in64; omega) (by decide +kernel) ?_
            refine A_lcmp (by decide +kernel) ?_
            refine A_if_eq (off := 7) (tgt := 208) (by decide +kernel) (by omega) (fun b169 => ?_) (fun b169 => ?_)
            · have h170 := h167.1 (lcmp_eq.mp b169)
              refine A_iconst (a := 0) (by decide +kernel) (by unfold in32; omega) ?_
              exact A_ret ⟨by decide +kernel, Or.inr ⟨rfl, by decide⟩⟩ ⟨_, rfl, h170⟩
            · have h171 := h167.2 (fun e => b169 (lcmp_eq.mpr e))
              refine A_iconst (a := 1) (by decide +kernel) (by unfold in32; omega) ?_
              refine A_goto (off := 4) (tgt := 209) (by decide +kernel) (by omega) ?_
              exact A_ret ⟨by decide +kernel, Or.inr ⟨rfl, by decide⟩⟩ ⟨_, rfl, h171⟩
          · have h168 := h165.2 (lcmp_eq.mp (Decidable.not_not.mp b166))
            refine A_iload (i := 4) (by decide +kernel) rfl ?_
            refine A_goto (off := 15) (tgt := 209) (by decide +kernel) (by omega) ?_
            exact A_ret ⟨by decide +kernel, Or.inr ⟨rfl, h168.1⟩⟩ ⟨_, rfl, h168.2⟩
    · have h12 := h9.2 b10
      refine A_iconst (a := 1) (by decide +kernel) (by unfold in32; omega) ?_
      refine A_goto (off := 13) (tgt := 53) (by decide +kernel) (by omega) ?_
      refine A_istore (i := 6) (by decide +kernel) (by decide) (fun w h0 hw => by simp at hw; first | (rw [← hw]; decide) | (rw [← hw]; simp)) ?_
      refine A_aload_n (i := 0) (f := 0) (by omega) rfl (by decide +kernel) rfl ?_
      refine B_getr (o' := ((58 : Nat) : Int)) (q := (RX1, TX1, 9)) (ci := 1) (j := 5) (by decide +kernel) rfl (by decide) rfl (by omega) fl_1_28 rfl ?_
      refine A_iconst (a := 0) (by decide +kernel) (by unfold in32; omega) ?_
      refine A_iload (i := 6) (by decide +kernel) rfl ?_
      refine A_cSNd (args := [(30, ((58 : Nat) : Int)), (0, 0), (0, 1)]) (st := []) (by decide +kernel) cv_m10_put st_m10_put lk_1_37 rfl (by omega) (Nat.le_of_ble_eq_true rfl) h12 (fun M173 h174 => ?_)
      refine A_aload_n (i := 0) (f := 0) (by omega) rfl (by decide +kernel) rfl ?_
      refine B_getr (o' := ((58 : Nat) : Int)) (q := (RX1, TX1, 9)) (ci := 1) (j := 5) (by decide +kernel) rfl (by decide) rfl (by omega) fl_1_28 rfl ?_
      refine A_iconst (a := 1) (by decide +kernel) (by unfold in32; omega) ?_
      refine A_iload (i := 6) (by decide +kernel) rfl ?_
      refine A_cSNd (args := [(30, ((58 : Nat) : Int)), (0, 1), (0, 1)]) (st := []) (by decide +kernel) cv_m10_put st_m10_put lk_1_37 rfl (by omega) (Nat.le_of_ble_eq_true rfl) h174 (fun M176 h177 => ?_)
      refine A_aload_n (i := 0) (f := 0) (by omega) rfl (by decide +kernel) rfl ?_
      refine B_getr (o' := ((58 : Nat) : Int)) (q := (RX1, TX1, 9)) (ci := 1) (j := 5) (by decide +kernel) rfl (by decide) rfl (by omega) fl_1_28 rfl ?_
      refine A_iconst (a := 2) (by decide +kernel) (by unfold in32; omega) ?_
      refine A_iconst (a := 0) (by decide +kernel) (by unfold in32; omega) ?_
      refine A_cSNd (args := [(30, ((58 : Nat) : Int)), (0, 2), (0, 0)]) (st := []) (by decide +kernel) cv_m10_put st_m10_put lk_1_37 rfl (by omega) (Nat.le_of_ble_eq_true rfl) h177 (fun M179 h180 => ?_)
      refine A_aload_n (i := 0) (f := 0) (by omega) rfl (by decide +kernel) rfl ?_
      refine B_getr (o' := ((58 : Nat) : Int)) (q := (RX1, TX1, 9)) (ci := 1) (j := 5) (by decide +kernel) rfl (by decide) rfl (by omega) fl_1_28 rfl ?_
      refine A_iconst (a := 3) (by decide +kernel) (by unfold in32; omega) ?_
      refine A_aload_n (i := 1) (f := 1) (by omega) rfl (by decide +kernel) rfl ?_
      refine B_getr (o' := ((23 : Nat) : Int)) (q := (RX0, TX0, 9)) (ci := 0) (j := 1) (by decide +kernel) rfl (by decide) rfl (by omega) fl_1_100 rfl ?_
      refine A_iload_n (i := 3) (f := 3) rfl (by decide +kernel) rfl ?_
      refine A_cSNi (args := [(30, ((23 : Nat) : Int)), (0, x3)]) (st := [(0, 3), (30, ((58 : Nat) : Int))]) (by decide +kernel) cv_m10_at st_m10_at lk_1_58 rfl (by omega) (Nat.le_of_ble_eq_true rfl) h180 (fun r181 M182 _ h183 => ?_)
      refine A_aload_n (i := 1) (f := 1) (by omega) rfl (by decide +kernel) rfl ?_
      refine B_getr (o' := ((23 : Nat) : Int)) (q := (RX0, TX0, 9)) (ci := 0) (j := 1) (by decide +kernel) rfl (by decide) rfl (by omega) fl_1_100 rfl ?_
      refine A_aload_n (i := 0) (f := 0) (by omega) rfl (by decide +kernel) rfl ?_
      refine B_getp (v := (M182 52 9)) (q := (RX1, TX1, 9)) (ci := 1) (j := 8) (p := 9) (by decide +kernel) rfl (by decide) rfl (Or.inl rfl) fl_1_41 rfl ?_
      refine A_cSNi (args := [(30, ((23 : Nat) : Int)), (0, (M182 52 9))]) (st := [(0, r181), (0, 3), (30, ((58 : Nat) : Int))]) (by decide +kernel) cv_m10_at st_m10_at lk_1_58 rfl (by omega) (Nat.le_of_ble_eq_true rfl) h183 (fun r184 M185 _ h186 => ?_)
      refine A_ic_le (off := 7) (tgt := 115) (by decide +kernel) (by omega) (fun b187 => ?_) (fun b187 => ?_)
      · have h188 := h186.1 b187
        refine A_iconst (a := 0) (by decide +kernel) (by unfold in32; omega) ?_
        refine A_cSNd (args := [(30, ((58 : Nat) : Int)), (0, 3), (0, 0)]) (st := []) (by decide +kernel) cv_m10_put st_m10_put lk_1_37 rfl (by omega) (Nat.le_of_ble_eq_true rfl) h188 (fun M191 h192 => ?_)
        refine A_aload_n (i := 0) (f := 0) (by omega) rfl (by decide +kernel) rfl ?_
        refine B_getr (o' := ((58 : Nat) : Int)) (q := (RX1, TX1, 9)) (ci := 1) (j := 5) (by decide +kernel) rfl (by decide) rfl (by omega) fl_1_28 rfl ?_
        refine A_iconst (a := 4) (by decide +kernel) (by unfold in32; omega) ?_
        refine A_iconst (a := 0) (by decide +kernel) (by unfold in32; omega) ?_
        refine A_cSNd (args := [(30, ((58 : Nat) : Int)), (0, 4), (0, 0)]) (st := []) (by decide +kernel) cv_m10_put st_m10_put lk_1_37 rfl (by omega) (Nat.le_of_ble_eq_true rfl) h192 (fun M194 h195 => ?_)
        refine A_aload_n (i := 0) (f := 0) (by omega) rfl (by decide +kernel) rfl ?_
        refine B_getr (o' := ((58 : Nat) : Int)) (q := (RX1, TX1, 9)) (ci := 1) (j := 5) (by decide +kernel) rfl (by decide) rfl (by omega) fl_1_28 rfl ?_
        refine A_iconst (a := 5) (by decide +kernel) (by unfold in32; omega) ?_
        refine A_iload_n (i := 2) (f := 2) rfl (by decide +kernel) rfl ?_
        refine A_cSi (args := [(0, x2)]) (st := [(0, 5), (30, ((58 : Nat) : Int))]) (by decide +kernel) cv_m1_seasonOf st_m1_seasonOf lk_1_90 rfl (by omega) (Nat.le_of_ble_eq_true rfl) h195 (fun r196 M197 _ h198 => ?_)
        refine A_cSNd (args := [(30, ((58 : Nat) : Int)), (0, 5), (0, r196)]) (st := []) (by decide +kernel) cv_m10_put st_m10_put lk_1_37 rfl (by omega) (Nat.le_of_ble_eq_true rfl) h198 (fun M200 h201 => ?_)
        refine A_aload_n (i := 0) (f := 0) (by omega) rfl (by decide +kernel) rfl ?_
        refine B_getr (o' := ((58 : Nat) : Int)) (q := (RX1, TX1, 9)) (ci := 1) (j := 5) (by decide +kernel) rfl (by decide) rfl (by omega) fl_1_28 rfl ?_
        refine A_bipush (a := 6) (by decide +kernel) (by unfold in32; omega) (by decide +kernel) ?_
        refine A_iconst (a := 1) (by decide +kernel) (by unfold in32; omega) ?_
        refine A_cSNd (args := [(30, ((58 : Nat) : Int)), (0, 6), (0, 1)]) (st := []) (by decide +kernel) cv_m10_put st_m10_put lk_1_37 rfl (by omega) (Nat.le_of_ble_eq_true rfl) h201 (fun M203 h204 => ?_)
        refine A_aload_n (i := 0) (f := 0) (by omega) rfl (by decide +kernel) rfl ?_
        refine B_getr (o' := ((58 : Nat) : Int)) (q := (RX1, TX1, 9)) (ci := 1) (j := 5) (by decide +kernel) rfl (by decide) rfl (by omega) fl_1_28 rfl ?_
        refine A_bipush (a := 7) (by decide +kernel) (by unfold in32; omega) (by decide +kernel) ?_
        refine A_aload_n (i := 0) (f := 0) (by omega) rfl (by decide +kernel) rfl ?_
        refine A_iload_n (i := 2) (f := 2) rfl (by decide +kernel) rfl ?_
        refine A_iload_n (i := 3) (f := 3) rfl (by decide +kernel) rfl ?_
        refine A_aload_n (i := 1) (f := 1) (by omega) rfl (by decide +kernel) rfl ?_
        refine B_getp (v := (M203 21 2)) (q := (RX0, TX0, 9)) (ci := 0) (j := 2) (p := 2) (by decide +kernel) rfl (by decide) rfl (Or.inl rfl) fl_1_74 rfl ?_
        refine A_cVi (q := (RX1, TX1, 9)) (ci := 1) (o := ((52 : Nat) : Int)) (args := [(0, x2), (0, x3), (0, (M203 21 2))]) (st := [(0, 7), (30, ((58 : Nat) : Int))]) (by decide +kernel) cv_m1_gapTo rfl rfl in_m1_gapTo se_m1_gapTo lk_1_103 rfl (by omega) (Nat.le_of_ble_eq_true rfl) h204 (fun r205 M206 _ h207 => ?_)
        refine A_cSNd (args := [(30, ((58 : Nat) : Int)), (0, 7), (0, r205)]) (st := []) (by decide +kernel) cv_m10_put st_m10_put lk_1_37 rfl (by omega) (Nat.le_of_ble_eq_true rfl) h207 (fun M209 h210 => ?_)
        refine A_aload_n (i := 1) (f := 1) (by omega) rfl (by decide +kernel) rfl ?_
        refine B_getr (o' := ((25 : Nat) : Int)) (q := (RX0, TX0, 9)) (ci := 0) (j := 5) (by decide +kernel) rfl (by decide) rfl (by omega) fl_1_107 rfl ?_
        refine A_iconst (a := 5) (by decide +kernel) (by unfold in32; omega) ?_
        refine A_aload_n (i := 0) (f := 0) (by omega) rfl (by decide +kernel) rfl ?_
        refine B_getr (o' := ((58 : Nat) : Int)) (q := (RX1, TX1, 9)) (ci := 1) (j := 5) (by decide +kernel) rfl (by decide) rfl (by omega) fl_1_28 rfl ?_
        refine A_cVl (q := (RX3, TX3, 6)) (ci := 3) (o := ((25 : Nat) : Int)) (args := [(0, 5), (30, ((58 : Nat) : Int))]) (st := []) (by decide +kernel) cv_m3_work rfl rfl in_m3_work se_m3_work lk_1_113 rfl (by omega) (Nat.le_of_ble_eq_true rfl) h210 (fun r211 M212 _ h213 => ?_)
        refine A_lstore (i := 7) (by decide +kernel) (by decide) (fun w h0 hw => by simp at hw; first | (rw [← hw]; decide) | (rw [← hw]; simp)) ?_
        refine A_lload (i := 7) (by decide +kernel) rfl ?_
        refine A_ldc2 (by decide +kernel) (by unfold in64; omega) kl_1_117 rfl ?_
        refine A_lcmp (by decide +kernel) ?_
        refine A_if_ne (off := 8) (tgt := 197) (by decide +kernel) (by omega) (fun b214 => ?_) (fun b214 => ?_)
        · have h215 := h213.1 (fun e => b214 (lcmp_eq.mpr e))
          refine A_lload (i := 7) (by decide +kernel) rfl ?_
          refine A_lconst (n := 0) (a := 0) (by decide +kernel) (by unfold in64; omega) (by decide +kernel) ?_
          refine A_lcmp (by decide +kernel) ?_
          refine A_if_eq (off := 7) (tgt := 208) (by decide +kernel) (by omega) (fun b217 => ?_) (fun b217 => ?_)
          · have h218 := h215.1 (lcmp_eq.mp b217)
            refine A_iconst (a := 0) (by decide +kernel) (by unfold in32; omega) ?_
            exact A_ret ⟨by decide +kernel, Or.inr ⟨rfl, by decide⟩⟩ ⟨_, rfl, h218⟩
          · have h219 := h215.2 (fun e => b217 (lcmp_eq.mpr e))
            refine A_iconst (a := 1) (by decide +kernel) (by unfold in32; omega) ?_
            refine A_goto (off := 4) (tgt := 209) (by decide +kernel) (by omega) ?_
            exact A_ret ⟨by decide +kernel, Or.inr ⟨rfl, by decide⟩⟩ ⟨_, rfl, h219⟩
        · have h216 := h213.2 (lcmp_eq.mp (Decidable.not_not.mp b214))
          refine A_iload (i := 4) (by decide +kernel) rfl ?_
          refine A_goto (off := 15) (tgt := 209) (by decide +kernel) (by omega) ?_
          exact A_ret ⟨by decide +kernel, Or.inr ⟨rfl, h216.1⟩⟩ ⟨_, rfl, h216.2⟩
      · have h189 := h186.2 (Int.not_le.mp b187)
        refine A_iconst (a := 1) (by decide +kernel) (by unfold in32; omega) ?_
        refine A_goto (off := 4) (tgt := 116) (by decide +kernel) (by omega) ?_
        refine A_cSNd (args := [(30, ((58 : Nat) : Int)), (0, 3), (0, 1)]) (st := []) (by decide +kernel) cv_m10_put st_m10_put lk_1_37 rfl (by omega) (Nat.le_of_ble_eq_true rfl) h189 (fun M221 h222 => ?_)
        refine A_aload_n (i := 0) (f := 0) (by omega) rfl (by decide +kernel) rfl ?_
        refine B_getr (o' := ((58 : Nat) : Int)) (q := (RX1, TX1, 9)) (ci := 1) (j := 5) (by decide +kernel) rfl (by decide) rfl (by omega) fl_1_28 rfl ?_
        refine A_iconst (a := 4) (by decide +kernel) (by unfold in32; omega) ?_
        refine A_iconst (a := 0) (by decide +kernel) (by unfold in32; omega) ?_
        refine A_cSNd (args := [(30, ((58 : Nat) : Int)), (0, 4), (0, 0)]) (st := []) (by decide +kernel) cv_m10_put st_m10_put lk_1_37 rfl (by omega) (Nat.le_of_ble_eq_true rfl) h222 (fun M224 h225 => ?_)
        refine A_aload_n (i := 0) (f := 0) (by omega) rfl (by decide +kernel) rfl ?_
        refine B_getr (o' := ((58 : Nat) : Int)) (q := (RX1, TX1, 9)) (ci := 1) (j := 5) (by decide +kernel) rfl (by decide) rfl (by omega) fl_1_28 rfl ?_
        refine A_iconst (a := 5) (by decide +kernel) (by unfold in32; omega) ?_
        refine A_iload_n (i := 2) (f := 2) rfl (by decide +kernel) rfl ?_
        refine A_cSi (args := [(0, x2)]) (st := [(0, 5), (30, ((58 : Nat) : Int))]) (by decide +kernel) cv_m1_seasonOf st_m1_seasonOf lk_1_90 rfl (by omega) (Nat.le_of_ble_eq_true rfl) h225 (fun r226 M227 _ h228 => ?_)
        refine A_cSNd (args := [(30, ((58 : Nat) : Int)), (0, 5), (0, r226)]) (st := []) (by decide +kernel) cv_m10_put st_m10_put lk_1_37 rfl (by omega) (Nat.le_of_ble_eq_true rfl) h228 (fun M230 h231 => ?_)
        refine A_aload_n (i := 0) (f := 0) (by omega) rfl (by decide +kernel) rfl ?_
        refine B_getr (o' := ((58 : Nat) : Int)) (q := (RX1, TX1, 9)) (ci := 1) (j := 5) (by decide +kernel) rfl (by decide) rfl (by omega) fl_1_28 rfl ?_
        refine A_bipush (a := 6) (by decide +kernel) (by unfold in32; omega) (by decide +kernel) ?_
        refine A_iconst (a := 1) (by decide +kernel) (by unfold in32; omega) ?_
        refine A_cSNd (args := [(30, ((58 : Nat) : Int)), (0, 6), (0, 1)]) (st := []) (by decide +kernel) cv_m10_put st_m10_put lk_1_37 rfl (by omega) (Nat.le_of_ble_eq_true rfl) h231 (fun M233 h234 => ?_)
        refine A_aload_n (i := 0) (f := 0) (by omega) rfl (by decide +kernel) rfl ?_
        refine B_getr (o' := ((58 : Nat) : Int)) (q := (RX1, TX1, 9)) (ci := 1) (j := 5) (by decide +kernel) rfl (by decide) rfl (by omega) fl_1_28 rfl ?_
        refine A_bipush (a := 7) (by decide +kernel) (by unfold in32; omega) (by decide +kernel) ?_
        refine A_aload_n (i := 0) (f := 0) (by omega) rfl (by decide +kernel) rfl ?_
        refine A_iload_n (i := 2) (f := 2) rfl (by decide +kernel) rfl ?_
        refine A_iload_n (i := 3) (f := 3) rfl (by decide +kernel) rfl ?_
        refine A_aload_n (i := 1) (f := 1) (by omega) rfl (by decide +kernel) rfl ?_
        refine B_getp (v := (M233 21 2)) (q := (RX0, TX0, 9)) (ci := 0) (j := 2) (p := 2) (by decide +kernel) rfl (by decide) rfl (Or.inl rfl) fl_1_74 rfl ?_
        refine A_cVi (q := (RX1, TX1, 9)) (ci := 1) (o := ((52 : Nat) : Int)) (args := [(0, x2), (0, x3), (0, (M233 21 2))]) (st := [(0, 7), (30, ((58 : Nat) : Int))]) (by decide +kernel) cv_m1_gapTo rfl rfl in_m1_gapTo se_m1_gapTo lk_1_103 rfl (by omega) (Nat.le_of_ble_eq_true rfl) h234 (fun r235 M236 _ h237 => ?_)
        refine A_cSNd (args := [(30, ((58 : Nat) : Int)), (0, 7), (0, r235)]) (st := []) (by decide +kernel) cv_m10_put st_m10_put lk_1_37 rfl (by omega) (Nat.le_of_ble_eq_true rfl) h237 (fun M239 h240 => ?_)
        refine A_aload_n (i := 1) (f := 1) (by omega) rfl (by decide +kernel) rfl ?_
        refine B_getr (o' := ((25 : Nat) : Int)) (q := (RX0, TX0, 9)) (ci := 0) (j := 5) (by decide +kernel) rfl (by decide) rfl (by omega) fl_1_107 rfl ?_
        refine A_iconst (a := 5) (by decide +kernel) (by unfold in32; omega) ?_
        refine A_aload_n (i := 0) (f := 0) (by omega) rfl (by decide +kernel) rfl ?_
        refine B_getr (o' := ((58 : Nat) : Int)) (q := (RX1, TX1, 9)) (ci := 1) (j := 5) (by decide +kernel) rfl (by decide) rfl (by omega) fl_1_28 rfl ?_
        refine A_cVl (q := (RX3, TX3, 6)) (ci := 3) (o := ((25 : Nat) : Int)) (args := [(0, 5), (30, ((58 : Nat) : Int))]) (st := []) (by decide +kernel) cv_m3_work rfl rfl in_m3_work se_m3_work lk_1_113 rfl (by omega) (Nat.le_of_ble_eq_true rfl) h240 (fun r241 M242 _ h243 => ?_)
        refine A_lstore (i := 7) (by decide +kernel) (by decide) (fun w h0 hw => by simp at hw; first | (rw [← hw]; decide) | (rw [← hw]; simp)) ?_
        refine A_lload (i := 7) (by decide +kernel) rfl ?_
        refine A_ldc2 (by decide +kernel) (by unfold in64; omega) kl_1_117 rfl ?_
        refine A_lcmp (by decide +kernel) ?_
        refine A_if_ne (off := 8) (tgt := 197) (by decide +kernel) (by omega) (fun b244 => ?_) (fun b244 => ?_)
        · have h245 := h243.1 (fun e => b244 (lcmp_eq.mpr e))
          refine A_lload (i := 7) (by decide +kernel) rfl ?_
          refine A_lconst (n := 0) (a := 0) (by decide +kernel) (by unfold in64; omega) (by decide +kernel) ?_
          refine A_lcmp (by decide +kernel) ?_
          refine A_if_eq (off := 7) (tgt := 208) (by decide +kernel) (by omega) (fun b247 => ?_) (fun b247 => ?_)
          · have h248 := h245.1 (lcmp_eq.mp b247)
            refine A_iconst (a := 0) (by decide +kernel) (by unfold in32; omega) ?_
            exact A_ret ⟨by decide +kernel, Or.inr ⟨rfl, by decide⟩⟩ ⟨_, rfl, h248⟩
          · have h249 := h245.2 (fun e => b247 (lcmp_eq.mpr e))
            refine A_iconst (a := 1) (by decide +kernel) (by unfold in32; omega) ?_
            refine A_goto (off := 4) (tgt := 209) (by decide +kernel) (by omega) ?_
            exact A_ret ⟨by decide +kernel, Or.inr ⟨rfl, by decide⟩⟩ ⟨_, rfl, h249⟩
        · have h246 := h243.2 (lcmp_eq.mp (Decidable.not_not.mp b244))
          refine A_iload (i := 4) (by decide +kernel) rfl ?_
          refine A_goto (off := 15) (tgt := 209) (by decide +kernel) (by omega) ?_
          exact A_ret ⟨by decide +kernel, Or.inr ⟨rfl, h246.1⟩⟩ ⟨_, rfl, h246.2⟩
  · have h6 := h3.2 (Decidable.not_not.mp b4)
    refine A_iload (i := 4) (by decide +kernel) rfl ?_
    exact A_ret ⟨by decide +kernel, Or.inr ⟨rfl, h6.1⟩⟩ ⟨_, rfl, h6.2⟩
theorem q_1_gapTo {x1 : Int} {x2 : Int} {x3 : Int} {M : Mem} {P : Int → Mem → Prop} (h : A m1_gapTo 3 0 6 [(11, ((52 : Nat) : Int)), (0, x1), (0, x2), (0, x3), (0, 0), (0, 0)] [] M (Ki P)) : CI m1_gapTo 3 [(11, ((52 : Nat) : Int)), (0, x1), (0, x2), (0, x3)] M P := by
  refine CI_of (by decide +kernel) (Nat.le_of_ble_eq_true rfl) ?_
  show A m1_gapTo 3 0 0 [(11, ((52 : Nat) : Int)), (0, x1), (0, x2), (0, x3), (2, 0), (2, 0)] [] M (Ki P)
  refine A_iconst (a := 0) (by decide +kernel) (by unfold in32; omega) ?_
  refine A_istore (i := 4) (by decide +kernel) (by decide) (fun w h0 hw => by simp at hw; first | (rw [← hw]; decide) | (rw [← hw]; simp)) ?_
  refine A_iconst (a := 0) (by decide +kernel) (by unfold in32; omega) ?_
  refine A_istore (i := 5) (by decide +kernel) (by decide) (fun w h0 hw => by simp at hw; first | (rw [← hw]; decide) | (rw [← hw]; simp)) ?_
  exact A_weak (lsub.keep (lsub.keep (lsub.keep (lsub.keep (lsub.keep (lsub.keep lsub.nil)))))) h
theorem r_1_gapTo_6 {x1 : Int} {x2 : Int} {x3 : Int} {x4 : Int} {x5 : Int} {M : Mem} {P : Int → Mem → Prop} (h : ((x3 ≤ x5 → (P x4 M)) ∧ (x5 < x3 → (CI m1_isAbove 2 [(11, ((52 : Nat) : Int)), (0, x1), (0, x5), (0, (M 52 9))] M (fun r4 M5 => ((r4 = 0 → A m1_gapTo 3 0 6 [(11, ((52 : Nat) : Int)), (0, x1), (0, x2), (0, x3), (0, x4), (0, (w32 (x5 + 1)))] [] M5 (Ki P)) ∧ (r4 ≠ 0 → (CI m1_isAbove 2 [(11, ((52 : Nat) : Int)), (0, x1), (0, x5), (0, x2)] M5 (fun r10 M11 => ((r10 ≠ 0 → A m1_gapTo 3 0 6 [(11, ((52 : Nat) : Int)), (0, x1), (0, x2), (0, x3), (0, x4), (0, (w32 (x5 + 1)))] [] M11 (Ki P)) ∧ (r10 = 0 → A m1_gapTo 3 0 6 [(11, ((52 : Nat) : Int)), (0, x1), (0, x2), (0, x3), (0, (w32 (x4 + 1))), (0, (w32 (x5 + 1)))] [] M11 (Ki P)))))))))))) : A m1_gapTo 3 0 6 [(11, ((52 : Nat) : Int)), (0, x1), (0, x2), (0, x3), (0, x4), (0, x5)] [] M (Ki P) := by
  refine A_iload (i := 5) (by decide +kernel) rfl ?_
  refine A_iload_n (i := 3) (f := 3) rfl (by decide +kernel) rfl ?_
  refine A_ic_ge (off := 37) (tgt := 46) (by decide +kernel) (by omega) (fun b1 => ?_) (fun b1 => ?_)
  · have h2 := h.1 b1
    refine A_iload (i := 4) (by decide +kernel) rfl ?_
    exact A_ret ⟨by decide +kernel, Or.inl rfl⟩ ⟨_, rfl, h2⟩
  · have h3 := h.2 (Int.not_le.mp b1)
    refine A_aload_n (i := 0) (f := 0) (by omega) rfl (by decide +kernel) rfl ?_
    refine A_iload_n (i := 1) (f := 1) rfl (by decide +kernel) rfl ?_
    refine A_iload (i := 5) (by decide +kernel) rfl ?_
    refine A_aload_n (i := 0) (f := 0) (by omega) rfl (by decide +kernel) rfl ?_
    refine B_getp (v := (M 52 9)) (q := (RX1, TX1, 9)) (ci := 1) (j := 8) (p := 9) (by decide +kernel) rfl (by decide) rfl (Or.inl rfl) fl_1_41 rfl ?_
    refine A_cVi (q := (RX1, TX1, 9)) (ci := 1) (o := ((52 : Nat) : Int)) (args := [(0, x1), (0, x5), (0, (M 52 9))]) (st := []) (by decide +kernel) cv_m1_isAbove rfl rfl in_m1_isAbove se_m1_isAbove lk_1_62 rfl (by omega) (Nat.le_of_ble_eq_true rfl) h3 (fun r4 M5 _ h6 => ?_)
    refine A_if_eq (off := 17) (tgt := 40) (by decide +kernel) (by omega) (fun b7 => ?_) (fun b7 => ?_)
    · have h8 := h6.1 b7
      refine A_iinc (i := 5) (n := 1) (by decide +kernel) (by decide) rfl (fun w h0 hw => by simp at hw; first | (rw [← hw]; decide) | (rw [← hw]; simp)) ?_
      refine A_goto (off := (-37)) (tgt := 6) (by decide +kernel) (by omega) ?_
      exact A_weak (lsub.keep (lsub.keep (lsub.keep (lsub.keep (lsub.keep (lsub.keep lsub.nil)))))) h8
    · have h9 := h6.2 b7
      refine A_aload_n (i := 0) (f := 0) (by omega) rfl (by decide +kernel) rfl ?_
      refine A_iload_n (i := 1) (f := 1) rfl (by decide +kernel) rfl ?_
      refine A_iload (i := 5) (by decide +kernel) rfl ?_
      refine A_iload_n (i := 2) (f := 2) rfl (by decide +kernel) rfl ?_
      refine A_cVi (q := (RX1, TX1, 9)) (ci := 1) (o := ((52 : Nat) : Int)) (args := [(0, x1), (0, x5), (0, x2)]) (st := []) (by decide +kernel) cv_m1_isAbove rfl rfl in_m1_isAbove se_m1_isAbove lk_1_62 rfl (by omega) (Nat.le_of_ble_eq_true rfl) h9 (fun r10 M11 _ h12 => ?_)
      refine A_if_ne (off := 6) (tgt := 40) (by decide +kernel) (by omega) (fun b13 => ?_) (fun b13 => ?_)
      · have h14 := h12.1 b13
        refine A_iinc (i := 5) (n := 1) (by decide +kernel) (by decide) rfl (fun w h0 hw => by simp at hw; first | (rw [← hw]; decide) | (rw [← hw]; simp)) ?_
        refine A_goto (off := (-37)) (tgt := 6) (by decide +kernel) (by omega) ?_
        exact A_weak (lsub.keep (lsub.keep (lsub.keep (lsub.keep (lsub.keep (lsub.keep lsub.nil)))))) h14
      · have h15 := h12.2 (Decidable.not_not.mp b13)
        refine A_iinc (i := 4) (n := 1) (by decide +kernel) (by decide) rfl (fun w h0 hw => by simp at hw; first | (rw [← hw]; decide) | (rw [← hw]; simp)) ?_
        refine A_iinc (i := 5) (n := 1) (by decide +kernel) (by decide) rfl (fun w h0 hw => by simp at hw; first | (rw [← hw]; decide) | (rw [← hw]; simp)) ?_
        refine A_goto (off := (-37)) (tgt := 6) (by decide +kernel) (by omega) ?_
        exact A_weak (lsub.keep (lsub.keep (lsub.keep (lsub.keep (lsub.keep (lsub.keep lsub.nil)))))) h15
theorem q_1_countSteps  {M : Mem} {P : Int → Mem → Prop} (h : (CI m10_at 1 [(30, ((55 : Nat) : Int)), (0, (M 52 7))] M (fun r1 M2 => A m1_countSteps 2 0 16 [(11, ((52 : Nat) : Int)), (0, 0), (0, r1), (0, 0)] [] M2 (Ki P)))) : CI m1_countSteps 2 [(11, ((52 : Nat) : Int))] M P := by
  refine CI_of (by decide +kernel) (Nat.le_of_ble_eq_true rfl) ?_
  show A m1_countSteps 2 0 0 [(11, ((52 : Nat) : Int)), (2, 0), (2, 0), (2, 0)] [] M (Ki P)
  refine A_iconst (a := 0) (by decide +kernel) (by unfold in32; omega) ?_
  refine A_istore_n (i := 1) (f := 1) rfl (by decide +kernel) (by decide) (fun w h0 hw => by simp at hw; first | (rw [← hw]; decide) | (rw [← hw]; simp)) ?_
  refine A_aload_n (i := 0) (f := 0) (by omega) rfl (by decide +kernel) rfl ?_
  refine B_getr (o' := ((55 : Nat) : Int)) (q := (RX1, TX1, 9)) (ci := 1) (j := 2) (by decide +kernel) rfl (by decide) rfl (by omega) fl_1_18 rfl ?_
  refine A_aload_n (i := 0) (f := 0) (by omega) rfl (by decide +kernel) rfl ?_
  refine B_getp (v := (M 52 7)) (q := (RX1, TX1, 9)) (ci := 1) (j := 7) (p := 7) (by decide +kernel) rfl (by decide) rfl (Or.inl rfl) fl_1_48 rfl ?_
  refine A_cSNi (args := [(30, ((55 : Nat) : Int)), (0, (M 52 7))]) (st := []) (by decide +kernel) cv_m10_at st_m10_at lk_1_58 rfl (by omega) (Nat.le_of_ble_eq_true rfl) h (fun r1 M2 _ h3 => ?_)
  refine A_istore_n (i := 2) (f := 2) rfl (by decide +kernel) (by decide) (fun w h0 hw => by simp at hw; first | (rw [← hw]; decide) | (rw [← hw]; simp)) ?_
  refine A_iconst (a := 0) (by decide +kernel) (by unfold in32; omega) ?_
  refine A_istore_n (i := 3) (f := 3) rfl (by decide +kernel) (by decide) (fun w h0 hw => by simp at hw; first | (rw [← hw]; decide) | (rw [← hw]; simp)) ?_
  exact A_weak (lsub.keep (lsub.keep (lsub.keep (lsub.keep lsub.nil)))) h3
theorem r_1_countSteps_16 {x1 : Int} {x2 : Int} {x3 : Int} {M : Mem} {P : Int → Mem → Prop} (h : ((480 ≤ x3 → (P x1 M)) ∧ (x3 < 480 → ((x2 = (-1) → (P x1 M)) ∧ (x2 ≠ (-1) → (CI m10_at 1 [(30, ((55 : Nat) : Int)), (0, x2)] M (fun r7 M8 => A m1_countSteps 2 0 16 [(11, ((52 : Nat) : Int)), (0, (w32 (x1 + 1))), (0, r7), (0, (w32 (x3 + 1)))] [] M8 (Ki P)))))))) : A m1_countSteps 2 0 16 [(11, ((52 : Nat) : Int)), (0, x1), (0, x2), (0, x3)] [] M (Ki P) := by
  refine A_iload_n (i := 3) (f := 3) rfl (by decide +kernel) rfl ?_
  refine A_sipush (a := 480) (by decide +kernel) (by unfold in32; omega) (by decide +kernel) ?_
  refine A_ic_ge (off := 26) (tgt := 46) (by decide +kernel) (by omega) (fun b1 => ?_) (fun b1 => ?_)
  · have h2 := h.1 b1
    refine A_iload_n (i := 1) (f := 1) rfl (by decide +kernel) rfl ?_
    exact A_ret ⟨by decide +kernel, Or.inl rfl⟩ ⟨_, rfl, h2⟩
  · have h3 := h.2 (Int.not_le.mp b1)
    refine A_iload_n (i := 2) (f := 2) rfl (by decide +kernel) rfl ?_
    refine A_iconst (a := (-1)) (by decide +kernel) (by unfold in32; omega) ?_
    refine A_ic_eq (off := 21) (tgt := 46) (by decide +kernel) (by omega) (fun b4 => ?_) (fun b4 => ?_)
    · have h5 := h3.1 b4
      refine A_iload_n (i := 1) (f := 1) rfl (by decide +kernel) rfl ?_
      exact A_ret ⟨by decide +kernel, Or.inl rfl⟩ ⟨_, rfl, h5⟩
    · have h6 := h3.2 b4
      refine A_iinc (i := 1) (n := 1) (by decide +kernel) (by decide) rfl (fun w h0 hw => by simp at hw; first | (rw [← hw]; decide) | (rw [← hw]; simp)) ?_
      refine A_aload_n (i := 0) (f := 0) (by omega) rfl (by decide +kernel) rfl ?_
      refine B_getr (o' := ((55 : Nat) : Int)) (q := (RX1, TX1, 9)) (ci := 1) (j := 2) (by decide +kernel) rfl (by decide) rfl (by omega) fl_1_18 rfl ?_
      refine A_iload_n (i := 2) (f := 2) rfl (by decide +kernel) rfl ?_
      refine A_cSNi (args := [(30, ((55 : Nat) : Int)), (0, x2)]) (st := []) (by decide +kernel) cv_m10_at st_m10_at lk_1_58 rfl (by omega) (Nat.le_of_ble_eq_true rfl) h6 (fun r7 M8 _ h9 => ?_)
      refine A_istore_n (i := 2) (f := 2) rfl (by decide +kernel) (by decide) (fun w h0 hw => by simp at hw; first | (rw [← hw]; decide) | (rw [← hw]; simp)) ?_
      refine A_iinc (i := 3) (n := 1) (by decide +kernel) (by decide) rfl (fun w h0 hw => by simp at hw; first | (rw [← hw]; decide) | (rw [← hw]; simp)) ?_
      refine A_goto (off := (-27)) (tgt := 16) (by decide +kernel) (by omega) ?_
      exact A_weak (lsub.keep (lsub.keep (lsub.keep (lsub.keep lsub.nil)))) h9
theorem q_1_hearerOfStep {x1 : Int} {x2 : Int} {M : Mem} {P : Int → Mem → Prop} (h : A m1_hearerOfStep 2 0 10 [(11, ((52 : Nat) : Int)), (0, x1), (2, 0), (0, (M 52 7)), (0, (w32 (x2 - 1)))] [] M (Ki P)) : CI m1_hearerOfStep 2 [(11, ((52 : Nat) : Int)), (0, x1), (0, x2)] M P := by
  refine CI_of (by decide +kernel) (Nat.le_of_ble_eq_true rfl) ?_
  show A m1_hearerOfStep 2 0 0 [(11, ((52 : Nat) : Int)), (0, x1), (0, x2), (2, 0), (2, 0)] [] M (Ki P)
  refine A_aload_n (i := 0) (f := 0) (by omega) rfl (by decide +kernel) rfl ?_
  refine B_getp (v := (M 52 7)) (q := (RX1, TX1, 9)) (ci := 1) (j := 7) (p := 7) (by decide +kernel) rfl (by decide) rfl (Or.inl rfl) fl_1_48 rfl ?_
  refine A_istore_n (i := 3) (f := 3) rfl (by decide +kernel) (by decide) (fun w h0 hw => by simp at hw; first | (rw [← hw]; decide) | (rw [← hw]; simp)) ?_
  refine A_iload_n (i := 2) (f := 2) rfl (by decide +kernel) rfl ?_
  refine A_iconst (a := 1) (by decide +kernel) (by unfold in32; omega) ?_
  refine A_isub (by decide +kernel) ?_
  refine A_istore (i := 4) (by decide +kernel) (by decide) (fun w h0 hw => by simp at hw; first | (rw [← hw]; decide) | (rw [← hw]; simp)) ?_
  exact A_weak (lsub.keep (lsub.keep (lsub.drop (lsub.keep (lsub.keep lsub.nil))))) h
theorem r_1_hearerOfStep_10 {x1 : Int} {x3 : Int} {x4 : Int} {M : Mem} {P : Int → Mem → Prop} (h : ((x4 ≤ x1 → (CI m10_at 1 [(30, ((56 : Nat) : Int)), (0, x3)] M (fun r4 M5 => (P r4 M5)))) ∧ (x1 < x4 → (CI m10_at 1 [(30, ((55 : Nat) : Int)), (0, x3)] M (fun r7 M8 => A m1_hearerOfStep 2 0 10 [(11, ((52 : Nat) : Int)), (0, x1), (2, 0), (0, r7), (0, (w32 (x4 + (-1))))] [] M8 (Ki P)))))) : A m1_hearerOfStep 2 0 10 [(11, ((52 : Nat) : Int)), (0, x1), (2, 0), (0, x3), (0, x4)] [] M (Ki P) := by
  refine A_iload (i := 4) (by decide +kernel) rfl ?_
  refine A_iload_n (i := 1) (f := 1) rfl (by decide +kernel) rfl ?_
  refine A_ic_le (off := 18) (tgt := 31) (by decide +kernel) (by omega) (fun b1 => ?_) (fun b1 => ?_)
  · have h2 := h.1 b1
    refine A_aload_n (i := 0) (f := 0) (by omega) rfl (by decide +kernel) rfl ?_
    refine B_getr (o' := ((56 : Nat) : Int)) (q := (RX1, TX1, 9)) (ci := 1) (j := 3) (by decide +kernel) rfl (by decide) rfl (by omega) fl_1_21 rfl ?_
    refine A_iload_n (i := 3) (f := 3) rfl (by decide +kernel) rfl ?_
    refine A_cSNi (args := [(30, ((56 : Nat) : Int)), (0, x3)]) (st := []) (by decide +kernel) cv_m10_at st_m10_at lk_1_58 rfl (by omega) (Nat.le_of_ble_eq_true rfl) h2 (fun r4 M5 _ h6 => ?_)
    exact A_ret ⟨by decide +kernel, Or.inl rfl⟩ ⟨_, rfl, h6⟩
  · have h3 := h.2 (Int.not_le.mp b1)
    refine A_aload_n (i := 0) (f := 0) (by omega) rfl (by decide +kernel) rfl ?_
    refine B_getr (o' := ((55 : Nat) : Int)) (q := (RX1, TX1, 9)) (ci := 1) (j := 2) (by decide +kernel) rfl (by decide) rfl (by omega) fl_1_18 rfl ?_
    refine A_iload_n (i := 3) (f := 3) rfl (by decide +kernel) rfl ?_
    refine A_cSNi (args := [(30, ((55 : Nat) : Int)), (0, x3)]) (st := []) (by decide +kernel) cv_m10_at st_m10_at lk_1_58 rfl (by omega) (Nat.le_of_ble_eq_true rfl) h3 (fun r7 M8 _ h9 => ?_)
    refine A_istore_n (i := 3) (f := 3) rfl (by decide +kernel) (by decide) (fun w h0 hw => by simp at hw; first | (rw [← hw]; decide) | (rw [← hw]; simp)) ?_
    refine A_iinc (i := 4) (n := (-1)) (by decide +kernel) (by decide) rfl (fun w h0 hw => by simp at hw; first | (rw [← hw]; decide) | (rw [← hw]; simp)) ?_
    refine A_goto (off := (-18)) (tgt := 10) (by decide +kernel) (by omega) ?_
    exact A_weak (lsub.keep (lsub.keep (lsub.drop (lsub.keep (lsub.keep lsub.nil))))) h9
