/-! CourtTongue$Memory: its regions (made by wip/whole/gall.py) -/
theorem q_4_clear  {M : Mem} {P : Mem → Prop} (h : (P (mset (mset M 43 5 0) 43 6 (-1)))) : CD m4_clear 1 [(14, ((43 : Nat) : Int))] M P := by
  refine CD_of (by decide +kernel) (Nat.le_of_ble_eq_true rfl) ?_
  show A m4_clear 1 0 0 [(14, ((43 : Nat) : Int))] [] M (Kd P)
  refine A_aload_n (i := 0) (f := 0) (by omega) rfl (by decide +kernel) rfl ?_
  refine A_iconst (a := 0) (by decide +kernel) (by unfold in32; omega) ?_
  refine B_putp (M' := (mset M 43 5 0)) (q := (RX4, TX4, 7)) (ci := 4) (j := 5) (p := 5) (by decide +kernel) rfl (by decide) rfl (Or.inl ⟨rfl, rfl⟩) rfl fl_4_31 rfl ?_
  refine A_aload_n (i := 0) (f := 0) (by omega) rfl (by decide +kernel) rfl ?_
  refine A_iconst (a := (-1)) (by decide +kernel) (by unfold in32; omega) ?_
  refine B_putp (M' := (mset (mset M 43 5 0) 43 6 (-1))) (q := (RX4, TX4, 7)) (ci := 4) (j := 6) (p := 6) (by decide +kernel) rfl (by decide) rfl (Or.inl ⟨rfl, rfl⟩) rfl fl_4_27 rfl ?_
  exact A_ret ⟨by decide +kernel, rfl⟩ ⟨rfl, h⟩
theorem q_4_addSaying {x1 : Int} {x2 : Int} {x3 : Int} {x4 : Int} {M : Mem} {P : Int → Mem → Prop} (h : (CD m10_put 1 [(30, ((44 : Nat) : Int)), (0, (M 43 5)), (0, x1)] M (fun M2 => (CD m10_put 1 [(30, ((45 : Nat) : Int)), (0, (M2 43 5)), (0, x2)] M2 (fun M5 => (CD m10_put 1 [(30, ((46 : Nat) : Int)), (0, (M5 43 5)), (0, x3)] M5 (fun M8 => (CD m10_put 1 [(30, ((47 : Nat) : Int)), (0, (M8 43 5)), (0, x4)] M8 (fun M11 => (CI m4_addStrike 2 [(14, ((43 : Nat) : Int)), (0, (-1))] M11 (fun r13 M14 => (P r13 M14)))))))))))) : CI m4_addSaying 3 [(14, ((43 : Nat) : Int)), (0, x1), (0, x2), (0, x3), (0, x4)] M P := by
  refine CI_of (by decide +kernel) (Nat.le_of_ble_eq_true rfl) ?_
  show A m4_addSaying 3 0 0 [(14, ((43 : Nat) : Int)), (0, x1), (0, x2), (0, x3), (0, x4)] [] M (Ki P)
  refine A_aload_n (i := 0) (f := 0) (by omega) rfl (by decide +kernel) rfl ?_
  refine B_getr (o' := ((44 : Nat) : Int)) (q := (RX4, TX4, 7)) (ci := 4) (j := 0) (by decide +kernel) rfl (by decide) rfl (by omega) fl_4_9 rfl ?_
  refine A_aload_n (i := 0) (f := 0) (by omega) rfl (by decide +kernel) rfl ?_
  refine B_getp (v := (M 43 5)) (q := (RX4, TX4, 7)) (ci := 4) (j := 5) (p := 5) (by decide +kernel) rfl (by decide) rfl (Or.inl rfl) fl_4_31 rfl ?_
  refine A_iload_n (i := 1) (f := 1) rfl (by decide +kernel) rfl ?_
  refine A_cSNd (args := [(30, ((44 : Nat) : Int)), (0, (M 43 5)), (0, x1)]) (st := []) (by decide +kernel) cv_m10_put st_m10_put lk_4_34 rfl (by omega) (Nat.le_of_ble_eq_true rfl) h (fun M2 h3 => ?_)
  refine A_aload_n (i := 0) (f := 0) (by omega) rfl (by decide +kernel) rfl ?_
  refine B_getr (o' := ((45 : Nat) : Int)) (q := (RX4, TX4, 7)) (ci := 4) (j := 1) (by decide +kernel) rfl (by decide) rfl (by omega) fl_4_15 rfl ?_
  refine A_aload_n (i := 0) (f := 0) (by omega) rfl (by decide +kernel) rfl ?_
  refine B_getp (v := (M2 43 5)) (q := (RX4, TX4, 7)) (ci := 4) (j := 5) (p := 5) (by decide +kernel) rfl (by decide) rfl (Or.inl rfl) fl_4_31 rfl ?_
  refine A_iload_n (i := 2) (f := 2) rfl (by decide +kernel) rfl ?_
  refine A_cSNd (args := [(30, ((45 : Nat) : Int)), (0, (M2 43 5)), (0, x2)]) (st := []) (by decide +kernel) cv_m10_put st_m10_put lk_4_34 rfl (by omega) (Nat.le_of_ble_eq_true rfl) h3 (fun M5 h6 => ?_)
  refine A_aload_n (i := 0) (f := 0) (by omega) rfl (by decide +kernel) rfl ?_
  refine B_getr (o' := ((46 : Nat) : Int)) (q := (RX4, TX4, 7)) (ci := 4) (j := 2) (by decide +kernel) rfl (by decide) rfl (by omega) fl_4_18 rfl ?_
  refine A_aload_n (i := 0) (f := 0) (by omega) rfl (by decide +kernel) rfl ?_
  refine B_getp (v := (M5 43 5)) (q := (RX4, TX4, 7)) (ci := 4) (j := 5) (p := 5) (by decide +kernel) rfl (by decide) rfl (Or.inl rfl) fl_4_31 rfl ?_
  refine A_iload_n (i := 3) (f := 3) rfl (by decide +kernel) rfl ?_
  refine A_cSNd (args := [(30, ((46 : Nat) : Int)), (0, (M5 43 5)), (0, x3)]) (st := []) (by decide +kernel) cv_m10_put st_m10_put lk_4_34 rfl (by omega) (Nat.le_of_ble_eq_true rfl) h6 (fun M8 h9 => ?_)
  refine A_aload_n (i := 0) (f := 0) (by omega) rfl (by decide +kernel) rfl ?_
  refine B_getr (o' := ((47 : Nat) : Int)) (q := (RX4, TX4, 7)) (ci := 4) (j := 3) (by decide +kernel) rfl (by decide) rfl (by omega) fl_4_21 rfl ?_
  refine A_aload_n (i := 0) (f := 0) (by omega) rfl (by decide +kernel) rfl ?_
  refine B_getp (v := (M8 43 5)) (q := (RX4, TX4, 7)) (ci := 4) (j := 5) (p := 5) (by decide +kernel) rfl (by decide) rfl (Or.inl rfl) fl_4_31 rfl ?_
  refine A_iload (i := 4) (by decide +kernel) rfl ?_
  refine A_cSNd (args := [(30, ((47 : Nat) : Int)), (0, (M8 43 5)), (0, x4)]) (st := []) (by decide +kernel) cv_m10_put st_m10_put lk_4_34 rfl (by omega) (Nat.le_of_ble_eq_true rfl) h9 (fun M11 h12 => ?_)
  refine A_aload_n (i := 0) (f := 0) (by omega) rfl (by decide +kernel) rfl ?_
  refine A_iconst (a := (-1)) (by decide +kernel) (by unfold in32; omega) ?_
  refine A_cVi (q := (RX4, TX4, 7)) (ci := 4) (o := ((43 : Nat) : Int)) (args := [(0, (-1))]) (st := []) (by decide +kernel) cv_m4_addStrike rfl rfl in_m4_addStrike se_m4_addStrike lk_4_38 rfl (by omega) (Nat.le_of_ble_eq_true rfl) h12 (fun r13 M14 _ h15 => ?_)
  exact A_ret ⟨by decide +kernel, Or.inl rfl⟩ ⟨_, rfl, h15⟩
theorem q_4_addStrike {x1 : Int} {M : Mem} {P : Int → Mem → Prop} (h : (CD m10_put 1 [(30, ((48 : Nat) : Int)), (0, (M 43 5)), (0, x1)] M (fun M2 => (P (w32 (((mset M2 43 5 (w32 ((M2 43 5) + 1))) 43 5) - 1)) (mset M2 43 5 (w32 ((M2 43 5) + 1))))))) : CI m4_addStrike 2 [(14, ((43 : Nat) : Int)), (0, x1)] M P := by
  refine CI_of (by decide +kernel) (Nat.le_of_ble_eq_true rfl) ?_
  show A m4_addStrike 2 0 0 [(14, ((43 : Nat) : Int)), (0, x1)] [] M (Ki P)
  refine A_aload_n (i := 0) (f := 0) (by omega) rfl (by decide +kernel) rfl ?_
  refine B_getr (o' := ((48 : Nat) : Int)) (q := (RX4, TX4, 7)) (ci := 4) (j := 4) (by decide +kernel) rfl (by decide) rfl (by omega) fl_4_24 rfl ?_
  refine A_aload_n (i := 0) (f := 0) (by omega) rfl (by decide +kernel) rfl ?_
  refine B_getp (v := (M 43 5)) (q := (RX4, TX4, 7)) (ci := 4) (j := 5) (p := 5) (by decide +kernel) rfl (by decide) rfl (Or.inl rfl) fl_4_31 rfl ?_
  refine A_iload_n (i := 1) (f := 1) rfl (by decide +kernel) rfl ?_
  refine A_cSNd (args := [(30, ((48 : Nat) : Int)), (0, (M 43 5)), (0, x1)]) (st := []) (by decide +kernel) cv_m10_put st_m10_put lk_4_34 rfl (by omega) (Nat.le_of_ble_eq_true rfl) h (fun M2 h3 => ?_)
  refine A_aload_n (i := 0) (f := 0) (by omega) rfl (by decide +kernel) rfl ?_
  refine A_dup (by decide +kernel) (by simp) ?_
  refine B_getp (v := (M2 43 5)) (q := (RX4, TX4, 7)) (ci := 4) (j := 5) (p := 5) (by decide +kernel) rfl (by decide) rfl (Or.inl rfl) fl_4_31 rfl ?_
  refine A_iconst (a := 1) (by decide +kernel) (by unfold in32; omega) ?_
  refine A_iadd (by decide +kernel) ?_
  refine B_putp (M' := (mset M2 43 5 (w32 ((M2 43 5) + 1)))) (q := (RX4, TX4, 7)) (ci := 4) (j := 5) (p := 5) (by decide +kernel) rfl (by decide) rfl (Or.inl ⟨rfl, rfl⟩) rfl fl_4_31 rfl ?_
  refine A_aload_n (i := 0) (f := 0) (by omega) rfl (by decide +kernel) rfl ?_
  refine B_getp (v := ((mset M2 43 5 (w32 ((M2 43 5) + 1))) 43 5)) (q := (RX4, TX4, 7)) (ci := 4) (j := 5) (p := 5) (by decide +kernel) rfl (by decide) rfl (Or.inl rfl) fl_4_31 rfl ?_
  refine A_iconst (a := 1) (by decide +kernel) (by unfold in32; omega) ?_
  refine A_isub (by decide +kernel) ?_
  exact A_ret ⟨by decide +kernel, Or.inl rfl⟩ ⟨_, rfl, h3⟩
theorem q_4_knownCount  {M : Mem} {P : Int → Mem → Prop} (h : (((M 43 6) ≠ (-1) → (P (M 43 6) M)) ∧ ((M 43 6) = (-1) → (P (M 43 5) M)))) : CI m4_knownCount 1 [(14, ((43 : Nat) : Int))] M P := by
  refine CI_of (by decide +kernel) (Nat.le_of_ble_eq_true rfl) ?_
  show A m4_knownCount 1 0 0 [(14, ((43 : Nat) : Int))] [] M (Ki P)
  refine A_aload_n (i := 0) (f := 0) (by omega) rfl (by decide +kernel) rfl ?_
  refine B_getp (v := (M 43 6)) (q := (RX4, TX4, 7)) (ci := 4) (j := 6) (p := 6) (by decide +kernel) rfl (by decide) rfl (Or.inl rfl) fl_4_27 rfl ?_
  refine A_iconst (a := (-1)) (by decide +kernel) (by unfold in32; omega) ?_
  refine A_ic_ne (off := 10) (tgt := 15) (by decide +kernel) (by omega) (fun b1 => ?_) (fun b1 => ?_)
  · have h2 := h.1 b1
    refine A_aload_n (i := 0) (f := 0) (by omega) rfl (by decide +kernel) rfl ?_
    refine B_getp (v := (M 43 6)) (q := (RX4, TX4, 7)) (ci := 4) (j := 6) (p := 6) (by decide +kernel) rfl (by decide) rfl (Or.inl rfl) fl_4_27 rfl ?_
    exact A_ret ⟨by decide +kernel, Or.inl rfl⟩ ⟨_, rfl, h2⟩
  · have h3 := h.2 (Decidable.not_not.mp b1)
    refine A_aload_n (i := 0) (f := 0) (by omega) rfl (by decide +kernel) rfl ?_
    refine B_getp (v := (M 43 5)) (q := (RX4, TX4, 7)) (ci := 4) (j := 5) (p := 5) (by decide +kernel) rfl (by decide) rfl (Or.inl rfl) fl_4_31 rfl ?_
    refine A_goto (off := 7) (tgt := 19) (by decide +kernel) (by omega) ?_
    exact A_ret ⟨by decide +kernel, Or.inl rfl⟩ ⟨_, rfl, h3⟩
theorem q_4_knownSayings  {M : Mem} {P : Int → Mem → Prop} (h : (CI m4_knownCount 1 [(14, ((43 : Nat) : Int))] M (fun r1 M2 => A m4_knownSayings 2 0 11 [(14, ((43 : Nat) : Int)), (0, 0), (0, 0), (0, (w32 (r1 - 1))), (2, 0)] [] M2 (Ki P)))) : CI m4_knownSayings 2 [(14, ((43 : Nat) : Int))] M P := by
  refine CI_of (by decide +kernel) (Nat.le_of_ble_eq_true rfl) ?_
  show A m4_knownSayings 2 0 0 [(14, ((43 : Nat) : Int)), (2, 0), (2, 0), (2, 0), (2, 0)] [] M (Ki P)
  refine A_iconst (a := 0) (by decide +kernel) (by unfold in32; omega) ?_
  refine A_istore_n (i := 1) (f := 1) rfl (by decide +kernel) (by decide) (fun w h0 hw => by simp at hw; first | (rw [← hw]; decide) | (rw [← hw]; simp)) ?_
  refine A_iconst (a := 0) (by decide +kernel) (by unfold in32; omega) ?_
  refine A_istore_n (i := 2) (f := 2) rfl (by decide +kernel) (by decide) (fun w h0 hw => by simp at hw; first | (rw [← hw]; decide) | (rw [← hw]; simp)) ?_
  refine A_aload_n (i := 0) (f := 0) (by omega) rfl (by decide +kernel) rfl ?_
  refine A_cVi (q := (RX4, TX4, 7)) (ci := 4) (o := ((43 : Nat) : Int)) (args := []) (st := []) (by decide +kernel) cv_m4_knownCount rfl rfl in_m4_knownCount se_m4_knownCount lk_4_42 rfl (by omega) (Nat.le_of_ble_eq_true rfl) h (fun r1 M2 _ h3 => ?_)
  refine A_iconst (a := 1) (by decide +kernel) (by unfold in32; omega) ?_
  refine A_isub (by decide +kernel) ?_
  refine A_istore_n (i := 3) (f := 3) rfl (by decide +kernel) (by decide) (fun w h0 hw => by simp at hw; first | (rw [← hw]; decide) | (rw [← hw]; simp)) ?_
  exact A_weak (lsub.keep (lsub.keep (lsub.keep (lsub.keep (lsub.drop lsub.nil))))) h3
theorem r_4_knownSayings_11 {x1 : Int} {x2 : Int} {x3 : Int} {M : Mem} {P : Int → Mem → Prop} (h : ((x3 < 0 → (P x2 M)) ∧ (0 ≤ x3 → (((iand (ishr x1 x3) 1) ≠ 0 → A m4_knownSayings 2 0 11 [(14, ((43 : Nat) : Int)), (0, x1), (0, x2), (0, (w32 (x3 + (-1)))), (2, 0)] [] M (Ki P)) ∧ ((iand (ishr x1 x3) 1) = 0 → (CI m10_at 1 [(30, ((48 : Nat) : Int)), (0, x3)] M (fun r7 M8 => ((r7 ≠ (-1) → A m4_knownSayings 2 0 11 [(14, ((43 : Nat) : Int)), (0, (ior x1 (ishl 1 r7))), (0, x2), (0, (w32 (x3 + (-1)))), (2, 0)] [] M8 (Ki P)) ∧ (r7 = (-1) → A m4_knownSayings 2 0 11 [(14, ((43 : Nat) : Int)), (0, x1), (0, (ior x2 (ishl 1 x3))), (0, (w32 (x3 + (-1)))), (2, 0)] [] M8 (Ki P)))))))))) : A m4_knownSayings 2 0 11 [(14, ((43 : Nat) : Int)), (0, x1), (0, x2), (0, x3), (2, 0)] [] M (Ki P) := by
  refine A_iload_n (i := 3) (f := 3) rfl (by decide +kernel) rfl ?_
  refine A_if_lt (off := 49) (tgt := 61) (by decide +kernel) (by omega) (fun b1 => ?_) (fun b1 => ?_)
  · have h2 := h.1 b1
    refine A_iload_n (i := 2) (f := 2) rfl (by decide +kernel) rfl ?_
    exact A_ret ⟨by decide +kernel, Or.inl rfl⟩ ⟨_, rfl, h2⟩
  · have h3 := h.2 (Int.not_lt.mp b1)
    refine A_iload_n (i := 1) (f := 1) rfl (by decide +kernel) rfl ?_
    refine A_iload_n (i := 3) (f := 3) rfl (by decide +kernel) rfl ?_
    refine A_ishr (by decide +kernel) ?_
    refine A_iconst (a := 1) (by decide +kernel) (by unfold in32; omega) ?_
    refine A_iand (by decide +kernel) ?_
    refine A_if_ne (off := 35) (tgt := 55) (by decide +kernel) (by omega) (fun b4 => ?_) (fun b4 => ?_)
    · have h5 := h3.1 b4
      refine A_iinc (i := 3) (n := (-1)) (by decide +kernel) (by decide) rfl (fun w h0 hw => by simp at hw; first | (rw [← hw]; decide) | (rw [← hw]; simp)) ?_
      refine A_goto (off := (-47)) (tgt := 11) (by decide +kernel) (by omega) ?_
      exact A_weak (lsub.keep (lsub.keep (lsub.keep (lsub.keep (lsub.drop lsub.nil))))) h5
    · have h6 := h3.2 (Decidable.not_not.mp b4)
      refine A_aload_n (i := 0) (f := 0) (by omega) rfl (by decide +kernel) rfl ?_
      refine B_getr (o' := ((48 : Nat) : Int)) (q := (RX4, TX4, 7)) (ci := 4) (j := 4) (by decide +kernel) rfl (by decide) rfl (by omega) fl_4_24 rfl ?_
      refine A_iload_n (i := 3) (f := 3) rfl (by decide +kernel) rfl ?_
      refine A_cSNi (args := [(30, ((48 : Nat) : Int)), (0, x3)]) (st := []) (by decide +kernel) cv_m10_at st_m10_at lk_4_46 rfl (by omega) (Nat.le_of_ble_eq_true rfl) h6 (fun r7 M8 _ h9 => ?_)
      refine A_istore (i := 4) (by decide +kernel) (by decide) (fun w h0 hw => by simp at hw; first | (rw [← hw]; decide) | (rw [← hw]; simp)) ?_
      refine A_iload (i := 4) (by decide +kernel) rfl ?_
      refine A_iconst (a := (-1)) (by decide +kernel) (by unfold in32; omega) ?_
      refine A_ic_ne (off := 12) (tgt := 48) (by decide +kernel) (by omega) (fun b10 => ?_) (fun b10 => ?_)
      · have h11 := h9.1 b10
        refine A_iload_n (i := 1) (f := 1) rfl (by decide +kernel) rfl ?_
        refine A_iconst (a := 1) (by decide +kernel) (by unfold in32; omega) ?_
        refine A_iload (i := 4) (by decide +kernel) rfl ?_
        refine A_ishl (by decide +kernel) ?_
        refine A_ior (by decide +kernel) ?_
        refine A_istore_n (i := 1) (f := 1) rfl (by decide +kernel) (by decide) (fun w h0 hw => by simp at hw; first | (rw [← hw]; decide) | (rw [← hw]; simp)) ?_
        refine A_iinc (i := 3) (n := (-1)) (by decide +kernel) (by decide) rfl (fun w h0 hw => by simp at hw; first | (rw [← hw]; decide) | (rw [← hw]; simp)) ?_
        refine A_goto (off := (-47)) (tgt := 11) (by decide +kernel) (by omega) ?_
        exact A_weak (lsub.keep (lsub.keep (lsub.keep (lsub.keep (lsub.drop lsub.nil))))) h11
      · have h12 := h9.2 (Decidable.not_not.mp b10)
        refine A_iload_n (i := 2) (f := 2) rfl (by decide +kernel) rfl ?_
        refine A_iconst (a := 1) (by decide +kernel) (by unfold in32; omega) ?_
        refine A_iload_n (i := 3) (f := 3) rfl (by decide +kernel) rfl ?_
        refine A_ishl (by decide +kernel) ?_
        refine A_ior (by decide +kernel) ?_
        refine A_istore_n (i := 2) (f := 2) rfl (by decide +kernel) (by decide) (fun w h0 hw => by simp at hw; first | (rw [← hw]; decide) | (rw [← hw]; simp)) ?_
        refine A_goto (off := 10) (tgt := 55) (by decide +kernel) (by omega) ?_
        refine A_iinc (i := 3) (n := (-1)) (by decide +kernel) (by decide) rfl (fun w h0 hw => by simp at hw; first | (rw [← hw]; decide) | (rw [← hw]; simp)) ?_
        refine A_goto (off := (-47)) (tgt := 11) (by decide +kernel) (by omega) ?_
        exact A_weak (lsub.keep (lsub.keep (lsub.keep (lsub.keep (lsub.drop lsub.nil))))) h12
theorem q_4_firstWrong {x1 : Int} {x2 : Int} {M : Mem} {P : Int → Mem → Prop} (h : A m4_firstWrong 4 0 2 [(14, ((43 : Nat) : Int)), (0, x1), (0, x2), (0, 0)] [] M (Ki P)) : CI m4_firstWrong 4 [(14, ((43 : Nat) : Int)), (0, x1), (0, x2)] M P := by
  refine CI_of (by decide +kernel) (Nat.le_of_ble_eq_true rfl) ?_
  show A m4_firstWrong 4 0 0 [(14, ((43 : Nat) : Int)), (0, x1), (0, x2), (2, 0)] [] M (Ki P)
  refine A_iconst (a := 0) (by decide +kernel) (by unfold in32; omega) ?_
  refine A_istore_n (i := 3) (f := 3) rfl (by decide +kernel) (by decide) (fun w h0 hw => by simp at hw; first | (rw [← hw]; decide) | (rw [← hw]; simp)) ?_
  exact A_weak (lsub.keep (lsub.keep (lsub.keep (lsub.keep lsub.nil)))) h
theorem r_4_firstWrong_2 {x1 : Int} {x2 : Int} {x3 : Int} {M : Mem} {P : Int → Mem → Prop} (h : (((M 43 5) ≤ x3 → (P (-1) M)) ∧ (x3 < (M 43 5) → (((iand (ishr x2 x3) 1) ≠ 1 → A m4_firstWrong 4 0 2 [(14, ((43 : Nat) : Int)), (0, x1), (0, x2), (0, (w32 (x3 + 1)))] [] M (Ki P)) ∧ ((iand (ishr x2 x3) 1) = 1 → (CI m10_at 1 [(30, ((47 : Nat) : Int)), (0, x3)] M (fun r7 M8 => (CI m4_wayOf 3 [(14, ((43 : Nat) : Int)), (0, x1), (0, x3)] M8 (fun r10 M11 => (((iand (ishr r7 r10) 1) ≠ 0 → A m4_firstWrong 4 0 2 [(14, ((43 : Nat) : Int)), (0, x1), (0, x2), (0, (w32 (x3 + 1)))] [] M11 (Ki P)) ∧ ((iand (ishr r7 r10) 1) = 0 → (P x3 M11)))))))))))) : A m4_firstWrong 4 0 2 [(14, ((43 : Nat) : Int)), (0, x1), (0, x2), (0, x3)] [] M (Ki P) := by
  refine A_iload_n (i := 3) (f := 3) rfl (by decide +kernel) rfl ?_
  refine A_aload_n (i := 0) (f := 0) (by omega) rfl (by decide +kernel) rfl ?_
  refine B_getp (v := (M 43 5)) (q := (RX4, TX4, 7)) (ci := 4) (j := 5) (p := 5) (by decide +kernel) rfl (by decide) rfl (Or.inl rfl) fl_4_31 rfl ?_
  refine A_ic_ge (off := 40) (tgt := 47) (by decide +kernel) (by omega) (fun b1 => ?_) (fun b1 => ?_)
  · have h2 := h.1 b1
    refine A_iconst (a := (-1)) (by decide +kernel) (by unfold in32; omega) ?_
    exact A_ret ⟨by decide +kernel, Or.inl rfl⟩ ⟨_, rfl, h2⟩
  · have h3 := h.2 (Int.not_le.mp b1)
    refine A_iload_n (i := 2) (f := 2) rfl (by decide +kernel) rfl ?_
    refine A_iload_n (i := 3) (f := 3) rfl (by decide +kernel) rfl ?_
    refine A_ishr (by decide +kernel) ?_
    refine A_iconst (a := 1) (by decide +kernel) (by unfold in32; omega) ?_
    refine A_iand (by decide +kernel) ?_
    refine A_iconst (a := 1) (by decide +kernel) (by unfold in32; omega) ?_
    refine A_ic_ne (off := 25) (tgt := 41) (by decide +kernel) (by omega) (fun b4 => ?_) (fun b4 => ?_)
    · have h5 := h3.1 b4
      refine A_iinc (i := 3) (n := 1) (by decide +kernel) (by decide) rfl (fun w h0 hw => by simp at hw; first | (rw [← hw]; decide) | (rw [← hw]; simp)) ?_
      refine A_goto (off := (-42)) (tgt := 2) (by decide +kernel) (by omega) ?_
      exact A_weak (lsub.keep (lsub.keep (lsub.keep (lsub.keep lsub.nil)))) h5
    · have h6 := h3.2 (Decidable.not_not.mp b4)
      refine A_aload_n (i := 0) (f := 0) (by omega) rfl (by decide +kernel) rfl ?_
      refine B_getr (o' := ((47 : Nat) : Int)) (q := (RX4, TX4, 7)) (ci := 4) (j := 3) (by decide +kernel) rfl (by decide) rfl (by omega) fl_4_21 rfl ?_
      refine A_iload_n (i := 3) (f := 3) rfl (by decide +kernel) rfl ?_
      refine A_cSNi (args := [(30, ((47 : Nat) : Int)), (0, x3)]) (st := []) (by decide +kernel) cv_m10_at st_m10_at lk_4_46 rfl (by omega) (Nat.le_of_ble_eq_true rfl) h6 (fun r7 M8 _ h9 => ?_)
      refine A_aload_n (i := 0) (f := 0) (by omega) rfl (by decide +kernel) rfl ?_
      refine A_iload_n (i := 1) (f := 1) rfl (by decide +kernel) rfl ?_
      refine A_iload_n (i := 3) (f := 3) rfl (by decide +kernel) rfl ?_
      refine A_cVi (q := (RX4, TX4, 7)) (ci := 4) (o := ((43 : Nat) : Int)) (args := [(0, x1), (0, x3)]) (st := [(0, r7)]) (by decide +kernel) cv_m4_wayOf rfl rfl in_m4_wayOf se_m4_wayOf lk_4_50 rfl (by omega) (Nat.le_of_ble_eq_true rfl) h9 (fun r10 M11 _ h12 => ?_)
      refine A_ishr (by decide +kernel) ?_
      refine A_iconst (a := 1) (by decide +kernel) (by unfold in32; omega) ?_
      refine A_iand (by decide +kernel) ?_
      refine A_if_ne (off := 5) (tgt := 41) (by decide +kernel) (by omega) (fun b13 => ?_) (fun b13 => ?_)
      · have h14 := h12.1 b13
        refine A_iinc (i := 3) (n := 1) (by decide +kernel) (by decide) rfl (fun w h0 hw => by simp at hw; first | (rw [← hw]; decide) | (rw [← hw]; simp)) ?_
        refine A_goto (off := (-42)) (tgt := 2) (by decide +kernel) (by omega) ?_
        exact A_weak (lsub.keep (lsub.keep (lsub.keep (lsub.keep lsub.nil)))) h14
      · have h15 := h12.2 (Decidable.not_not.mp b13)
        refine A_iload_n (i := 3) (f := 3) rfl (by decide +kernel) rfl ?_
        exact A_ret ⟨by decide +kernel, Or.inl rfl⟩ ⟨_, rfl, h15⟩
theorem q_4_wayOf {x1 : Int} {x2 : Int} {M : Mem} {P : Int → Mem → Prop} (h : (CI m10_at 1 [(30, ((44 : Nat) : Int)), (0, x2)] M (fun r1 M2 => (CI m10_at 1 [(30, ((45 : Nat) : Int)), (0, x2)] M2 (fun r4 M5 => (CI m10_at 1 [(30, ((46 : Nat) : Int)), (0, x2)] M5 (fun r7 M8 => (CI m6_between 2 [(0, x1), (0, r7), (0, r4)] M8 (fun r10 M11 => (CI m6_between 2 [(0, x1), (0, r4), (0, r1)] M11 (fun r13 M14 => (CI m6_between 2 [(0, x1), (0, r7), (0, r1)] M14 (fun r16 M17 => (P (w32 ((w32 ((w32 ((w32 (9 * (w32 (r13 + 1)))) + (w32 (3 * (w32 (r16 + 1)))))) + r10)) + 1)) M17)))))))))))))) : CI m4_wayOf 3 [(14, ((43 : Nat) : Int)), (0, x1), (0, x2)] M P := by
  refine CI_of (by decide +kernel) (Nat.le_of_ble_eq_true rfl) ?_
  show A m4_wayOf 3 0 0 [(14, ((43 : Nat) : Int)), (0, x1), (0, x2), (2, 0), (2, 0), (2, 0), (2, 0)] [] M (Ki P)
  refine A_aload_n (i := 0) (f := 0) (by omega) rfl (by decide +kernel) rfl ?_
  refine B_getr (o' := ((44 : Nat) : Int)) (q := (RX4, TX4, 7)) (ci := 4) (j := 0) (by decide +kernel) rfl (by decide) rfl (by omega) fl_4_9 rfl ?_
  refine A_iload_n (i := 2) (f := 2) rfl (by decide +kernel) rfl ?_
  refine A_cSNi (args := [(30, ((44 : Nat) : Int)), (0, x2)]) (st := []) (by decide +kernel) cv_m10_at st_m10_at lk_4_46 rfl (by omega) (Nat.le_of_ble_eq_true rfl) h (fun r1 M2 _ h3 => ?_)
  refine A_istore_n (i := 3) (f := 3) rfl (by decide +kernel) (by decide) (fun w h0 hw => by simp at hw; first | (rw [← hw]; decide) | (rw [← hw]; simp)) ?_
  refine A_aload_n (i := 0) (f := 0) (by omega) rfl (by decide +kernel) rfl ?_
  refine B_getr (o' := ((45 : Nat) : Int)) (q := (RX4, TX4, 7)) (ci := 4) (j := 1) (by decide +kernel) rfl (by decide) rfl (by omega) fl_4_15 rfl ?_
  refine A_iload_n (i := 2) (f := 2) rfl (by decide +kernel) rfl ?_
  refine A_cSNi (args := [(30, ((45 : Nat) : Int)), (0, x2)]) (st := []) (by decide +kernel) cv_m10_at st_m10_at lk_4_46 rfl (by omega) (Nat.le_of_ble_eq_true rfl) h3 (fun r4 M5 _ h6 => ?_)
  refine A_istore (i := 4) (by decide +kernel) (by decide) (fun w h0 hw => by simp at hw; first | (rw [← hw]; decide) | (rw [← hw]; simp)) ?_
  refine A_aload_n (i := 0) (f := 0) (by omega) rfl (by decide +kernel) rfl ?_
  refine B_getr (o' := ((46 : Nat) : Int)) (q := (RX4, TX4, 7)) (ci := 4) (j := 2) (by decide +kernel) rfl (by decide) rfl (by omega) fl_4_18 rfl ?_
  refine A_iload_n (i := 2) (f := 2) rfl (by decide +kernel) rfl ?_
  refine A_cSNi (args := [(30, ((46 : Nat) : Int)), (0, x2)]) (st := []) (by decide +kernel) cv_m10_at st_m10_at lk_4_46 rfl (by omega) (Nat.le_of_ble_eq_true rfl) h6 (fun r7 M8 _ h9 => ?_)
  refine A_istore (i := 5) (by decide +kernel) (by decide) (fun w h0 hw => by simp at hw; first | (rw [← hw]; decide) | (rw [← hw]; simp)) ?_
  refine A_iload_n (i := 1) (f := 1) rfl (by decide +kernel) rfl ?_
  refine A_iload (i := 5) (by decide +kernel) rfl ?_
  refine A_iload (i := 4) (by decide +kernel) rfl ?_
  refine A_cSi (args := [(0, x1), (0, r7), (0, r4)]) (st := []) (by decide +kernel) cv_m6_between st_m6_between lk_4_54 rfl (by omega) (Nat.le_of_ble_eq_true rfl) h9 (fun r10 M11 _ h12 => ?_)
  refine A_istore (i := 6) (by decide +kernel) (by decide) (fun w h0 hw => by simp at hw; first | (rw [← hw]; decide) | (rw [← hw]; simp)) ?_
  refine A_bipush (a := 9) (by decide +kernel) (by unfold in32; omega) (by decide +kernel) ?_
  refine A_iload_n (i := 1) (f := 1) rfl (by decide +kernel) rfl ?_
  refine A_iload (i := 4) (by decide +kernel) rfl ?_
  refine A_iload_n (i := 3) (f := 3) rfl (by decide +kernel) rfl ?_
  refine A_cSi (args := [(0, x1), (0, r4), (0, r1)]) (st := [(0, 9)]) (by decide +kernel) cv_m6_between st_m6_between lk_4_54 rfl (by omega) (Nat.le_of_ble_eq_true rfl) h12 (fun r13 M14 _ h15 => ?_)
  refine A_iconst (a := 1) (by decide +kernel) (by unfold in32; omega) ?_
  refine A_iadd (by decide +kernel) ?_
  refine A_imul (by decide +kernel) ?_
  refine A_iconst (a := 3) (by decide +kernel) (by unfold in32; omega) ?_
  refine A_iload_n (i := 1) (f := 1) rfl (by decide +kernel) rfl ?_
  refine A_iload (i := 5) (by decide +kernel) rfl ?_
  refine A_iload_n (i := 3) (f := 3) rfl (by decide +kernel) rfl ?_
  refine A_cSi (args := [(0, x1), (0, r7), (0, r1)]) (st := [(0, 3), (0, (w32 (9 * (w32 (r13 + 1)))))]) (by decide +kernel) cv_m6_between st_m6_between lk_4_54 rfl (by omega) (Nat.le_of_ble_eq_true rfl) h15 (fun r16 M17 _ h18 => ?_)
  refine A_iconst (a := 1) (by decide +kernel) (by unfold in32; omega) ?_
  refine A_iadd (by decide +kernel) ?_
  refine A_imul (by decide +kernel) ?_
  refine A_iadd (by decide +kernel) ?_
  refine A_iload (i := 6) (by decide +kernel) rfl ?_
  refine A_iadd (by decide +kernel) ?_
  refine A_iconst (a := 1) (by decide +kernel) (by unfold in32; omega) ?_
  refine A_iadd (by decide +kernel) ?_
  exact A_ret ⟨by decide +kernel, Or.inl rfl⟩ ⟨_, rfl, h18⟩
