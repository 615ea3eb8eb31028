/-! CourtTongue: its regions (made by wip/whole/gall.py) -/
theorem q_10_feed {x1 : Int} {x2 : Int} {x3 : Int} {x4 : Int} {x5 : Int} {M : Mem} {P : Int → Mem → Prop} (h : (((w32 ((M 0 1) + 20)) ≤ 700 → (CD m10_layBytes 2 [(19, ((0 : Nat) : Int)), (0, x1)] M (fun M5 => (CD m10_layBytes 2 [(19, ((0 : Nat) : Int)), (0, x2)] M5 (fun M8 => (CD m10_layBytes 2 [(19, ((0 : Nat) : Int)), (0, x3)] M8 (fun M11 => (CD m10_layBytes 2 [(19, ((0 : Nat) : Int)), (0, x4)] M11 (fun M14 => (CD m10_layBytes 2 [(19, ((0 : Nat) : Int)), (0, x5)] M14 (fun M17 => (P (M17 0 1) M17)))))))))))) ∧ (700 < (w32 ((M 0 1) + 20)) → (P (-1) M)))) : CI m10_feed 3 [(19, ((0 : Nat) : Int)), (0, x1), (0, x2), (0, x3), (0, x4), (0, x5)] M P := by
  refine CI_of (by decide +kernel) (Nat.le_of_ble_eq_true rfl) ?_
  show A m10_feed 3 0 0 [(19, ((0 : Nat) : Int)), (0, x1), (0, x2), (0, x3), (0, x4), (0, x5)] [] M (Ki P)
  refine A_aload_n (i := 0) (f := 0) (by omega) rfl (by decide +kernel) rfl ?_
  refine B_getp (v := (M 0 1)) (q := (RX10, TX10, 13)) (ci := 9) (j := 1) (p := 1) (by decide +kernel) rfl (by decide) rfl (Or.inl rfl) fl_10_68 rfl ?_
  refine A_bipush (a := 20) (by decide +kernel) (by unfold in32; omega) (by decide +kernel) ?_
  refine A_iadd (by decide +kernel) ?_
  refine A_sipush (a := 700) (by decide +kernel) (by unfold in32; omega) (by decide +kernel) ?_
  refine A_ic_le (off := 5) (tgt := 15) (by decide +kernel) (by omega) (fun b1 => ?_) (fun b1 => ?_)
  · have h2 := h.1 b1
    refine A_aload_n (i := 0) (f := 0) (by omega) rfl (by decide +kernel) rfl ?_
    refine A_iload_n (i := 1) (f := 1) rfl (by decide +kernel) rfl ?_
    refine A_cVd (q := (RX10, TX10, 13)) (ci := 9) (o := ((0 : Nat) : Int)) (args := [(0, x1)]) (st := []) (by decide +kernel) cv_m10_layBytes rfl rfl in_m10_layBytes se_m10_layBytes lk_10_72 rfl (by omega) (Nat.le_of_ble_eq_true rfl) h2 (fun M5 h6 => ?_)
    refine A_aload_n (i := 0) (f := 0) (by omega) rfl (by decide +kernel) rfl ?_
    refine A_iload_n (i := 2) (f := 2) rfl (by decide +kernel) rfl ?_
    refine A_cVd (q := (RX10, TX10, 13)) (ci := 9) (o := ((0 : Nat) : Int)) (args := [(0, x2)]) (st := []) (by decide +kernel) cv_m10_layBytes rfl rfl in_m10_layBytes se_m10_layBytes lk_10_72 rfl (by omega) (Nat.le_of_ble_eq_true rfl) h6 (fun M8 h9 => ?_)
    refine A_aload_n (i := 0) (f := 0) (by omega) rfl (by decide +kernel) rfl ?_
    refine A_iload_n (i := 3) (f := 3) rfl (by decide +kernel) rfl ?_
    refine A_cVd (q := (RX10, TX10, 13)) (ci := 9) (o := ((0 : Nat) : Int)) (args := [(0, x3)]) (st := []) (by decide +kernel) cv_m10_layBytes rfl rfl in_m10_layBytes se_m10_layBytes lk_10_72 rfl (by omega) (Nat.le_of_ble_eq_true rfl) h9 (fun M11 h12 => ?_)
    refine A_aload_n (i := 0) (f := 0) (by omega) rfl (by decide +kernel) rfl ?_
    refine A_iload (i := 4) (by decide +kernel) rfl ?_
    refine A_cVd (q := (RX10, TX10, 13)) (ci := 9) (o := ((0 : Nat) : Int)) (args := [(0, x4)]) (st := []) (by decide +kernel) cv_m10_layBytes rfl rfl in_m10_layBytes se_m10_layBytes lk_10_72 rfl (by omega) (Nat.le_of_ble_eq_true rfl) h12 (fun M14 h15 => ?_)
    refine A_aload_n (i := 0) (f := 0) (by omega) rfl (by decide +kernel) rfl ?_
    refine A_iload (i := 5) (by decide +kernel) rfl ?_
    refine A_cVd (q := (RX10, TX10, 13)) (ci := 9) (o := ((0 : Nat) : Int)) (args := [(0, x5)]) (st := []) (by decide +kernel) cv_m10_layBytes rfl rfl in_m10_layBytes se_m10_layBytes lk_10_72 rfl (by omega) (Nat.le_of_ble_eq_true rfl) h15 (fun M17 h18 => ?_)
    refine A_aload_n (i := 0) (f := 0) (by omega) rfl (by decide +kernel) rfl ?_
    refine B_getp (v := (M17 0 1)) (q := (RX10, TX10, 13)) (ci := 9) (j := 1) (p := 1) (by decide +kernel) rfl (by decide) rfl (Or.inl rfl) fl_10_68 rfl ?_
    exact A_ret ⟨by decide +kernel, Or.inl rfl⟩ ⟨_, rfl, h18⟩
  · have h3 := h.2 (Int.not_le.mp b1)
    refine A_iconst (a := (-1)) (by decide +kernel) (by unfold in32; omega) ?_
    exact A_ret ⟨by decide +kernel, Or.inl rfl⟩ ⟨_, rfl, h3⟩
theorem q_10_text {x1 : Int} {M : Mem} {P : Int → Mem → Prop} (h : ((x1 < 0 → (P (-2) M)) ∧ (0 ≤ x1 → ((x1 ≤ (M 0 1) → (CD m7_open 4 [(17, ((2 : Nat) : Int)), (0, x1)] (mset M 0 1 0) (fun M8 => A m10_text 7 0 30 [(19, ((0 : Nat) : Int)), (0, x1), (0, 0)] [] M8 (Ki P)))) ∧ ((M 0 1) < x1 → (P (-2) M)))))) : CI m10_text 7 [(19, ((0 : Nat) : Int)), (0, x1)] M P := by
  refine CI_of (by decide +kernel) (Nat.le_of_ble_eq_true rfl) ?_
  show A m10_text 7 0 0 [(19, ((0 : Nat) : Int)), (0, x1), (2, 0)] [] M (Ki P)
  refine A_iload_n (i := 1) (f := 1) rfl (by decide +kernel) rfl ?_
  refine A_if_lt (off := 11) (tgt := 12) (by decide +kernel) (by omega) (fun b1 => ?_) (fun b1 => ?_)
  · have h2 := h.1 b1
    refine A_bipush (a := (-2)) (by decide +kernel) (by unfold in32; omega) (by decide +kernel) ?_
    exact A_ret ⟨by decide +kernel, Or.inl rfl⟩ ⟨_, rfl, h2⟩
  · have h3 := h.2 (Int.not_lt.mp b1)
    refine A_iload_n (i := 1) (f := 1) rfl (by decide +kernel) rfl ?_
    refine A_aload_n (i := 0) (f := 0) (by omega) rfl (by decide +kernel) rfl ?_
    refine B_getp (v := (M 0 1)) (q := (RX10, TX10, 13)) (ci := 9) (j := 1) (p := 1) (by decide +kernel) rfl (by decide) rfl (Or.inl rfl) fl_10_68 rfl ?_
    refine A_ic_le (off := 6) (tgt := 15) (by decide +kernel) (by omega) (fun b4 => ?_) (fun b4 => ?_)
    · have h5 := h3.1 b4
      refine A_aload_n (i := 0) (f := 0) (by omega) rfl (by decide +kernel) rfl ?_
      refine A_iconst (a := 0) (by decide +kernel) (by unfold in32; omega) ?_
      refine B_putp (M' := (mset M 0 1 0)) (q := (RX10, TX10, 13)) (ci := 9) (j := 1) (p := 1) (by decide +kernel) rfl (by decide) rfl (Or.inl ⟨rfl, rfl⟩) rfl fl_10_68 rfl ?_
      refine A_aload_n (i := 0) (f := 0) (by omega) rfl (by decide +kernel) rfl ?_
      refine B_getr (o' := ((2 : Nat) : Int)) (q := (RX10, TX10, 13)) (ci := 9) (j := 0) (by decide +kernel) rfl (by decide) rfl (by omega) fl_10_10 rfl ?_
      refine A_iload_n (i := 1) (f := 1) rfl (by decide +kernel) rfl ?_
      refine A_cVd (q := (RX7, TX7, 18)) (ci := 7) (o := ((2 : Nat) : Int)) (args := [(0, x1)]) (st := []) (by decide +kernel) cv_m7_open rfl rfl in_m7_open se_m7_open lk_10_76 rfl (by omega) (Nat.le_of_ble_eq_true rfl) h5 (fun M8 h9 => ?_)
      refine A_iconst (a := 0) (by decide +kernel) (by unfold in32; omega) ?_
      refine A_istore_n (i := 2) (f := 2) rfl (by decide +kernel) (by decide) (fun w h0 hw => by simp at hw; first | (rw [← hw]; decide) | (rw [← hw]; simp)) ?_
      exact A_weak (lsub.keep (lsub.keep (lsub.keep lsub.nil))) h9
    · have h6 := h3.2 (Int.not_le.mp b4)
      refine A_bipush (a := (-2)) (by decide +kernel) (by unfold in32; omega) (by decide +kernel) ?_
      exact A_ret ⟨by decide +kernel, Or.inl rfl⟩ ⟨_, rfl, h6⟩
theorem r_10_text_30 {x1 : Int} {x2 : Int} {M : Mem} {P : Int → Mem → Prop} (h : ((x1 < x2 → (((M 2 3) = 0 → (CD m0_take 3 [(10, ((21 : Nat) : Int)), (10, ((5 : Nat) : Int))] M (fun M8 => (CD m2_take 2 [(12, ((30 : Nat) : Int)), (12, ((14 : Nat) : Int))] M8 (fun M11 => (CD m4_clear 1 [(14, ((43 : Nat) : Int))] (mset M11 0 5 (M11 21 6)) (fun M14 => (CD m6_forget 1 [(16, ((49 : Nat) : Int))] M14 (fun M17 => (P ((mset M17 0 8 0) 2 2) (mset M17 0 8 0))))))))))) ∧ ((M 2 3) ≠ 0 → (P (-1) M)))) ∧ (x2 ≤ x1 → (CI m7_isGoing 1 [(17, ((2 : Nat) : Int))] M (fun r19 M20 => ((r19 = 0 → (((M20 2 3) = 0 → (CD m0_take 3 [(10, ((21 : Nat) : Int)), (10, ((5 : Nat) : Int))] M20 (fun M29 => (CD m2_take 2 [(12, ((30 : Nat) : Int)), (12, ((14 : Nat) : Int))] M29 (fun M32 => (CD m4_clear 1 [(14, ((43 : Nat) : Int))] (mset M32 0 5 (M32 21 6)) (fun M35 => (CD m6_forget 1 [(16, ((49 : Nat) : Int))] M35 (fun M38 => (P ((mset M38 0 8 0) 2 2) (mset M38 0 8 0))))))))))) ∧ ((M20 2 3) ≠ 0 → (P (-1) M20)))) ∧ (r19 ≠ 0 → (CD m7_readLine 6 [(17, ((2 : Nat) : Int))] M20 (fun M41 => A m10_text 7 0 30 [(19, ((0 : Nat) : Int)), (0, x1), (0, (w32 (x2 + 1)))] [] M41 (Ki P)))))))))) : A m10_text 7 0 30 [(19, ((0 : Nat) : Int)), (0, x1), (0, x2)] [] M (Ki P) := by
  refine A_iload_n (i := 2) (f := 2) rfl (by decide +kernel) rfl ?_
  refine A_iload_n (i := 1) (f := 1) rfl (by decide +kernel) rfl ?_
  refine A_ic_gt (off := 26) (tgt := 58) (by decide +kernel) (by omega) (fun b1 => ?_) (fun b1 => ?_)
  · have h2 := h.1 b1
    refine A_aload_n (i := 0) (f := 0) (by omega) rfl (by decide +kernel) rfl ?_
    refine B_getr (o' := ((2 : Nat) : Int)) (q := (RX10, TX10, 13)) (ci := 9) (j := 0) (by decide +kernel) rfl (by decide) rfl (by omega) fl_10_10 rfl ?_
    refine B_getp (v := (M 2 3)) (q := (RX7, TX7, 18)) (ci := 7) (j := 4) (p := 3) (by decide +kernel) rfl (by decide) rfl (Or.inl rfl) fl_10_86 rfl ?_
    refine A_if_eq (off := 5) (tgt := 70) (by decide +kernel) (by omega) (fun b4 => ?_) (fun b4 => ?_)
    · have h5 := h2.1 b4
      refine A_aload_n (i := 0) (f := 0) (by omega) rfl (by decide +kernel) rfl ?_
      refine B_getr (o' := ((21 : Nat) : Int)) (q := (RX10, TX10, 13)) (ci := 9) (j := 2) (by decide +kernel) rfl (by decide) rfl (by omega) fl_10_19 rfl ?_
      refine A_aload_n (i := 0) (f := 0) (by omega) rfl (by decide +kernel) rfl ?_
      refine B_getr (o' := ((2 : Nat) : Int)) (q := (RX10, TX10, 13)) (ci := 9) (j := 0) (by decide +kernel) rfl (by decide) rfl (by omega) fl_10_10 rfl ?_
      refine B_getr (o' := ((5 : Nat) : Int)) (q := (RX7, TX7, 18)) (ci := 7) (j := 1) (by decide +kernel) rfl (by decide) rfl (by omega) fl_10_89 rfl ?_
      refine A_cVd (q := (RX0, TX0, 9)) (ci := 0) (o := ((21 : Nat) : Int)) (args := [(10, ((5 : Nat) : Int))]) (st := []) (by decide +kernel) cv_m0_take rfl rfl in_m0_take se_m0_take lk_10_92 rfl (by omega) (Nat.le_of_ble_eq_true rfl) h5 (fun M8 h9 => ?_)
      refine A_aload_n (i := 0) (f := 0) (by omega) rfl (by decide +kernel) rfl ?_
      refine B_getr (o' := ((30 : Nat) : Int)) (q := (RX10, TX10, 13)) (ci := 9) (j := 3) (by decide +kernel) rfl (by decide) rfl (by omega) fl_10_26 rfl ?_
      refine A_aload_n (i := 0) (f := 0) (by omega) rfl (by decide +kernel) rfl ?_
      refine B_getr (o' := ((2 : Nat) : Int)) (q := (RX10, TX10, 13)) (ci := 9) (j := 0) (by decide +kernel) rfl (by decide) rfl (by omega) fl_10_10 rfl ?_
      refine B_getr (o' := ((14 : Nat) : Int)) (q := (RX7, TX7, 18)) (ci := 7) (j := 2) (by decide +kernel) rfl (by decide) rfl (by omega) fl_10_96 rfl ?_
      refine A_cVd (q := (RX2, TX2, 2)) (ci := 2) (o := ((30 : Nat) : Int)) (args := [(12, ((14 : Nat) : Int))]) (st := []) (by decide +kernel) cv_m2_take rfl rfl in_m2_take se_m2_take lk_10_99 rfl (by omega) (Nat.le_of_ble_eq_true rfl) h9 (fun M11 h12 => ?_)
      refine A_aload_n (i := 0) (f := 0) (by omega) rfl (by decide +kernel) rfl ?_
      refine A_aload_n (i := 0) (f := 0) (by omega) rfl (by decide +kernel) rfl ?_
      refine B_getr (o' := ((21 : Nat) : Int)) (q := (RX10, TX10, 13)) (ci := 9) (j := 2) (by decide +kernel) rfl (by decide) rfl (by omega) fl_10_19 rfl ?_
      refine B_getp (v := (M11 21 6)) (q := (RX0, TX0, 9)) (ci := 0) (j := 6) (p := 6) (by decide +kernel) rfl (by decide) rfl (Or.inl rfl) fl_10_102 rfl ?_
      refine B_putp (M' := (mset M11 0 5 (M11 21 6))) (q := (RX10, TX10, 13)) (ci := 9) (j := 4) (p := 5) (by decide +kernel) rfl (by decide) rfl (Or.inl ⟨rfl, rfl⟩) rfl fl_10_105 rfl ?_
      refine A_aload_n (i := 0) (f := 0) (by omega) rfl (by decide +kernel) rfl ?_
      refine B_getr (o' := ((43 : Nat) : Int)) (q := (RX10, TX10, 13)) (ci := 9) (j := 10) (by decide +kernel) rfl (by decide) rfl (by omega) fl_10_50 rfl ?_
      refine A_cVd (q := (RX4, TX4, 7)) (ci := 4) (o := ((43 : Nat) : Int)) (args := []) (st := []) (by decide +kernel) cv_m4_clear rfl rfl in_m4_clear se_m4_clear lk_10_108 rfl (by omega) (Nat.le_of_ble_eq_true rfl) h12 (fun M14 h15 => ?_)
      refine A_aload_n (i := 0) (f := 0) (by omega) rfl (by decide +kernel) rfl ?_
      refine B_getr (o' := ((49 : Nat) : Int)) (q := (RX10, TX10, 13)) (ci := 9) (j := 11) (by decide +kernel) rfl (by decide) rfl (by omega) fl_10_57 rfl ?_
      refine A_cVd (q := (RX6, TX6, 6)) (ci := 6) (o := ((49 : Nat) : Int)) (args := []) (st := []) (by decide +kernel) cv_m6_forget rfl rfl in_m6_forget se_m6_forget lk_10_111 rfl (by omega) (Nat.le_of_ble_eq_true rfl) h15 (fun M17 h18 => ?_)
      refine A_aload_n (i := 0) (f := 0) (by omega) rfl (by decide +kernel) rfl ?_
      refine A_iconst (a := 0) (by decide +kernel) (by unfold in32; omega) ?_
      refine B_putp (M' := (mset M17 0 8 0)) (q := (RX10, TX10, 13)) (ci := 9) (j := 7) (p := 8) (by decide +kernel) rfl (by decide) rfl (Or.inr ⟨rfl, rfl, by decide⟩) rfl fl_10_114 rfl ?_
      refine A_aload_n (i := 0) (f := 0) (by omega) rfl (by decide +kernel) rfl ?_
      refine B_getr (o' := ((2 : Nat) : Int)) (q := (RX10, TX10, 13)) (ci := 9) (j := 0) (by decide +kernel) rfl (by decide) rfl (by omega) fl_10_10 rfl ?_
      refine B_getp (v := ((mset M17 0 8 0) 2 2)) (q := (RX7, TX7, 18)) (ci := 7) (j := 3) (p := 2) (by decide +kernel) rfl (by decide) rfl (Or.inl rfl) fl_10_118 rfl ?_
      exact A_ret ⟨by decide +kernel, Or.inl rfl⟩ ⟨_, rfl, h18⟩
    · have h6 := h2.2 b4
      refine A_iconst (a := (-1)) (by decide +kernel) (by unfold in32; omega) ?_
      exact A_ret ⟨by decide +kernel, Or.inl rfl⟩ ⟨_, rfl, h6⟩
  · have h3 := h.2 (Int.not_lt.mp b1)
    refine A_aload_n (i := 0) (f := 0) (by omega) rfl (by decide +kernel) rfl ?_
    refine B_getr (o' := ((2 : Nat) : Int)) (q := (RX10, TX10, 13)) (ci := 9) (j := 0) (by decide +kernel) rfl (by decide) rfl (by omega) fl_10_10 rfl ?_
    refine A_cVi (q := (RX7, TX7, 18)) (ci := 7) (o := ((2 : Nat) : Int)) (args := []) (st := []) (by decide +kernel) cv_m7_isGoing rfl rfl in_m7_isGoing se_m7_isGoing lk_10_79 rfl (by omega) (Nat.le_of_ble_eq_true rfl) h3 (fun r19 M20 _ h21 => ?_)
    refine A_if_eq (off := 16) (tgt := 58) (by decide +kernel) (by omega) (fun b22 => ?_) (fun b22 => ?_)
    · have h23 := h21.1 b22
      refine A_aload_n (i := 0) (f := 0) (by omega) rfl (by decide +kernel) rfl ?_
      refine B_getr (o' := ((2 : Nat) : Int)) (q := (RX10, TX10, 13)) (ci := 9) (j := 0) (by decide +kernel) rfl (by decide) rfl (by omega) fl_10_10 rfl ?_
      refine B_getp (v := (M20 2 3)) (q := (RX7, TX7, 18)) (ci := 7) (j := 4) (p := 3) (by decide +kernel) rfl (by decide) rfl (Or.inl rfl) fl_10_86 rfl ?_
      refine A_if_eq (off := 5) (tgt := 70) (by decide +kernel) (by omega) (fun b25 => ?_) (fun b25 => ?_)
      · have h26 := h23.1 b25
        refine A_aload_n (i := 0) (f := 0) (by omega) rfl (by decide +kernel) rfl ?_
        refine B_getr (o' := ((21 : Nat) : Int)) (q := (RX10, TX10, 13)) (ci := 9) (j := 2) (by decide +kernel) rfl (by decide) rfl (by omega) fl_10_19 rfl ?_
        refine A_aload_n (i := 0) (f := 0) (by omega) rfl (by decide +kernel) rfl ?_
        refine B_getr (o' := ((2 : Nat) : Int)) (q := (RX10, TX10, 13)) (ci := 9) (j := 0) (by decide +kernel) rfl (by decide) rfl (by omega) fl_10_10 rfl ?_
        refine B_getr (o' := ((5 : Nat) : Int)) (q := (RX7, TX7, 18)) (ci := 7) (j := 1) (by decide +kernel) rfl (by decide) rfl (by omega) fl_10_89 rfl ?_
        refine A_cVd (q := (RX0, TX0, 9)) (ci := 0) (o := ((21 : Nat) : Int)) (args := [(10, ((5 : Nat) : Int))]) (st := []) (by decide +kernel) cv_m0_take rfl rfl in_m0_take se_m0_take lk_10_92 rfl (by omega) (Nat.le_of_ble_eq_true rfl) h26 (fun M29 h30 => ?_)
        refine A_aload_n (i := 0) (f := 0) (by omega) rfl (by decide +kernel) rfl ?_
        refine B_getr (o' := ((30 : Nat) : Int)) (q := (RX10, TX10, 13)) (ci := 9) (j := 3) (by decide +kernel) rfl (by decide) rfl (by omega) fl_10_26 rfl ?_
        refine A_aload_n (i := 0) (f := 0) (by omega) rfl (by decide +kernel) rfl ?_
        refine B_getr (o' := ((2 : Nat) : Int)) (q := (RX10, TX10, 13)) (ci := 9) (j := 0) (by decide +kernel) rfl (by decide) rfl (by omega) fl_10_10 rfl ?_
        refine B_getr (o' := ((14 : Nat) : Int)) (q := (RX7, TX7, 18)) (ci := 7) (j := 2) (by decide +kernel) rfl (by decide) rfl (by omega) fl_10_96 rfl ?_
        refine A_cVd (q := (RX2, TX2, 2)) (ci := 2) (o := ((30 : Nat) : Int)) (args := [(12, ((14 : Nat) : Int))]) (st := []) (by decide +kernel) cv_m2_take rfl rfl in_m2_take se_m2_take lk_10_99 rfl (by omega) (Nat.le_of_ble_eq_true rfl) h30 (fun M32 h33 => ?_)
        refine A_aload_n (i := 0) (f := 0) (by omega) rfl (by decide +kernel) rfl ?_
        refine A_aload_n (i := 0) (f := 0) (by omega) rfl (by decide +kernel) rfl ?_
        refine B_getr (o' := ((21 : Nat) : Int)) (q := (RX10, TX10, 13)) (ci := 9) (j := 2) (by decide +kernel) rfl (by decide) rfl (by omega) fl_10_19 rfl ?_
        refine B_getp (v := (M32 21 6)) (q := (RX0, TX0, 9)) (ci := 0) (j := 6) (p := 6) (by decide +kernel) rfl (by decide) rfl (Or.inl rfl) fl_10_102 rfl ?_
        refine B_putp (M' := (mset M32 0 5 (M32 21 6))) (q := (RX10, TX10, 13)) (ci := 9) (j := 4) (p := 5) (by decide +kernel) rfl (by decide) rfl (Or.inl ⟨rfl, rfl⟩) rfl fl_10_105 rfl ?_
        refine A_aload_n (i := 0) (f := 0) (by omega) rfl (by decide +kernel) rfl ?_
        refine B_getr (o' := ((43 : Nat) : Int)) (q := (RX10, TX10, 13)) (ci := 9) (j := 10) (by decide +kernel) rfl (by decide) rfl (by omega) fl_10_50 rfl ?_
        refine A_cVd (q := (RX4, TX4, 7)) (ci := 4) (o := ((43 : Nat) : Int)) (args := []) (st := []) (by decide +kernel) cv_m4_clear rfl rfl in_m4_clear se_m4_clear lk_10_108 rfl (by omega) (Nat.le_of_ble_eq_true rfl) h33 (fun M35 h36 => ?_)
        refine A_aload_n (i := 0) (f := 0) (by omega) rfl (by decide +kernel) rfl ?_
        refine B_getr (o' := ((49 : Nat) : Int)) (q := (RX10, TX10, 13)) (ci := 9) (j := 11) (by decide +kernel) rfl (by decide) rfl (by omega) fl_10_57 rfl ?_
        refine A_cVd (q := (RX6, TX6, 6)) (ci := 6) (o := ((49 : Nat) : Int)) (args := []) (st := []) (by decide +kernel) cv_m6_forget rfl rfl in_m6_forget se_m6_forget lk_10_111 rfl (by omega) (Nat.le_of_ble_eq_true rfl) h36 (fun M38 h39 => ?_)
        refine A_aload_n (i := 0) (f := 0) (by omega) rfl (by decide +kernel) rfl ?_
        refine A_iconst (a := 0) (by decide +kernel) (by unfold in32; omega) ?_
        refine B_putp (M' := (mset M38 0 8 0)) (q := (RX10, TX10, 13)) (ci := 9) (j := 7) (p := 8) (by decide +kernel) rfl (by decide) rfl (Or.inr ⟨rfl, rfl, by decide⟩) rfl fl_10_114 rfl ?_
        refine A_aload_n (i := 0) (f := 0) (by omega) rfl (by decide +kernel) rfl ?_
        refine B_getr (o' := ((2 : Nat) : Int)) (q := (RX10, TX10, 13)) (ci := 9) (j := 0) (by decide +kernel) rfl (by decide) rfl (by omega) fl_10_10 rfl ?_
        refine B_getp (v := ((mset M38 0 8 0) 2 2)) (q := (RX7, TX7, 18)) (ci := 7) (j := 3) (p := 2) (by decide +kernel) rfl (by decide) rfl (Or.inl rfl) fl_10_118 rfl ?_
        exact A_ret ⟨by decide +kernel, Or.inl rfl⟩ ⟨_, rfl, h39⟩
      · have h27 := h23.2 b25
        refine A_iconst (a := (-1)) (by decide +kernel) (by unfold in32; omega) ?_
        exact A_ret ⟨by decide +kernel, Or.inl rfl⟩ ⟨_, rfl, h27⟩
    · have h24 := h21.2 b22
      refine A_aload_n (i := 0) (f := 0) (by omega) rfl (by decide +kernel) rfl ?_
      refine B_getr (o' := ((2 : Nat) : Int)) (q := (RX10, TX10, 13)) (ci := 9) (j := 0) (by decide +kernel) rfl (by decide) rfl (by omega) fl_10_10 rfl ?_
      refine A_cVd (q := (RX7, TX7, 18)) (ci := 7) (o := ((2 : Nat) : Int)) (args := []) (st := []) (by decide +kernel) cv_m7_readLine rfl rfl in_m7_readLine se_m7_readLine lk_10_83 rfl (by omega) (Nat.le_of_ble_eq_true rfl) h24 (fun M41 h42 => ?_)
      refine A_iinc (i := 2) (n := 1) (by decide +kernel) (by decide) rfl (fun w h0 hw => by simp at hw; first | (rw [← hw]; decide) | (rw [← hw]; simp)) ?_
      refine A_goto (off := (-25)) (tgt := 30) (by decide +kernel) (by omega) ?_
      exact A_weak (lsub.keep (lsub.keep (lsub.keep lsub.nil))) h42
theorem q_10_fault {x1 : Int} {M : Mem} {P : Int → Mem → Prop} (h : ((x1 ≠ 0 → ((x1 ≠ 1 → (P (-1) M)) ∧ (x1 = 1 → (P (M 2 4) M)))) ∧ (x1 = 0 → (P (M 2 3) M)))) : CI m10_fault 1 [(19, ((0 : Nat) : Int)), (0, x1)] M P := by
  refine CI_of (by decide +kernel) (Nat.le_of_ble_eq_true rfl) ?_
  show A m10_fault 1 0 0 [(19, ((0 : Nat) : Int)), (0, x1)] [] M (Ki P)
  refine A_iload_n (i := 1) (f := 1) rfl (by decide +kernel) rfl ?_
  refine A_if_ne (off := 11) (tgt := 12) (by decide +kernel) (by omega) (fun b1 => ?_) (fun b1 => ?_)
  · have h2 := h.1 b1
    refine A_iload_n (i := 1) (f := 1) rfl (by decide +kernel) rfl ?_
    refine A_iconst (a := 1) (by decide +kernel) (by unfold in32; omega) ?_
    refine A_ic_ne (off := 13) (tgt := 27) (by decide +kernel) (by omega) (fun b4 => ?_) (fun b4 => ?_)
    · have h5 := h2.1 b4
      refine A_iconst (a := (-1)) (by decide +kernel) (by unfold in32; omega) ?_
      exact A_ret ⟨by decide +kernel, Or.inl rfl⟩ ⟨_, rfl, h5⟩
    · have h6 := h2.2 (Decidable.not_not.mp b4)
      refine A_aload_n (i := 0) (f := 0) (by omega) rfl (by decide +kernel) rfl ?_
      refine B_getr (o' := ((2 : Nat) : Int)) (q := (RX10, TX10, 13)) (ci := 9) (j := 0) (by decide +kernel) rfl (by decide) rfl (by omega) fl_10_10 rfl ?_
      refine B_getp (v := (M 2 4)) (q := (RX7, TX7, 18)) (ci := 7) (j := 5) (p := 4) (by decide +kernel) rfl (by decide) rfl (Or.inl rfl) fl_10_121 rfl ?_
      refine A_goto (off := 4) (tgt := 28) (by decide +kernel) (by omega) ?_
      exact A_ret ⟨by decide +kernel, Or.inl rfl⟩ ⟨_, rfl, h6⟩
  · have h3 := h.2 (Decidable.not_not.mp b1)
    refine A_aload_n (i := 0) (f := 0) (by omega) rfl (by decide +kernel) rfl ?_
    refine B_getr (o' := ((2 : Nat) : Int)) (q := (RX10, TX10, 13)) (ci := 9) (j := 0) (by decide +kernel) rfl (by decide) rfl (by omega) fl_10_10 rfl ?_
    refine B_getp (v := (M 2 3)) (q := (RX7, TX7, 18)) (ci := 7) (j := 4) (p := 3) (by decide +kernel) rfl (by decide) rfl (Or.inl rfl) fl_10_86 rfl ?_
    exact A_ret ⟨by decide +kernel, Or.inl rfl⟩ ⟨_, rfl, h3⟩
theorem q_10_named {x1 : Int} {x2 : Int} {M : Mem} {P : Int → Mem → Prop} (h : ((x1 ≠ 0 → ((x1 ≠ 1 → (P (-1) M)) ∧ (x1 = 1 → (CI m0_partNamed 3 [(10, ((21 : Nat) : Int)), (0, x2)] M (fun r7 M8 => (P r7 M8)))))) ∧ (x1 = 0 → (CI m0_personNamed 3 [(10, ((21 : Nat) : Int)), (0, x2)] M (fun r10 M11 => (P r10 M11)))))) : CI m10_named 4 [(19, ((0 : Nat) : Int)), (0, x1), (0, x2)] M P := by
  refine CI_of (by decide +kernel) (Nat.le_of_ble_eq_true rfl) ?_
  show A m10_named 4 0 0 [(19, ((0 : Nat) : Int)), (0, x1), (0, x2)] [] M (Ki P)
  refine A_iload_n (i := 1) (f := 1) rfl (by decide +kernel) rfl ?_
  refine A_if_ne (off := 12) (tgt := 13) (by decide +kernel) (by omega) (fun b1 => ?_) (fun b1 => ?_)
  · have h2 := h.1 b1
    refine A_iload_n (i := 1) (f := 1) rfl (by decide +kernel) rfl ?_
    refine A_iconst (a := 1) (by decide +kernel) (by unfold in32; omega) ?_
    refine A_ic_ne (off := 14) (tgt := 29) (by decide +kernel) (by omega) (fun b4 => ?_) (fun b4 => ?_)
    · have h5 := h2.1 b4
      refine A_iconst (a := (-1)) (by decide +kernel) (by unfold in32; omega) ?_
      exact A_ret ⟨by decide +kernel, Or.inl rfl⟩ ⟨_, rfl, h5⟩
    · have h6 := h2.2 (Decidable.not_not.mp b4)
      refine A_aload_n (i := 0) (f := 0) (by omega) rfl (by decide +kernel) rfl ?_
      refine B_getr (o' := ((21 : Nat) : Int)) (q := (RX10, TX10, 13)) (ci := 9) (j := 2) (by decide +kernel) rfl (by decide) rfl (by omega) fl_10_19 rfl ?_
      refine A_iload_n (i := 2) (f := 2) rfl (by decide +kernel) rfl ?_
      refine A_cVi (q := (RX0, TX0, 9)) (ci := 0) (o := ((21 : Nat) : Int)) (args := [(0, x2)]) (st := []) (by decide +kernel) cv_m0_partNamed rfl rfl in_m0_partNamed se_m0_partNamed lk_10_128 rfl (by omega) (Nat.le_of_ble_eq_true rfl) h6 (fun r7 M8 _ h9 => ?_)
      refine A_goto (off := 4) (tgt := 30) (by decide +kernel) (by omega) ?_
      exact A_ret ⟨by decide +kernel, Or.inl rfl⟩ ⟨_, rfl, h9⟩
  · have h3 := h.2 (Decidable.not_not.mp b1)
    refine A_aload_n (i := 0) (f := 0) (by omega) rfl (by decide +kernel) rfl ?_
    refine B_getr (o' := ((21 : Nat) : Int)) (q := (RX10, TX10, 13)) (ci := 9) (j := 2) (by decide +kernel) rfl (by decide) rfl (by omega) fl_10_19 rfl ?_
    refine A_iload_n (i := 2) (f := 2) rfl (by decide +kernel) rfl ?_
    refine A_cVi (q := (RX0, TX0, 9)) (ci := 0) (o := ((21 : Nat) : Int)) (args := [(0, x2)]) (st := []) (by decide +kernel) cv_m0_personNamed rfl rfl in_m0_personNamed se_m0_personNamed lk_10_124 rfl (by omega) (Nat.le_of_ble_eq_true rfl) h3 (fun r10 M11 _ h12 => ?_)
    exact A_ret ⟨by decide +kernel, Or.inl rfl⟩ ⟨_, rfl, h12⟩
theorem q_10_stands {x1 : Int} {x2 : Int} {x3 : Int} {M : Mem} {P : Int → Mem → Prop} (h : (CI m10_areTwo 2 [(19, ((0 : Nat) : Int)), (0, x1), (0, x2)] M (fun r1 M2 => ((r1 = 0 → (P (-1) M2)) ∧ (r1 ≠ 0 → (CI m10_isSeason 1 [(0, x3)] M2 (fun r7 M8 => ((r7 ≠ 0 → (CD m5_build 3 [(15, ((34 : Nat) : Int)), (12, ((30 : Nat) : Int)), (0, x3), (0, (M8 21 2))] M8 (fun M14 => (CI m5_between 3 [(15, ((34 : Nat) : Int)), (0, x1), (0, x2)] M14 (fun r16 M17 => ((0 ≤ r16 → (P r16 M17)) ∧ (r16 < 0 → (P 2 M17)))))))) ∧ (r7 = 0 → (P (-1) M8)))))))))) : CI m10_stands 4 [(19, ((0 : Nat) : Int)), (0, x1), (0, x2), (0, x3)] M P := by
  refine CI_of (by decide +kernel) (Nat.le_of_ble_eq_true rfl) ?_
  show A m10_stands 4 0 0 [(19, ((0 : Nat) : Int)), (0, x1), (0, x2), (0, x3), (2, 0)] [] M (Ki P)
  refine A_aload_n (i := 0) (f := 0) (by omega) rfl (by decide +kernel) rfl ?_
  refine A_iload_n (i := 1) (f := 1) rfl (by decide +kernel) rfl ?_
  refine A_iload_n (i := 2) (f := 2) rfl (by decide +kernel) rfl ?_
  refine A_cVi (q := (RX10, TX10, 13)) (ci := 9) (o := ((0 : Nat) : Int)) (args := [(0, x1), (0, x2)]) (st := []) (by decide +kernel) cv_m10_areTwo rfl rfl in_m10_areTwo se_m10_areTwo lk_10_170 rfl (by omega) (Nat.le_of_ble_eq_true rfl) h (fun r1 M2 _ h3 => ?_)
  refine A_if_eq (off := 10) (tgt := 16) (by decide +kernel) (by omega) (fun b4 => ?_) (fun b4 => ?_)
  · have h5 := h3.1 b4
    refine A_iconst (a := (-1)) (by decide +kernel) (by unfold in32; omega) ?_
    exact A_ret ⟨by decide +kernel, Or.inl rfl⟩ ⟨_, rfl, h5⟩
  · have h6 := h3.2 b4
    refine A_iload_n (i := 3) (f := 3) rfl (by decide +kernel) rfl ?_
    refine A_cSi (args := [(0, x3)]) (st := []) (by decide +kernel) cv_m10_isSeason st_m10_isSeason lk_10_174 rfl (by omega) (Nat.le_of_ble_eq_true rfl) h6 (fun r7 M8 _ h9 => ?_)
    refine A_if_ne (off := 5) (tgt := 18) (by decide +kernel) (by omega) (fun b10 => ?_) (fun b10 => ?_)
    · have h11 := h9.1 b10
      refine A_aload_n (i := 0) (f := 0) (by omega) rfl (by decide +kernel) rfl ?_
      refine B_getr (o' := ((34 : Nat) : Int)) (q := (RX10, TX10, 13)) (ci := 9) (j := 8) (by decide +kernel) rfl (by decide) rfl (by omega) fl_10_36 rfl ?_
      refine A_aload_n (i := 0) (f := 0) (by omega) rfl (by decide +kernel) rfl ?_
      refine B_getr (o' := ((30 : Nat) : Int)) (q := (RX10, TX10, 13)) (ci := 9) (j := 3) (by decide +kernel) rfl (by decide) rfl (by omega) fl_10_26 rfl ?_
      refine A_iload_n (i := 3) (f := 3) rfl (by decide +kernel) rfl ?_
      refine A_aload_n (i := 0) (f := 0) (by omega) rfl (by decide +kernel) rfl ?_
      refine B_getr (o' := ((21 : Nat) : Int)) (q := (RX10, TX10, 13)) (ci := 9) (j := 2) (by decide +kernel) rfl (by decide) rfl (by omega) fl_10_19 rfl ?_
      refine B_getp (v := (M8 21 2)) (q := (RX0, TX0, 9)) (ci := 0) (j := 2) (p := 2) (by decide +kernel) rfl (by decide) rfl (Or.inl rfl) fl_10_141 rfl ?_
      refine A_cVd (q := (RX5, TX5, 5)) (ci := 5) (o := ((34 : Nat) : Int)) (args := [(12, ((30 : Nat) : Int)), (0, x3), (0, (M8 21 2))]) (st := []) (by decide +kernel) cv_m5_build rfl rfl in_m5_build se_m5_build lk_10_144 rfl (by omega) (Nat.le_of_ble_eq_true rfl) h11 (fun M14 h15 => ?_)
      refine A_aload_n (i := 0) (f := 0) (by omega) rfl (by decide +kernel) rfl ?_
      refine B_getr (o' := ((34 : Nat) : Int)) (q := (RX10, TX10, 13)) (ci := 9) (j := 8) (by decide +kernel) rfl (by decide) rfl (by omega) fl_10_36 rfl ?_
      refine A_iload_n (i := 1) (f := 1) rfl (by decide +kernel) rfl ?_
      refine A_iload_n (i := 2) (f := 2) rfl (by decide +kernel) rfl ?_
      refine A_cVi (q := (RX5, TX5, 5)) (ci := 5) (o := ((34 : Nat) : Int)) (args := [(0, x1), (0, x2)]) (st := []) (by decide +kernel) cv_m5_between rfl rfl in_m5_between se_m5_between lk_10_177 rfl (by omega) (Nat.le_of_ble_eq_true rfl) h15 (fun r16 M17 _ h18 => ?_)
      refine A_istore (i := 4) (by decide +kernel) (by decide) (fun w h0 hw => by simp at hw; first | (rw [← hw]; decide) | (rw [← hw]; simp)) ?_
      refine A_iload (i := 4) (by decide +kernel) rfl ?_
      refine A_if_ge (off := 7) (tgt := 57) (by decide +kernel) (by omega) (fun b19 => ?_) (fun b19 => ?_)
      · have h20 := h18.1 b19
        refine A_iload (i := 4) (by decide +kernel) rfl ?_
        exact A_ret ⟨by decide +kernel, Or.inl rfl⟩ ⟨_, rfl, h20⟩
      · have h21 := h18.2 (Int.not_le.mp b19)
        refine A_iconst (a := 2) (by decide +kernel) (by unfold in32; omega) ?_
        refine A_goto (off := 5) (tgt := 59) (by decide +kernel) (by omega) ?_
        exact A_ret ⟨by decide +kernel, Or.inl rfl⟩ ⟨_, rfl, h21⟩
    · have h12 := h9.2 (Decidable.not_not.mp b10)
      refine A_iconst (a := (-1)) (by decide +kernel) (by unfold in32; omega) ?_
      exact A_ret ⟨by decide +kernel, Or.inl rfl⟩ ⟨_, rfl, h12⟩
theorem q_10_season {x1 : Int} {M : Mem} {P : Int → Mem → Prop} (h : (CI m10_isSeason 1 [(0, x1)] M (fun r1 M2 => ((r1 ≠ 0 → (P 1 (mset M2 0 5 x1))) ∧ (r1 = 0 → (P 0 M2)))))) : CI m10_season 2 [(19, ((0 : Nat) : Int)), (0, x1)] M P := by
  refine CI_of (by decide +kernel) (Nat.le_of_ble_eq_true rfl) ?_
  show A m10_season 2 0 0 [(19, ((0 : Nat) : Int)), (0, x1)] [] M (Ki P)
  refine A_iload_n (i := 1) (f := 1) rfl (by decide +kernel) rfl ?_
  refine A_cSi (args := [(0, x1)]) (st := []) (by decide +kernel) cv_m10_isSeason st_m10_isSeason lk_10_174 rfl (by omega) (Nat.le_of_ble_eq_true rfl) h (fun r1 M2 _ h3 => ?_)
  refine A_if_ne (off := 5) (tgt := 9) (by decide +kernel) (by omega) (fun b4 => ?_) (fun b4 => ?_)
  · have h5 := h3.1 b4
    refine A_aload_n (i := 0) (f := 0) (by omega) rfl (by decide +kernel) rfl ?_
    refine A_iload_n (i := 1) (f := 1) rfl (by decide +kernel) rfl ?_
    refine B_putp (M' := (mset M2 0 5 x1)) (q := (RX10, TX10, 13)) (ci := 9) (j := 4) (p := 5) (by decide +kernel) rfl (by decide) rfl (Or.inl ⟨rfl, rfl⟩) rfl fl_10_105 rfl ?_
    refine A_iconst (a := 1) (by decide +kernel) (by unfold in32; omega) ?_
    exact A_ret ⟨by decide +kernel, Or.inr ⟨rfl, by decide⟩⟩ ⟨_, rfl, h5⟩
  · have h6 := h3.2 (Decidable.not_not.mp b4)
    refine A_iconst (a := 0) (by decide +kernel) (by unfold in32; omega) ?_
    exact A_ret ⟨by decide +kernel, Or.inr ⟨rfl, by decide⟩⟩ ⟨_, rfl, h6⟩
theorem q_10_raise {x1 : Int} {x2 : Int} {x3 : Int} {M : Mem} {P : Int → Mem → Prop} (h : (CI m10_areTwo 2 [(19, ((0 : Nat) : Int)), (0, x1), (0, x2)] M (fun r1 M2 => ((r1 = 0 → (P (-1) M2)) ∧ (r1 ≠ 0 → ((x3 < 0 → (P (-1) M2)) ∧ (0 ≤ x3 → ((1 < x3 → (P (-1) M2)) ∧ (x3 ≤ 1 → (((M2 30 1) < 24 → (CI m2_tells 4 [(12, ((30 : Nat) : Int)), (0, x1), (0, x2), (0, x3), (0, (-1))] M2 (fun r16 M17 => ((r16 = 0 → (CD m2_add 2 [(12, ((30 : Nat) : Int)), (0, x1), (0, x2), (0, x3), (0, (-1))] M17 (fun M23 => (CI m5_bendsInSomeSeason 4 [(15, ((34 : Nat) : Int)), (12, ((30 : Nat) : Int)), (0, (M23 21 2))] M23 (fun r25 M26 => ((r25 = 0 → (P (w32 ((M26 30 1) - 1)) M26)) ∧ (r25 ≠ 0 → (CD m2_dropLast 1 [(12, ((30 : Nat) : Int))] M26 (fun M32 => (P (-1) M32)))))))))) ∧ (r16 ≠ 0 → (P (-1) M17)))))) ∧ (24 ≤ (M2 30 1) → (P (-1) M2)))))))))))) : CI m10_raise 5 [(19, ((0 : Nat) : Int)), (0, x1), (0, x2), (0, x3)] M P := by
  refine CI_of (by decide +kernel) (Nat.le_of_ble_eq_true rfl) ?_
  show A m10_raise 5 0 0 [(19, ((0 : Nat) : Int)), (0, x1), (0, x2), (0, x3)] [] M (Ki P)
  refine A_aload_n (i := 0) (f := 0) (by omega) rfl (by decide +kernel) rfl ?_
  refine A_iload_n (i := 1) (f := 1) rfl (by decide +kernel) rfl ?_
  refine A_iload_n (i := 2) (f := 2) rfl (by decide +kernel) rfl ?_
  refine A_cVi (q := (RX10, TX10, 13)) (ci := 9) (o := ((0 : Nat) : Int)) (args := [(0, x1), (0, x2)]) (st := []) (by decide +kernel) cv_m10_areTwo rfl rfl in_m10_areTwo se_m10_areTwo lk_10_170 rfl (by omega) (Nat.le_of_ble_eq_true rfl) h (fun r1 M2 _ h3 => ?_)
  refine A_if_eq (off := 24) (tgt := 30) (by decide +kernel) (by omega) (fun b4 => ?_) (fun b4 => ?_)
  · have h5 := h3.1 b4
    refine A_iconst (a := (-1)) (by decide +kernel) (by unfold in32; omega) ?_
    exact A_ret ⟨by decide +kernel, Or.inl rfl⟩ ⟨_, rfl, h5⟩
  · have h6 := h3.2 b4
    refine A_iload_n (i := 3) (f := 3) rfl (by decide +kernel) rfl ?_
    refine A_if_lt (off := 20) (tgt := 30) (by decide +kernel) (by omega) (fun b7 => ?_) (fun b7 => ?_)
    · have h8 := h6.1 b7
      refine A_iconst (a := (-1)) (by decide +kernel) (by unfold in32; omega) ?_
      exact A_ret ⟨by decide +kernel, Or.inl rfl⟩ ⟨_, rfl, h8⟩
    · have h9 := h6.2 (Int.not_lt.mp b7)
      refine A_iload_n (i := 3) (f := 3) rfl (by decide +kernel) rfl ?_
      refine A_iconst (a := 1) (by decide +kernel) (by unfold in32; omega) ?_
      refine A_ic_gt (off := 15) (tgt := 30) (by decide +kernel) (by omega) (fun b10 => ?_) (fun b10 => ?_)
      · have h11 := h9.1 b10
        refine A_iconst (a := (-1)) (by decide +kernel) (by unfold in32; omega) ?_
        exact A_ret ⟨by decide +kernel, Or.inl rfl⟩ ⟨_, rfl, h11⟩
      · have h12 := h9.2 (Int.not_lt.mp b10)
        refine A_aload_n (i := 0) (f := 0) (by omega) rfl (by decide +kernel) rfl ?_
        refine B_getr (o' := ((30 : Nat) : Int)) (q := (RX10, TX10, 13)) (ci := 9) (j := 3) (by decide +kernel) rfl (by decide) rfl (by omega) fl_10_26 rfl ?_
        refine B_getp (v := (M2 30 1)) (q := (RX2, TX2, 2)) (ci := 2) (j := 1) (p := 1) (by decide +kernel) rfl (by decide) rfl (Or.inl rfl) fl_10_181 rfl ?_
        refine A_bipush (a := 24) (by decide +kernel) (by unfold in32; omega) (by decide +kernel) ?_
        refine A_ic_lt (off := 5) (tgt := 32) (by decide +kernel) (by omega) (fun b13 => ?_) (fun b13 => ?_)
        · have h14 := h12.1 b13
          refine A_aload_n (i := 0) (f := 0) (by omega) rfl (by decide +kernel) rfl ?_
          refine B_getr (o' := ((30 : Nat) : Int)) (q := (RX10, TX10, 13)) (ci := 9) (j := 3) (by decide +kernel) rfl (by decide) rfl (by omega) fl_10_26 rfl ?_
          refine A_iload_n (i := 1) (f := 1) rfl (by decide +kernel) rfl ?_
          refine A_iload_n (i := 2) (f := 2) rfl (by decide +kernel) rfl ?_
          refine A_iload_n (i := 3) (f := 3) rfl (by decide +kernel) rfl ?_
          refine A_iconst (a := (-1)) (by decide +kernel) (by unfold in32; omega) ?_
          refine A_cVi (q := (RX2, TX2, 2)) (ci := 2) (o := ((30 : Nat) : Int)) (args := [(0, x1), (0, x2), (0, x3), (0, (-1))]) (st := []) (by decide +kernel) cv_m2_tells rfl rfl in_m2_tells se_m2_tells lk_10_184 rfl (by omega) (Nat.le_of_ble_eq_true rfl) h14 (fun r16 M17 _ h18 => ?_)
          refine A_if_eq (off := 5) (tgt := 48) (by decide +kernel) (by omega) (fun b19 => ?_) (fun b19 => ?_)
          · have h20 := h18.1 b19
            refine A_aload_n (i := 0) (f := 0) (by omega) rfl (by decide +kernel) rfl ?_
            refine B_getr (o' := ((30 : Nat) : Int)) (q := (RX10, TX10, 13)) (ci := 9) (j := 3) (by decide +kernel) rfl (by decide) rfl (by omega) fl_10_26 rfl ?_
            refine A_iload_n (i := 1) (f := 1) rfl (by decide +kernel) rfl ?_
            refine A_iload_n (i := 2) (f := 2) rfl (by decide +kernel) rfl ?_
            refine A_iload_n (i := 3) (f := 3) rfl (by decide +kernel) rfl ?_
            refine A_iconst (a := (-1)) (by decide +kernel) (by unfold in32; omega) ?_
            refine A_cVd (q := (RX2, TX2, 2)) (ci := 2) (o := ((30 : Nat) : Int)) (args := [(0, x1), (0, x2), (0, x3), (0, (-1))]) (st := []) (by decide +kernel) cv_m2_add rfl rfl in_m2_add se_m2_add lk_10_188 rfl (by omega) (Nat.le_of_ble_eq_true rfl) h20 (fun M23 h24 => ?_)
            refine A_aload_n (i := 0) (f := 0) (by omega) rfl (by decide +kernel) rfl ?_
            refine B_getr (o' := ((34 : Nat) : Int)) (q := (RX10, TX10, 13)) (ci := 9) (j := 8) (by decide +kernel) rfl (by decide) rfl (by omega) fl_10_36 rfl ?_
            refine A_aload_n (i := 0) (f := 0) (by omega) rfl (by decide +kernel) rfl ?_
            refine B_getr (o' := ((30 : Nat) : Int)) (q := (RX10, TX10, 13)) (ci := 9) (j := 3) (by decide +kernel) rfl (by decide) rfl (by omega) fl_10_26 rfl ?_
            refine A_aload_n (i := 0) (f := 0) (by omega) rfl (by decide +kernel) rfl ?_
            refine B_getr (o' := ((21 : Nat) : Int)) (q := (RX10, TX10, 13)) (ci := 9) (j := 2) (by decide +kernel) rfl (by decide) rfl (by omega) fl_10_19 rfl ?_
            refine B_getp (v := (M23 21 2)) (q := (RX0, TX0, 9)) (ci := 0) (j := 2) (p := 2) (by decide +kernel) rfl (by decide) rfl (Or.inl rfl) fl_10_141 rfl ?_
            refine A_cVi (q := (RX5, TX5, 5)) (ci := 5) (o := ((34 : Nat) : Int)) (args := [(12, ((30 : Nat) : Int)), (0, (M23 21 2))]) (st := []) (by decide +kernel) cv_m5_bendsInSomeSeason rfl rfl in_m5_bendsInSomeSeason se_m5_bendsInSomeSeason lk_10_192 rfl (by omega) (Nat.le_of_ble_eq_true rfl) h24 (fun r25 M26 _ h27 => ?_)
            refine A_if_eq (off := 12) (tgt := 89) (by decide +kernel) (by omega) (fun b28 => ?_) (fun b28 => ?_)
            · have h29 := h27.1 b28
              refine A_aload_n (i := 0) (f := 0) (by omega) rfl (by decide +kernel) rfl ?_
              refine B_getr (o' := ((30 : Nat) : Int)) (q := (RX10, TX10, 13)) (ci := 9) (j := 3) (by decide +kernel) rfl (by decide) rfl (by omega) fl_10_26 rfl ?_
              refine B_getp (v := (M26 30 1)) (q := (RX2, TX2, 2)) (ci := 2) (j := 1) (p := 1) (by decide +kernel) rfl (by decide) rfl (Or.inl rfl) fl_10_181 rfl ?_
              refine A_iconst (a := 1) (by decide +kernel) (by unfold in32; omega) ?_
              refine A_isub (by decide +kernel) ?_
              exact A_ret ⟨by decide +kernel, Or.inl rfl⟩ ⟨_, rfl, h29⟩
            · have h30 := h27.2 b28
              refine A_aload_n (i := 0) (f := 0) (by omega) rfl (by decide +kernel) rfl ?_
              refine B_getr (o' := ((30 : Nat) : Int)) (q := (RX10, TX10, 13)) (ci := 9) (j := 3) (by decide +kernel) rfl (by decide) rfl (by omega) fl_10_26 rfl ?_
              refine A_cVd (q := (RX2, TX2, 2)) (ci := 2) (o := ((30 : Nat) : Int)) (args := []) (st := []) (by decide +kernel) cv_m2_dropLast rfl rfl in_m2_dropLast se_m2_dropLast lk_10_196 rfl (by omega) (Nat.le_of_ble_eq_true rfl) h30 (fun M32 h33 => ?_)
              refine A_iconst (a := (-1)) (by decide +kernel) (by unfold in32; omega) ?_
              exact A_ret ⟨by decide +kernel, Or.inl rfl⟩ ⟨_, rfl, h33⟩
          · have h21 := h18.2 b19
            refine A_iconst (a := (-1)) (by decide +kernel) (by unfold in32; omega) ?_
            exact A_ret ⟨by decide +kernel, Or.inl rfl⟩ ⟨_, rfl, h21⟩
        · have h15 := h12.2 (Int.not_lt.mp b13)
          refine A_iconst (a := (-1)) (by decide +kernel) (by unfold in32; omega) ?_
          exact A_ret ⟨by decide +kernel, Or.inl rfl⟩ ⟨_, rfl, h15⟩
theorem q_10_strike {x1 : Int} {M : Mem} {P : Int → Mem → Prop} (h : (CI m2_lives 2 [(12, ((30 : Nat) : Int)), (0, x1)] M (fun r1 M2 => ((r1 ≠ 0 → (CD m2_strikeOut 2 [(12, ((30 : Nat) : Int)), (0, x1)] M2 (fun M8 => (P 1 M8)))) ∧ (r1 = 0 → (P 0 M2)))))) : CI m10_strike 3 [(19, ((0 : Nat) : Int)), (0, x1)] M P := by
  refine CI_of (by decide +kernel) (Nat.le_of_ble_eq_true rfl) ?_
  show A m10_strike 3 0 0 [(19, ((0 : Nat) : Int)), (0, x1)] [] M (Ki P)
  refine A_aload_n (i := 0) (f := 0) (by omega) rfl (by decide +kernel) rfl ?_
  refine B_getr (o' := ((30 : Nat) : Int)) (q := (RX10, TX10, 13)) (ci := 9) (j := 3) (by decide +kernel) rfl (by decide) rfl (by omega) fl_10_26 rfl ?_
  refine A_iload_n (i := 1) (f := 1) rfl (by decide +kernel) rfl ?_
  refine A_cVi (q := (RX2, TX2, 2)) (ci := 2) (o := ((30 : Nat) : Int)) (args := [(0, x1)]) (st := []) (by decide +kernel) cv_m2_lives rfl rfl in_m2_lives se_m2_lives lk_10_199 rfl (by omega) (Nat.le_of_ble_eq_true rfl) h (fun r1 M2 _ h3 => ?_)
  refine A_if_ne (off := 5) (tgt := 13) (by decide +kernel) (by omega) (fun b4 => ?_) (fun b4 => ?_)
  · have h5 := h3.1 b4
    refine A_aload_n (i := 0) (f := 0) (by omega) rfl (by decide +kernel) rfl ?_
    refine B_getr (o' := ((30 : Nat) : Int)) (q := (RX10, TX10, 13)) (ci := 9) (j := 3) (by decide +kernel) rfl (by decide) rfl (by omega) fl_10_26 rfl ?_
    refine A_iload_n (i := 1) (f := 1) rfl (by decide +kernel) rfl ?_
    refine A_cVd (q := (RX2, TX2, 2)) (ci := 2) (o := ((30 : Nat) : Int)) (args := [(0, x1)]) (st := []) (by decide +kernel) cv_m2_strikeOut rfl rfl in_m2_strikeOut se_m2_strikeOut lk_10_202 rfl (by omega) (Nat.le_of_ble_eq_true rfl) h5 (fun M8 h9 => ?_)
    refine A_iconst (a := 1) (by decide +kernel) (by unfold in32; omega) ?_
    exact A_ret ⟨by decide +kernel, Or.inr ⟨rfl, by decide⟩⟩ ⟨_, rfl, h9⟩
  · have h6 := h3.2 (Decidable.not_not.mp b4)
    refine A_iconst (a := 0) (by decide +kernel) (by unfold in32; omega) ?_
    exact A_ret ⟨by decide +kernel, Or.inr ⟨rfl, by decide⟩⟩ ⟨_, rfl, h6⟩
theorem q_10_fact {x1 : Int} {x2 : Int} {M : Mem} {P : Int → Mem → Prop} (h : ((x1 < 0 → (P (-1) M)) ∧ (0 ≤ x1 → (((M 30 1) ≤ x1 → (P (-1) M)) ∧ (x1 < (M 30 1) → ((x2 < 0 → (P (-1) M)) ∧ (0 ≤ x2 → ((x2 < 5 → (CI m2_cell 2 [(12, ((30 : Nat) : Int)), (0, x1), (0, x2)] M (fun r13 M14 => (P r13 M14)))) ∧ (5 ≤ x2 → (P (-1) M)))))))))) : CI m10_fact 3 [(19, ((0 : Nat) : Int)), (0, x1), (0, x2)] M P := by
  refine CI_of (by decide +kernel) (Nat.le_of_ble_eq_true rfl) ?_
  show A m10_fact 3 0 0 [(19, ((0 : Nat) : Int)), (0, x1), (0, x2)] [] M (Ki P)
  refine A_iload_n (i := 1) (f := 1) rfl (by decide +kernel) rfl ?_
  refine A_if_lt (off := 23) (tgt := 24) (by decide +kernel) (by omega) (fun b1 => ?_) (fun b1 => ?_)
  · have h2 := h.1 b1
    refine A_iconst (a := (-1)) (by decide +kernel) (by unfold in32; omega) ?_
    exact A_ret ⟨by decide +kernel, Or.inl rfl⟩ ⟨_, rfl, h2⟩
  · have h3 := h.2 (Int.not_lt.mp b1)
    refine A_iload_n (i := 1) (f := 1) rfl (by decide +kernel) rfl ?_
    refine A_aload_n (i := 0) (f := 0) (by omega) rfl (by decide +kernel) rfl ?_
    refine B_getr (o' := ((30 : Nat) : Int)) (q := (RX10, TX10, 13)) (ci := 9) (j := 3) (by decide +kernel) rfl (by decide) rfl (by omega) fl_10_26 rfl ?_
    refine B_getp (v := (M 30 1)) (q := (RX2, TX2, 2)) (ci := 2) (j := 1) (p := 1) (by decide +kernel) rfl (by decide) rfl (Or.inl rfl) fl_10_181 rfl ?_
    refine A_ic_ge (off := 12) (tgt := 24) (by decide +kernel) (by omega) (fun b4 => ?_) (fun b4 => ?_)
    · have h5 := h3.1 b4
      refine A_iconst (a := (-1)) (by decide +kernel) (by unfold in32; omega) ?_
      exact A_ret ⟨by decide +kernel, Or.inl rfl⟩ ⟨_, rfl, h5⟩
    · have h6 := h3.2 (Int.not_le.mp b4)
      refine A_iload_n (i := 2) (f := 2) rfl (by decide +kernel) rfl ?_
      refine A_if_lt (off := 8) (tgt := 24) (by decide +kernel) (by omega) (fun b7 => ?_) (fun b7 => ?_)
      · have h8 := h6.1 b7
        refine A_iconst (a := (-1)) (by decide +kernel) (by unfold in32; omega) ?_
        exact A_ret ⟨by decide +kernel, Or.inl rfl⟩ ⟨_, rfl, h8⟩
      · have h9 := h6.2 (Int.not_lt.mp b7)
        refine A_iload_n (i := 2) (f := 2) rfl (by decide +kernel) rfl ?_
        refine A_iconst (a := 5) (by decide +kernel) (by unfold in32; omega) ?_
        refine A_ic_lt (off := 5) (tgt := 26) (by decide +kernel) (by omega) (fun b10 => ?_) (fun b10 => ?_)
        · have h11 := h9.1 b10
          refine A_aload_n (i := 0) (f := 0) (by omega) rfl (by decide +kernel) rfl ?_
          refine B_getr (o' := ((30 : Nat) : Int)) (q := (RX10, TX10, 13)) (ci := 9) (j := 3) (by decide +kernel) rfl (by decide) rfl (by omega) fl_10_26 rfl ?_
          refine A_iload_n (i := 1) (f := 1) rfl (by decide +kernel) rfl ?_
          refine A_iload_n (i := 2) (f := 2) rfl (by decide +kernel) rfl ?_
          refine A_cVi (q := (RX2, TX2, 2)) (ci := 2) (o := ((30 : Nat) : Int)) (args := [(0, x1), (0, x2)]) (st := []) (by decide +kernel) cv_m2_cell rfl rfl in_m2_cell se_m2_cell lk_10_205 rfl (by omega) (Nat.le_of_ble_eq_true rfl) h11 (fun r13 M14 _ h15 => ?_)
          exact A_ret ⟨by decide +kernel, Or.inl rfl⟩ ⟨_, rfl, h15⟩
        · have h12 := h9.2 (Int.not_lt.mp b10)
          refine A_iconst (a := (-1)) (by decide +kernel) (by unfold in32; omega) ?_
          exact A_ret ⟨by decide +kernel, Or.inl rfl⟩ ⟨_, rfl, h12⟩
theorem q_10_ring {x1 : Int} {x2 : Int} {x3 : Int} {M : Mem} {P : Int → Mem → Prop} (h : (CI m10_areTwo 2 [(19, ((0 : Nat) : Int)), (0, x1), (0, x2)] M (fun r1 M2 => ((r1 = 0 → (P (-1) M2)) ∧ (r1 ≠ 0 → (((-1) ≤ x3 → (CD m5_build 3 [(15, ((34 : Nat) : Int)), (12, ((30 : Nat) : Int)), (0, (M2 0 5)), (0, (M2 21 2))] M2 (fun M11 => (CI m5_stepsDown 3 [(15, ((34 : Nat) : Int)), (0, x1), (0, x2)] M11 (fun r13 M14 => ((r13 = (-1) → (P (-2) M14)) ∧ (r13 ≠ (-1) → ((x3 ≤ r13 → ((x3 ≠ (-1) → (CI m5_onTheWay 3 [(15, ((34 : Nat) : Int)), (0, x1), (0, x2), (0, x3)] M14 (fun r25 M26 => (P r25 M26)))) ∧ (x3 = (-1) → (P (w32 (r13 + 1)) M14)))) ∧ (r13 < x3 → (P (-2) M14)))))))))) ∧ (x3 < (-1) → (P (-1) M2)))))))) : CI m10_ring 4 [(19, ((0 : Nat) : Int)), (0, x1), (0, x2), (0, x3)] M P := by
  refine CI_of (by decide +kernel) (Nat.le_of_ble_eq_true rfl) ?_
  show A m10_ring 4 0 0 [(19, ((0 : Nat) : Int)), (0, x1), (0, x2), (0, x3), (2, 0)] [] M (Ki P)
  refine A_aload_n (i := 0) (f := 0) (by omega) rfl (by decide +kernel) rfl ?_
  refine A_iload_n (i := 1) (f := 1) rfl (by decide +kernel) rfl ?_
  refine A_iload_n (i := 2) (f := 2) rfl (by decide +kernel) rfl ?_
  refine A_cVi (q := (RX10, TX10, 13)) (ci := 9) (o := ((0 : Nat) : Int)) (args := [(0, x1), (0, x2)]) (st := []) (by decide +kernel) cv_m10_areTwo rfl rfl in_m10_areTwo se_m10_areTwo lk_10_170 rfl (by omega) (Nat.le_of_ble_eq_true rfl) h (fun r1 M2 _ h3 => ?_)
  refine A_if_eq (off := 8) (tgt := 14) (by decide +kernel) (by omega) (fun b4 => ?_) (fun b4 => ?_)
  · have h5 := h3.1 b4
    refine A_iconst (a := (-1)) (by decide +kernel) (by unfold in32; omega) ?_
    exact A_ret ⟨by decide +kernel, Or.inl rfl⟩ ⟨_, rfl, h5⟩
  · have h6 := h3.2 b4
    refine A_iload_n (i := 3) (f := 3) rfl (by decide +kernel) rfl ?_
    refine A_iconst (a := (-1)) (by decide +kernel) (by unfold in32; omega) ?_
    refine A_ic_ge (off := 5) (tgt := 16) (by decide +kernel) (by omega) (fun b7 => ?_) (fun b7 => ?_)
    · have h8 := h6.1 b7
      refine A_aload_n (i := 0) (f := 0) (by omega) rfl (by decide +kernel) rfl ?_
      refine B_getr (o' := ((34 : Nat) : Int)) (q := (RX10, TX10, 13)) (ci := 9) (j := 8) (by decide +kernel) rfl (by decide) rfl (by omega) fl_10_36 rfl ?_
      refine A_aload_n (i := 0) (f := 0) (by omega) rfl (by decide +kernel) rfl ?_
      refine B_getr (o' := ((30 : Nat) : Int)) (q := (RX10, TX10, 13)) (ci := 9) (j := 3) (by decide +kernel) rfl (by decide) rfl (by omega) fl_10_26 rfl ?_
      refine A_aload_n (i := 0) (f := 0) (by omega) rfl (by decide +kernel) rfl ?_
      refine B_getp (v := (M2 0 5)) (q := (RX10, TX10, 13)) (ci := 9) (j := 4) (p := 5) (by decide +kernel) rfl (by decide) rfl (Or.inl rfl) fl_10_105 rfl ?_
      refine A_aload_n (i := 0) (f := 0) (by omega) rfl (by decide +kernel) rfl ?_
      refine B_getr (o' := ((21 : Nat) : Int)) (q := (RX10, TX10, 13)) (ci := 9) (j := 2) (by decide +kernel) rfl (by decide) rfl (by omega) fl_10_19 rfl ?_
      refine B_getp (v := (M2 21 2)) (q := (RX0, TX0, 9)) (ci := 0) (j := 2) (p := 2) (by decide +kernel) rfl (by decide) rfl (Or.inl rfl) fl_10_141 rfl ?_
      refine A_cVd (q := (RX5, TX5, 5)) (ci := 5) (o := ((34 : Nat) : Int)) (args := [(12, ((30 : Nat) : Int)), (0, (M2 0 5)), (0, (M2 21 2))]) (st := []) (by decide +kernel) cv_m5_build rfl rfl in_m5_build se_m5_build lk_10_144 rfl (by omega) (Nat.le_of_ble_eq_true rfl) h8 (fun M11 h12 => ?_)
      refine A_aload_n (i := 0) (f := 0) (by omega) rfl (by decide +kernel) rfl ?_
      refine B_getr (o' := ((34 : Nat) : Int)) (q := (RX10, TX10, 13)) (ci := 9) (j := 8) (by decide +kernel) rfl (by decide) rfl (by omega) fl_10_36 rfl ?_
      refine A_iload_n (i := 1) (f := 1) rfl (by decide +kernel) rfl ?_
      refine A_iload_n (i := 2) (f := 2) rfl (by decide +kernel) rfl ?_
      refine A_cVi (q := (RX5, TX5, 5)) (ci := 5) (o := ((34 : Nat) : Int)) (args := [(0, x1), (0, x2)]) (st := []) (by decide +kernel) cv_m5_stepsDown rfl rfl in_m5_stepsDown se_m5_stepsDown lk_10_208 rfl (by omega) (Nat.le_of_ble_eq_true rfl) h12 (fun r13 M14 _ h15 => ?_)
      refine A_istore (i := 4) (by decide +kernel) (by decide) (fun w h0 hw => by simp at hw; first | (rw [← hw]; decide) | (rw [← hw]; simp)) ?_
      refine A_iload (i := 4) (by decide +kernel) rfl ?_
      refine A_iconst (a := (-1)) (by decide +kernel) (by unfold in32; omega) ?_
      refine A_ic_eq (off := 9) (tgt := 61) (by decide +kernel) (by omega) (fun b16 => ?_) (fun b16 => ?_)
      · have h17 := h15.1 b16
        refine A_bipush (a := (-2)) (by decide +kernel) (by unfold in32; omega) (by decide +kernel) ?_
        exact A_ret ⟨by decide +kernel, Or.inl rfl⟩ ⟨_, rfl, h17⟩
      · have h18 := h15.2 b16
        refine A_iload_n (i := 3) (f := 3) rfl (by decide +kernel) rfl ?_
        refine A_iload (i := 4) (by decide +kernel) rfl ?_
        refine A_ic_le (off := 6) (tgt := 64) (by decide +kernel) (by omega) (fun b19 => ?_) (fun b19 => ?_)
        · have h20 := h18.1 b19
          refine A_iload_n (i := 3) (f := 3) rfl (by decide +kernel) rfl ?_
          refine A_iconst (a := (-1)) (by decide +kernel) (by unfold in32; omega) ?_
          refine A_ic_ne (off := 10) (tgt := 76) (by decide +kernel) (by omega) (fun b22 => ?_) (fun b22 => ?_)
          · have h23 := h20.1 b22
            refine A_aload_n (i := 0) (f := 0) (by omega) rfl (by decide +kernel) rfl ?_
            refine B_getr (o' := ((34 : Nat) : Int)) (q := (RX10, TX10, 13)) (ci := 9) (j := 8) (by decide +kernel) rfl (by decide) rfl (by omega) fl_10_36 rfl ?_
            refine A_iload_n (i := 1) (f := 1) rfl (by decide +kernel) rfl ?_
            refine A_iload_n (i := 2) (f := 2) rfl (by decide +kernel) rfl ?_
            refine A_iload_n (i := 3) (f := 3) rfl (by decide +kernel) rfl ?_
            refine A_cVi (q := (RX5, TX5, 5)) (ci := 5) (o := ((34 : Nat) : Int)) (args := [(0, x1), (0, x2), (0, x3)]) (st := []) (by decide +kernel) cv_m5_onTheWay rfl rfl in_m5_onTheWay se_m5_onTheWay lk_10_211 rfl (by omega) (Nat.le_of_ble_eq_true rfl) h23 (fun r25 M26 _ h27 => ?_)
            exact A_ret ⟨by decide +kernel, Or.inl rfl⟩ ⟨_, rfl, h27⟩
          · have h24 := h20.2 (Decidable.not_not.mp b22)
            refine A_iload (i := 4) (by decide +kernel) rfl ?_
            refine A_iconst (a := 1) (by decide +kernel) (by unfold in32; omega) ?_
            refine A_iadd (by decide +kernel) ?_
            refine A_goto (off := 13) (tgt := 86) (by decide +kernel) (by omega) ?_
            exact A_ret ⟨by decide +kernel, Or.inl rfl⟩ ⟨_, rfl, h24⟩
        · have h21 := h18.2 (Int.not_le.mp b19)
          refine A_bipush (a := (-2)) (by decide +kernel) (by unfold in32; omega) (by decide +kernel) ?_
          exact A_ret ⟨by decide +kernel, Or.inl rfl⟩ ⟨_, rfl, h21⟩
    · have h9 := h6.2 (Int.not_le.mp b7)
      refine A_iconst (a := (-1)) (by decide +kernel) (by unfold in32; omega) ?_
      exact A_ret ⟨by decide +kernel, Or.inl rfl⟩ ⟨_, rfl, h9⟩
theorem q_10_say {x1 : Int} {x2 : Int} {x3 : Int} {M : Mem} {P : Int → Mem → Prop} (h : (CI m10_isSaying 3 [(19, ((0 : Nat) : Int)), (0, x1), (0, x2), (0, x3)] M (fun r1 M2 => ((r1 ≠ 0 → (CD m10_meetNow 5 [(19, ((0 : Nat) : Int)), (0, x1), (0, x2), (0, x3)] M2 (fun M8 => (CI m9_rightRow 5 [(18, ((39 : Nat) : Int)), (10, ((21 : Nat) : Int))] M8 (fun r10 M11 => (P r10 M11)))))) ∧ (r1 = 0 → (P (-1) M2)))))) : CI m10_say 6 [(19, ((0 : Nat) : Int)), (0, x1), (0, x2), (0, x3)] M P := by
  refine CI_of (by decide +kernel) (Nat.le_of_ble_eq_true rfl) ?_
  show A m10_say 6 0 0 [(19, ((0 : Nat) : Int)), (0, x1), (0, x2), (0, x3)] [] M (Ki P)
  refine A_aload_n (i := 0) (f := 0) (by omega) rfl (by decide +kernel) rfl ?_
  refine A_iload_n (i := 1) (f := 1) rfl (by decide +kernel) rfl ?_
  refine A_iload_n (i := 2) (f := 2) rfl (by decide +kernel) rfl ?_
  refine A_iload_n (i := 3) (f := 3) rfl (by decide +kernel) rfl ?_
  refine A_cVi (q := (RX10, TX10, 13)) (ci := 9) (o := ((0 : Nat) : Int)) (args := [(0, x1), (0, x2), (0, x3)]) (st := []) (by decide +kernel) cv_m10_isSaying rfl rfl in_m10_isSaying se_m10_isSaying lk_10_215 rfl (by omega) (Nat.le_of_ble_eq_true rfl) h (fun r1 M2 _ h3 => ?_)
  refine A_if_ne (off := 5) (tgt := 12) (by decide +kernel) (by omega) (fun b4 => ?_) (fun b4 => ?_)
  · have h5 := h3.1 b4
    refine A_aload_n (i := 0) (f := 0) (by omega) rfl (by decide +kernel) rfl ?_
    refine A_iload_n (i := 1) (f := 1) rfl (by decide +kernel) rfl ?_
    refine A_iload_n (i := 2) (f := 2) rfl (by decide +kernel) rfl ?_
    refine A_iload_n (i := 3) (f := 3) rfl (by decide +kernel) rfl ?_
    refine A_cVd (q := (RX10, TX10, 13)) (ci := 9) (o := ((0 : Nat) : Int)) (args := [(0, x1), (0, x2), (0, x3)]) (st := []) (by decide +kernel) cv_m10_meetNow rfl rfl in_m10_meetNow se_m10_meetNow lk_10_219 rfl (by omega) (Nat.le_of_ble_eq_true rfl) h5 (fun M8 h9 => ?_)
    refine A_aload_n (i := 0) (f := 0) (by omega) rfl (by decide +kernel) rfl ?_
    refine B_getr (o' := ((39 : Nat) : Int)) (q := (RX10, TX10, 13)) (ci := 9) (j := 9) (by decide +kernel) rfl (by decide) rfl (by omega) fl_10_43 rfl ?_
    refine A_aload_n (i := 0) (f := 0) (by omega) rfl (by decide +kernel) rfl ?_
    refine B_getr (o' := ((21 : Nat) : Int)) (q := (RX10, TX10, 13)) (ci := 9) (j := 2) (by decide +kernel) rfl (by decide) rfl (by omega) fl_10_19 rfl ?_
    refine A_cVi (q := (RX9, TX9, 3)) (ci := 8) (o := ((39 : Nat) : Int)) (args := [(10, ((21 : Nat) : Int))]) (st := []) (by decide +kernel) cv_m9_rightRow rfl rfl in_m9_rightRow se_m9_rightRow lk_10_223 rfl (by omega) (Nat.le_of_ble_eq_true rfl) h9 (fun r10 M11 _ h12 => ?_)
    exact A_ret ⟨by decide +kernel, Or.inl rfl⟩ ⟨_, rfl, h12⟩
  · have h6 := h3.2 (Decidable.not_not.mp b4)
    refine A_iconst (a := (-1)) (by decide +kernel) (by unfold in32; omega) ?_
    exact A_ret ⟨by decide +kernel, Or.inl rfl⟩ ⟨_, rfl, h6⟩
theorem q_10_place {x1 : Int} {x2 : Int} {x3 : Int} {x4 : Int} {M : Mem} {P : Int → Mem → Prop} (h : ((x1 < 0 → (P (-9223372036854775808) M)) ∧ (0 ≤ x1 → (((M 21 4) ≤ x1 → (P (-9223372036854775808) M)) ∧ (x1 < (M 21 4) → (CI m10_isSaying 3 [(19, ((0 : Nat) : Int)), (0, x2), (0, x3), (0, x4)] M (fun r7 M8 => ((r7 ≠ 0 → (CD m10_meetNow 5 [(19, ((0 : Nat) : Int)), (0, x2), (0, x3), (0, x4)] M8 (fun M14 => (CL m3_work 4 [(13, ((25 : Nat) : Int)), (0, x1), (30, ((40 : Nat) : Int))] M14 (fun r16 M17 => (P r16 M17)))))) ∧ (r7 = 0 → (P (-9223372036854775808) M8)))))))))) : CL m10_place 6 [(19, ((0 : Nat) : Int)), (0, x1), (0, x2), (0, x3), (0, x4)] M P := by
  refine CL_of (by decide +kernel) (Nat.le_of_ble_eq_true rfl) ?_
  show A m10_place 6 0 0 [(19, ((0 : Nat) : Int)), (0, x1), (0, x2), (0, x3), (0, x4)] [] M (Kl P)
  refine A_iload_n (i := 1) (f := 1) rfl (by decide +kernel) rfl ?_
  refine A_if_lt (off := 25) (tgt := 26) (by decide +kernel) (by omega) (fun b1 => ?_) (fun b1 => ?_)
  · have h2 := h.1 b1
    refine A_ldc2 (by decide +kernel) (by unfold in64; omega) kl_10_230 rfl ?_
    exact A_ret ⟨by decide +kernel, rfl⟩ ⟨_, rfl, h2⟩
  · have h3 := h.2 (Int.not_lt.mp b1)
    refine A_iload_n (i := 1) (f := 1) rfl (by decide +kernel) rfl ?_
    refine A_aload_n (i := 0) (f := 0) (by omega) rfl (by decide +kernel) rfl ?_
    refine B_getr (o' := ((21 : Nat) : Int)) (q := (RX10, TX10, 13)) (ci := 9) (j := 2) (by decide +kernel) rfl (by decide) rfl (by omega) fl_10_19 rfl ?_
    refine B_getp (v := (M 21 4)) (q := (RX0, TX0, 9)) (ci := 0) (j := 4) (p := 4) (by decide +kernel) rfl (by decide) rfl (Or.inl rfl) fl_10_227 rfl ?_
    refine A_ic_ge (off := 14) (tgt := 26) (by decide +kernel) (by omega) (fun b4 => ?_) (fun b4 => ?_)
    · have h5 := h3.1 b4
      refine A_ldc2 (by decide +kernel) (by unfold in64; omega) kl_10_230 rfl ?_
      exact A_ret ⟨by decide +kernel, rfl⟩ ⟨_, rfl, h5⟩
    · have h6 := h3.2 (Int.not_le.mp b4)
      refine A_aload_n (i := 0) (f := 0) (by omega) rfl (by decide +kernel) rfl ?_
      refine A_iload_n (i := 2) (f := 2) rfl (by decide +kernel) rfl ?_
      refine A_iload_n (i := 3) (f := 3) rfl (by decide +kernel) rfl ?_
      refine A_iload (i := 4) (by decide +kernel) rfl ?_
      refine A_cVi (q := (RX10, TX10, 13)) (ci := 9) (o := ((0 : Nat) : Int)) (args := [(0, x2), (0, x3), (0, x4)]) (st := []) (by decide +kernel) cv_m10_isSaying rfl rfl in_m10_isSaying se_m10_isSaying lk_10_215 rfl (by omega) (Nat.le_of_ble_eq_true rfl) h6 (fun r7 M8 _ h9 => ?_)
      refine A_if_ne (off := 7) (tgt := 30) (by decide +kernel) (by omega) (fun b10 => ?_) (fun b10 => ?_)
      · have h11 := h9.1 b10
        refine A_aload_n (i := 0) (f := 0) (by omega) rfl (by decide +kernel) rfl ?_
        refine A_iload_n (i := 2) (f := 2) rfl (by decide +kernel) rfl ?_
        refine A_iload_n (i := 3) (f := 3) rfl (by decide +kernel) rfl ?_
        refine A_iload (i := 4) (by decide +kernel) rfl ?_
        refine A_cVd (q := (RX10, TX10, 13)) (ci := 9) (o := ((0 : Nat) : Int)) (args := [(0, x2), (0, x3), (0, x4)]) (st := []) (by decide +kernel) cv_m10_meetNow rfl rfl in_m10_meetNow se_m10_meetNow lk_10_219 rfl (by omega) (Nat.le_of_ble_eq_true rfl) h11 (fun M14 h15 => ?_)
        refine A_aload_n (i := 0) (f := 0) (by omega) rfl (by decide +kernel) rfl ?_
        refine B_getr (o' := ((21 : Nat) : Int)) (q := (RX10, TX10, 13)) (ci := 9) (j := 2) (by decide +kernel) rfl (by decide) rfl (by omega) fl_10_19 rfl ?_
        refine B_getr (o' := ((25 : Nat) : Int)) (q := (RX0, TX0, 9)) (ci := 0) (j := 5) (by decide +kernel) rfl (by decide) rfl (by omega) fl_10_232 rfl ?_
        refine A_iload_n (i := 1) (f := 1) rfl (by decide +kernel) rfl ?_
        refine A_aload_n (i := 0) (f := 0) (by omega) rfl (by decide +kernel) rfl ?_
        refine B_getr (o' := ((39 : Nat) : Int)) (q := (RX10, TX10, 13)) (ci := 9) (j := 9) (by decide +kernel) rfl (by decide) rfl (by omega) fl_10_43 rfl ?_
        refine B_getr (o' := ((40 : Nat) : Int)) (q := (RX9, TX9, 3)) (ci := 8) (j := 0) (by decide +kernel) rfl (by decide) rfl (by omega) fl_10_236 rfl ?_
        refine A_cVl (q := (RX3, TX3, 6)) (ci := 3) (o := ((25 : Nat) : Int)) (args := [(0, x1), (30, ((40 : Nat) : Int))]) (st := []) (by decide +kernel) cv_m3_work rfl rfl in_m3_work se_m3_work lk_10_239 rfl (by omega) (Nat.le_of_ble_eq_true rfl) h15 (fun r16 M17 _ h18 => ?_)
        exact A_ret ⟨by decide +kernel, rfl⟩ ⟨_, rfl, h18⟩
      · have h12 := h9.2 (Decidable.not_not.mp b10)
        refine A_ldc2 (by decide +kernel) (by unfold in64; omega) kl_10_230 rfl ?_
        exact A_ret ⟨by decide +kernel, rfl⟩ ⟨_, rfl, h12⟩
theorem q_10_offence {x1 : Int} {x2 : Int} {x3 : Int} {x4 : Int} {M : Mem} {P : Int → Mem → Prop} (h : (CI m10_isSaying 3 [(19, ((0 : Nat) : Int)), (0, x1), (0, x2), (0, x3)] M (fun r1 M2 => ((r1 = 0 → (P (-1) M2)) ∧ (r1 ≠ 0 → (CI m8_isRow 2 [(0, x4), (0, (M2 21 4))] M2 (fun r7 M8 => ((r7 ≠ 0 → (CD m10_meetNow 5 [(19, ((0 : Nat) : Int)), (0, x1), (0, x2), (0, x3)] M8 (fun M14 => (CI m9_rightRow 5 [(18, ((39 : Nat) : Int)), (10, ((21 : Nat) : Int))] M14 (fun r16 M17 => (CI m8_turned 3 [(0, r16), (0, x4), (0, (M17 21 4))] M17 (fun r19 M20 => (P r19 M20)))))))) ∧ (r7 = 0 → (P (-1) M8)))))))))) : CI m10_offence 6 [(19, ((0 : Nat) : Int)), (0, x1), (0, x2), (0, x3), (0, x4)] M P := by
  refine CI_of (by decide +kernel) (Nat.le_of_ble_eq_true rfl) ?_
  show A m10_offence 6 0 0 [(19, ((0 : Nat) : Int)), (0, x1), (0, x2), (0, x3), (0, x4)] [] M (Ki P)
  refine A_aload_n (i := 0) (f := 0) (by omega) rfl (by decide +kernel) rfl ?_
  refine A_iload_n (i := 1) (f := 1) rfl (by decide +kernel) rfl ?_
  refine A_iload_n (i := 2) (f := 2) rfl (by decide +kernel) rfl ?_
  refine A_iload_n (i := 3) (f := 3) rfl (by decide +kernel) rfl ?_
  refine A_cVi (q := (RX10, TX10, 13)) (ci := 9) (o := ((0 : Nat) : Int)) (args := [(0, x1), (0, x2), (0, x3)]) (st := []) (by decide +kernel) cv_m10_isSaying rfl rfl in_m10_isSaying se_m10_isSaying lk_10_215 rfl (by omega) (Nat.le_of_ble_eq_true rfl) h (fun r1 M2 _ h3 => ?_)
  refine A_if_eq (off := 18) (tgt := 25) (by decide +kernel) (by omega) (fun b4 => ?_) (fun b4 => ?_)
  · have h5 := h3.1 b4
    refine A_iconst (a := (-1)) (by decide +kernel) (by unfold in32; omega) ?_
    exact A_ret ⟨by decide +kernel, Or.inl rfl⟩ ⟨_, rfl, h5⟩
  · have h6 := h3.2 b4
    refine A_iload (i := 4) (by decide +kernel) rfl ?_
    refine A_aload_n (i := 0) (f := 0) (by omega) rfl (by decide +kernel) rfl ?_
    refine B_getr (o' := ((21 : Nat) : Int)) (q := (RX10, TX10, 13)) (ci := 9) (j := 2) (by decide +kernel) rfl (by decide) rfl (by omega) fl_10_19 rfl ?_
    refine B_getp (v := (M2 21 4)) (q := (RX0, TX0, 9)) (ci := 0) (j := 4) (p := 4) (by decide +kernel) rfl (by decide) rfl (Or.inl rfl) fl_10_227 rfl ?_
    refine A_cSi (args := [(0, x4), (0, (M2 21 4))]) (st := []) (by decide +kernel) cv_m8_isRow st_m8_isRow lk_10_245 rfl (by omega) (Nat.le_of_ble_eq_true rfl) h6 (fun r7 M8 _ h9 => ?_)
    refine A_if_ne (off := 5) (tgt := 27) (by decide +kernel) (by omega) (fun b10 => ?_) (fun b10 => ?_)
    · have h11 := h9.1 b10
      refine A_aload_n (i := 0) (f := 0) (by omega) rfl (by decide +kernel) rfl ?_
      refine A_iload_n (i := 1) (f := 1) rfl (by decide +kernel) rfl ?_
      refine A_iload_n (i := 2) (f := 2) rfl (by decide +kernel) rfl ?_
      refine A_iload_n (i := 3) (f := 3) rfl (by decide +kernel) rfl ?_
      refine A_cVd (q := (RX10, TX10, 13)) (ci := 9) (o := ((0 : Nat) : Int)) (args := [(0, x1), (0, x2), (0, x3)]) (st := []) (by decide +kernel) cv_m10_meetNow rfl rfl in_m10_meetNow se_m10_meetNow lk_10_219 rfl (by omega) (Nat.le_of_ble_eq_true rfl) h11 (fun M14 h15 => ?_)
      refine A_aload_n (i := 0) (f := 0) (by omega) rfl (by decide +kernel) rfl ?_
      refine B_getr (o' := ((39 : Nat) : Int)) (q := (RX10, TX10, 13)) (ci := 9) (j := 9) (by decide +kernel) rfl (by decide) rfl (by omega) fl_10_43 rfl ?_
      refine A_aload_n (i := 0) (f := 0) (by omega) rfl (by decide +kernel) rfl ?_
      refine B_getr (o' := ((21 : Nat) : Int)) (q := (RX10, TX10, 13)) (ci := 9) (j := 2) (by decide +kernel) rfl (by decide) rfl (by omega) fl_10_19 rfl ?_
      refine A_cVi (q := (RX9, TX9, 3)) (ci := 8) (o := ((39 : Nat) : Int)) (args := [(10, ((21 : Nat) : Int))]) (st := []) (by decide +kernel) cv_m9_rightRow rfl rfl in_m9_rightRow se_m9_rightRow lk_10_223 rfl (by omega) (Nat.le_of_ble_eq_true rfl) h15 (fun r16 M17 _ h18 => ?_)
      refine A_iload (i := 4) (by decide +kernel) rfl ?_
      refine A_aload_n (i := 0) (f := 0) (by omega) rfl (by decide +kernel) rfl ?_
      refine B_getr (o' := ((21 : Nat) : Int)) (q := (RX10, TX10, 13)) (ci := 9) (j := 2) (by decide +kernel) rfl (by decide) rfl (by omega) fl_10_19 rfl ?_
      refine B_getp (v := (M17 21 4)) (q := (RX0, TX0, 9)) (ci := 0) (j := 4) (p := 4) (by decide +kernel) rfl (by decide) rfl (Or.inl rfl) fl_10_227 rfl ?_
      refine A_cSi (args := [(0, r16), (0, x4), (0, (M17 21 4))]) (st := []) (by decide +kernel) cv_m8_turned st_m8_turned lk_10_250 rfl (by omega) (Nat.le_of_ble_eq_true rfl) h18 (fun r19 M20 _ h21 => ?_)
      exact A_ret ⟨by decide +kernel, Or.inl rfl⟩ ⟨_, rfl, h21⟩
    · have h12 := h9.2 (Decidable.not_not.mp b10)
      refine A_iconst (a := (-1)) (by decide +kernel) (by unfold in32; omega) ?_
      exact A_ret ⟨by decide +kernel, Or.inl rfl⟩ ⟨_, rfl, h12⟩
theorem q_10_amends {x1 : Int} {x2 : Int} {x3 : Int} {x4 : Int} {M : Mem} {P : Int → Mem → Prop} (h : (CI m10_isSaying 3 [(19, ((0 : Nat) : Int)), (0, x1), (0, x2), (0, x3)] M (fun r1 M2 => ((r1 = 0 → (P (-1) M2)) ∧ (r1 ≠ 0 → (CI m8_isRow 2 [(0, x4), (0, (M2 21 4))] M2 (fun r7 M8 => ((r7 ≠ 0 → (CD m10_meetNow 5 [(19, ((0 : Nat) : Int)), (0, x1), (0, x2), (0, x3)] M8 (fun M14 => (CI m9_rightRow 5 [(18, ((39 : Nat) : Int)), (10, ((21 : Nat) : Int))] M14 (fun r16 M17 => (CI m8_moved 3 [(0, r16), (0, x4), (0, (M17 21 4))] M17 (fun r19 M20 => (P r19 M20)))))))) ∧ (r7 = 0 → (P (-1) M8)))))))))) : CI m10_amends 6 [(19, ((0 : Nat) : Int)), (0, x1), (0, x2), (0, x3), (0, x4)] M P := by
  refine CI_of (by decide +kernel) (Nat.le_of_ble_eq_true rfl) ?_
  show A m10_amends 6 0 0 [(19, ((0 : Nat) : Int)), (0, x1), (0, x2), (0, x3), (0, x4)] [] M (Ki P)
  refine A_aload_n (i := 0) (f := 0) (by omega) rfl (by decide +kernel) rfl ?_
  refine A_iload_n (i := 1) (f := 1) rfl (by decide +kernel) rfl ?_
  refine A_iload_n (i := 2) (f := 2) rfl (by decide +kernel) rfl ?_
  refine A_iload_n (i := 3) (f := 3) rfl (by decide +kernel) rfl ?_
  refine A_cVi (q := (RX10, TX10, 13)) (ci := 9) (o := ((0 : Nat) : Int)) (args := [(0, x1), (0, x2), (0, x3)]) (st := []) (by decide +kernel) cv_m10_isSaying rfl rfl in_m10_isSaying se_m10_isSaying lk_10_215 rfl (by omega) (Nat.le_of_ble_eq_true rfl) h (fun r1 M2 _ h3 => ?_)
  refine A_if_eq (off := 18) (tgt := 25) (by decide +kernel) (by omega) (fun b4 => ?_) (fun b4 => ?_)
  · have h5 := h3.1 b4
    refine A_iconst (a := (-1)) (by decide +kernel) (by unfold in32; omega) ?_
    exact A_ret ⟨by decide +kernel, Or.inl rfl⟩ ⟨_, rfl, h5⟩
  · have h6 := h3.2 b4
    refine A_iload (i := 4) (by decide +kernel) rfl ?_
    refine A_aload_n (i := 0) (f := 0) (by omega) rfl (by decide +kernel) rfl ?_
    refine B_getr (o' := ((21 : Nat) : Int)) (q := (RX10, TX10, 13)) (ci := 9) (j := 2) (by decide +kernel) rfl (by decide) rfl (by omega) fl_10_19 rfl ?_
    refine B_getp (v := (M2 21 4)) (q := (RX0, TX0, 9)) (ci := 0) (j := 4) (p := 4) (by decide +kernel) rfl (by decide) rfl (Or.inl rfl) fl_10_227 rfl ?_
    refine A_cSi (args := [(0, x4), (0, (M2 21 4))]) (st := []) (by decide +kernel) cv_m8_isRow st_m8_isRow lk_10_245 rfl (by omega) (Nat.le_of_ble_eq_true rfl) h6 (fun r7 M8 _ h9 => ?_)
    refine A_if_ne (off := 5) (tgt := 27) (by decide +kernel) (by omega) (fun b10 => ?_) (fun b10 => ?_)
    · have h11 := h9.1 b10
      refine A_aload_n (i := 0) (f := 0) (by omega) rfl (by decide +kernel) rfl ?_
      refine A_iload_n (i := 1) (f := 1) rfl (by decide +kernel) rfl ?_
      refine A_iload_n (i := 2) (f := 2) rfl (by decide +kernel) rfl ?_
      refine A_iload_n (i := 3) (f := 3) rfl (by decide +kernel) rfl ?_
      refine A_cVd (q := (RX10, TX10, 13)) (ci := 9) (o := ((0 : Nat) : Int)) (args := [(0, x1), (0, x2), (0, x3)]) (st := []) (by decide +kernel) cv_m10_meetNow rfl rfl in_m10_meetNow se_m10_meetNow lk_10_219 rfl (by omega) (Nat.le_of_ble_eq_true rfl) h11 (fun M14 h15 => ?_)
      refine A_aload_n (i := 0) (f := 0) (by omega) rfl (by decide +kernel) rfl ?_
      refine B_getr (o' := ((39 : Nat) : Int)) (q := (RX10, TX10, 13)) (ci := 9) (j := 9) (by decide +kernel) rfl (by decide) rfl (by omega) fl_10_43 rfl ?_
      refine A_aload_n (i := 0) (f := 0) (by omega) rfl (by decide +kernel) rfl ?_
      refine B_getr (o' := ((21 : Nat) : Int)) (q := (RX10, TX10, 13)) (ci := 9) (j := 2) (by decide +kernel) rfl (by decide) rfl (by omega) fl_10_19 rfl ?_
      refine A_cVi (q := (RX9, TX9, 3)) (ci := 8) (o := ((39 : Nat) : Int)) (args := [(10, ((21 : Nat) : Int))]) (st := []) (by decide +kernel) cv_m9_rightRow rfl rfl in_m9_rightRow se_m9_rightRow lk_10_223 rfl (by omega) (Nat.le_of_ble_eq_true rfl) h15 (fun r16 M17 _ h18 => ?_)
      refine A_iload (i := 4) (by decide +kernel) rfl ?_
      refine A_aload_n (i := 0) (f := 0) (by omega) rfl (by decide +kernel) rfl ?_
      refine B_getr (o' := ((21 : Nat) : Int)) (q := (RX10, TX10, 13)) (ci := 9) (j := 2) (by decide +kernel) rfl (by decide) rfl (by omega) fl_10_19 rfl ?_
      refine B_getp (v := (M17 21 4)) (q := (RX0, TX0, 9)) (ci := 0) (j := 4) (p := 4) (by decide +kernel) rfl (by decide) rfl (Or.inl rfl) fl_10_227 rfl ?_
      refine A_cSi (args := [(0, r16), (0, x4), (0, (M17 21 4))]) (st := []) (by decide +kernel) cv_m8_moved st_m8_moved lk_10_253 rfl (by omega) (Nat.le_of_ble_eq_true rfl) h18 (fun r19 M20 _ h21 => ?_)
      exact A_ret ⟨by decide +kernel, Or.inl rfl⟩ ⟨_, rfl, h21⟩
    · have h12 := h9.2 (Decidable.not_not.mp b10)
      refine A_iconst (a := (-1)) (by decide +kernel) (by unfold in32; omega) ?_
      exact A_ret ⟨by decide +kernel, Or.inl rfl⟩ ⟨_, rfl, h12⟩
theorem q_10_hall {x1 : Int} {x2 : Int} {x3 : Int} {x4 : Int} {M : Mem} {P : Int → Mem → Prop} (h : (CI m10_isHall 3 [(19, ((0 : Nat) : Int)), (0, x1), (0, x2), (0, x3)] M (fun r1 M2 => ((r1 = 0 → (P (-1) M2)) ∧ (r1 ≠ 0 → ((x4 < 0 → (P (-1) M2)) ∧ (0 ≤ x4 → ((x4 ≤ 3 → (CD m5_build 3 [(15, ((34 : Nat) : Int)), (12, ((30 : Nat) : Int)), (0, (M2 0 5)), (0, (M2 21 2))] M2 (fun M14 => (CD m9_hearHall 6 [(18, ((39 : Nat) : Int)), (15, ((34 : Nat) : Int)), (10, ((21 : Nat) : Int)), (0, (M14 0 5)), (0, x1), (0, x2), (0, x3)] M14 (fun M17 => ((2 ≤ x4 → (CI m9_clash 2 [(18, ((39 : Nat) : Int)), (0, x2)] M17 (fun r22 M23 => ((r22 ≠ (-1) → ((x4 ≠ 2 → (P (ishr r22 3) M23)) ∧ (x4 = 2 → (P (iand r22 7) M23)))) ∧ (r22 = (-1) → (P (-1) M23)))))) ∧ (x4 < 2 → (CI m9_leastOffence 5 [(18, ((39 : Nat) : Int)), (0, x2), (0, (M17 21 4))] M17 (fun r31 M32 => ((x4 ≠ 1 → (CI m9_hallOffence 4 [(18, ((39 : Nat) : Int)), (0, x2), (0, r31), (0, (M32 21 4))] M32 (fun r37 M38 => (P r37 M38)))) ∧ (x4 = 1 → (P r31 M32)))))))))))) ∧ (3 < x4 → (P (-1) M2)))))))))) : CI m10_hall 7 [(19, ((0 : Nat) : Int)), (0, x1), (0, x2), (0, x3), (0, x4)] M P := by
  refine CI_of (by decide +kernel) (Nat.le_of_ble_eq_true rfl) ?_
  show A m10_hall 7 0 0 [(19, ((0 : Nat) : Int)), (0, x1), (0, x2), (0, x3), (0, x4), (2, 0)] [] M (Ki P)
  refine A_aload_n (i := 0) (f := 0) (by omega) rfl (by decide +kernel) rfl ?_
  refine A_iload_n (i := 1) (f := 1) rfl (by decide +kernel) rfl ?_
  refine A_iload_n (i := 2) (f := 2) rfl (by decide +kernel) rfl ?_
  refine A_iload_n (i := 3) (f := 3) rfl (by decide +kernel) rfl ?_
  refine A_cVi (q := (RX10, TX10, 13)) (ci := 9) (o := ((0 : Nat) : Int)) (args := [(0, x1), (0, x2), (0, x3)]) (st := []) (by decide +kernel) cv_m10_isHall rfl rfl in_m10_isHall se_m10_isHall lk_10_256 rfl (by omega) (Nat.le_of_ble_eq_true rfl) h (fun r1 M2 _ h3 => ?_)
  refine A_if_eq (off := 14) (tgt := 21) (by decide +kernel) (by omega) (fun b4 => ?_) (fun b4 => ?_)
  · have h5 := h3.1 b4
    refine A_iconst (a := (-1)) (by decide +kernel) (by unfold in32; omega) ?_
    exact A_ret ⟨by decide +kernel, Or.inl rfl⟩ ⟨_, rfl, h5⟩
  · have h6 := h3.2 b4
    refine A_iload (i := 4) (by decide +kernel) rfl ?_
    refine A_if_lt (off := 9) (tgt := 21) (by decide +kernel) (by omega) (fun b7 => ?_) (fun b7 => ?_)
    · have h8 := h6.1 b7
      refine A_iconst (a := (-1)) (by decide +kernel) (by unfold in32; omega) ?_
      exact A_ret ⟨by decide +kernel, Or.inl rfl⟩ ⟨_, rfl, h8⟩
    · have h9 := h6.2 (Int.not_lt.mp b7)
      refine A_iload (i := 4) (by decide +kernel) rfl ?_
      refine A_iconst (a := 3) (by decide +kernel) (by unfold in32; omega) ?_
      refine A_ic_le (off := 5) (tgt := 23) (by decide +kernel) (by omega) (fun b10 => ?_) (fun b10 => ?_)
      · have h11 := h9.1 b10
        refine A_aload_n (i := 0) (f := 0) (by omega) rfl (by decide +kernel) rfl ?_
        refine B_getr (o' := ((34 : Nat) : Int)) (q := (RX10, TX10, 13)) (ci := 9) (j := 8) (by decide +kernel) rfl (by decide) rfl (by omega) fl_10_36 rfl ?_
        refine A_aload_n (i := 0) (f := 0) (by omega) rfl (by decide +kernel) rfl ?_
        refine B_getr (o' := ((30 : Nat) : Int)) (q := (RX10, TX10, 13)) (ci := 9) (j := 3) (by decide +kernel) rfl (by decide) rfl (by omega) fl_10_26 rfl ?_
        refine A_aload_n (i := 0) (f := 0) (by omega) rfl (by decide +kernel) rfl ?_
        refine B_getp (v := (M2 0 5)) (q := (RX10, TX10, 13)) (ci := 9) (j := 4) (p := 5) (by decide +kernel) rfl (by decide) rfl (Or.inl rfl) fl_10_105 rfl ?_
        refine A_aload_n (i := 0) (f := 0) (by omega) rfl (by decide +kernel) rfl ?_
        refine B_getr (o' := ((21 : Nat) : Int)) (q := (RX10, TX10, 13)) (ci := 9) (j := 2) (by decide +kernel) rfl (by decide) rfl (by omega) fl_10_19 rfl ?_
        refine B_getp (v := (M2 21 2)) (q := (RX0, TX0, 9)) (ci := 0) (j := 2) (p := 2) (by decide +kernel) rfl (by decide) rfl (Or.inl rfl) fl_10_141 rfl ?_
        refine A_cVd (q := (RX5, TX5, 5)) (ci := 5) (o := ((34 : Nat) : Int)) (args := [(12, ((30 : Nat) : Int)), (0, (M2 0 5)), (0, (M2 21 2))]) (st := []) (by decide +kernel) cv_m5_build rfl rfl in_m5_build se_m5_build lk_10_144 rfl (by omega) (Nat.le_of_ble_eq_true rfl) h11 (fun M14 h15 => ?_)
        refine A_aload_n (i := 0) (f := 0) (by omega) rfl (by decide +kernel) rfl ?_
        refine B_getr (o' := ((39 : Nat) : Int)) (q := (RX10, TX10, 13)) (ci := 9) (j := 9) (by decide +kernel) rfl (by decide) rfl (by omega) fl_10_43 rfl ?_
        refine A_aload_n (i := 0) (f := 0) (by omega) rfl (by decide +kernel) rfl ?_
        refine B_getr (o' := ((34 : Nat) : Int)) (q := (RX10, TX10, 13)) (ci := 9) (j := 8) (by decide +kernel) rfl (by decide) rfl (by omega) fl_10_36 rfl ?_
        refine A_aload_n (i := 0) (f := 0) (by omega) rfl (by decide +kernel) rfl ?_
        refine B_getr (o' := ((21 : Nat) : Int)) (q := (RX10, TX10, 13)) (ci := 9) (j := 2) (by decide +kernel) rfl (by decide) rfl (by omega) fl_10_19 rfl ?_
        refine A_aload_n (i := 0) (f := 0) (by omega) rfl (by decide +kernel) rfl ?_
        refine B_getp (v := (M14 0 5)) (q := (RX10, TX10, 13)) (ci := 9) (j := 4) (p := 5) (by decide +kernel) rfl (by decide) rfl (Or.inl rfl) fl_10_105 rfl ?_
        refine A_iload_n (i := 1) (f := 1) rfl (by decide +kernel) rfl ?_
        refine A_iload_n (i := 2) (f := 2) rfl (by decide +kernel) rfl ?_
        refine A_iload_n (i := 3) (f := 3) rfl (by decide +kernel) rfl ?_
        refine A_cVd (q := (RX9, TX9, 3)) (ci := 8) (o := ((39 : Nat) : Int)) (args := [(15, ((34 : Nat) : Int)), (10, ((21 : Nat) : Int)), (0, (M14 0 5)), (0, x1), (0, x2), (0, x3)]) (st := []) (by decide +kernel) cv_m9_hearHall rfl rfl in_m9_hearHall se_m9_hearHall lk_10_259 rfl (by omega) (Nat.le_of_ble_eq_true rfl) h15 (fun M17 h18 => ?_)
        refine A_iload (i := 4) (by decide +kernel) rfl ?_
        refine A_iconst (a := 2) (by decide +kernel) (by unfold in32; omega) ?_
        refine A_ic_ge (off := 49) (tgt := 119) (by decide +kernel) (by omega) (fun b19 => ?_) (fun b19 => ?_)
        · have h20 := h18.1 b19
          refine A_aload_n (i := 0) (f := 0) (by omega) rfl (by decide +kernel) rfl ?_
          refine B_getr (o' := ((39 : Nat) : Int)) (q := (RX10, TX10, 13)) (ci := 9) (j := 9) (by decide +kernel) rfl (by decide) rfl (by omega) fl_10_43 rfl ?_
          refine A_iload_n (i := 2) (f := 2) rfl (by decide +kernel) rfl ?_
          refine A_cVi (q := (RX9, TX9, 3)) (ci := 8) (o := ((39 : Nat) : Int)) (args := [(0, x2)]) (st := []) (by decide +kernel) cv_m9_clash rfl rfl in_m9_clash se_m9_clash lk_10_269 rfl (by omega) (Nat.le_of_ble_eq_true rfl) h20 (fun r22 M23 _ h24 => ?_)
          refine A_istore (i := 5) (by decide +kernel) (by decide) (fun w h0 hw => by simp at hw; first | (rw [← hw]; decide) | (rw [← hw]; simp)) ?_
          refine A_iload (i := 5) (by decide +kernel) rfl ?_
          refine A_iconst (a := (-1)) (by decide +kernel) (by unfold in32; omega) ?_
          refine A_ic_ne (off := 5) (tgt := 137) (by decide +kernel) (by omega) (fun b25 => ?_) (fun b25 => ?_)
          · have h26 := h24.1 b25
            refine A_iload (i := 4) (by decide +kernel) rfl ?_
            refine A_iconst (a := 2) (by decide +kernel) (by unfold in32; omega) ?_
            refine A_ic_ne (off := 11) (tgt := 151) (by decide +kernel) (by omega) (fun b28 => ?_) (fun b28 => ?_)
            · have h29 := h26.1 b28
              refine A_iload (i := 5) (by decide +kernel) rfl ?_
              refine A_iconst (a := 3) (by decide +kernel) (by unfold in32; omega) ?_
              refine A_ishr (by decide +kernel) ?_
              exact A_ret ⟨by decide +kernel, Or.inl rfl⟩ ⟨_, rfl, h29⟩
            · have h30 := h26.2 (Decidable.not_not.mp b28)
              refine A_iload (i := 5) (by decide +kernel) rfl ?_
              refine A_bipush (a := 7) (by decide +kernel) (by unfold in32; omega) (by decide +kernel) ?_
              refine A_iand (by decide +kernel) ?_
              refine A_goto (off := 7) (tgt := 155) (by decide +kernel) (by omega) ?_
              exact A_ret ⟨by decide +kernel, Or.inl rfl⟩ ⟨_, rfl, h30⟩
          · have h27 := h24.2 (Decidable.not_not.mp b25)
            refine A_iconst (a := (-1)) (by decide +kernel) (by unfold in32; omega) ?_
            exact A_ret ⟨by decide +kernel, Or.inl rfl⟩ ⟨_, rfl, h27⟩
        · have h21 := h18.2 (Int.not_le.mp b19)
          refine A_aload_n (i := 0) (f := 0) (by omega) rfl (by decide +kernel) rfl ?_
          refine B_getr (o' := ((39 : Nat) : Int)) (q := (RX10, TX10, 13)) (ci := 9) (j := 9) (by decide +kernel) rfl (by decide) rfl (by omega) fl_10_43 rfl ?_
          refine A_iload_n (i := 2) (f := 2) rfl (by decide +kernel) rfl ?_
          refine A_aload_n (i := 0) (f := 0) (by omega) rfl (by decide +kernel) rfl ?_
          refine B_getr (o' := ((21 : Nat) : Int)) (q := (RX10, TX10, 13)) (ci := 9) (j := 2) (by decide +kernel) rfl (by decide) rfl (by omega) fl_10_19 rfl ?_
          refine B_getp (v := (M17 21 4)) (q := (RX0, TX0, 9)) (ci := 0) (j := 4) (p := 4) (by decide +kernel) rfl (by decide) rfl (Or.inl rfl) fl_10_227 rfl ?_
          refine A_cVi (q := (RX9, TX9, 3)) (ci := 8) (o := ((39 : Nat) : Int)) (args := [(0, x2), (0, (M17 21 4))]) (st := []) (by decide +kernel) cv_m9_leastOffence rfl rfl in_m9_leastOffence se_m9_leastOffence lk_10_263 rfl (by omega) (Nat.le_of_ble_eq_true rfl) h21 (fun r31 M32 _ h33 => ?_)
          refine A_istore (i := 5) (by decide +kernel) (by decide) (fun w h0 hw => by simp at hw; first | (rw [← hw]; decide) | (rw [← hw]; simp)) ?_
          refine A_iload (i := 4) (by decide +kernel) rfl ?_
          refine A_iconst (a := 1) (by decide +kernel) (by unfold in32; omega) ?_
          refine A_ic_ne (off := 8) (tgt := 101) (by decide +kernel) (by omega) (fun b34 => ?_) (fun b34 => ?_)
          · have h35 := h33.1 b34
            refine A_aload_n (i := 0) (f := 0) (by omega) rfl (by decide +kernel) rfl ?_
            refine B_getr (o' := ((39 : Nat) : Int)) (q := (RX10, TX10, 13)) (ci := 9) (j := 9) (by decide +kernel) rfl (by decide) rfl (by omega) fl_10_43 rfl ?_
            refine A_iload_n (i := 2) (f := 2) rfl (by decide +kernel) rfl ?_
            refine A_iload (i := 5) (by decide +kernel) rfl ?_
            refine A_aload_n (i := 0) (f := 0) (by omega) rfl (by decide +kernel) rfl ?_
            refine B_getr (o' := ((21 : Nat) : Int)) (q := (RX10, TX10, 13)) (ci := 9) (j := 2) (by decide +kernel) rfl (by decide) rfl (by omega) fl_10_19 rfl ?_
            refine B_getp (v := (M32 21 4)) (q := (RX0, TX0, 9)) (ci := 0) (j := 4) (p := 4) (by decide +kernel) rfl (by decide) rfl (Or.inl rfl) fl_10_227 rfl ?_
            refine A_cVi (q := (RX9, TX9, 3)) (ci := 8) (o := ((39 : Nat) : Int)) (args := [(0, x2), (0, r31), (0, (M32 21 4))]) (st := []) (by decide +kernel) cv_m9_hallOffence rfl rfl in_m9_hallOffence se_m9_hallOffence lk_10_266 rfl (by omega) (Nat.le_of_ble_eq_true rfl) h35 (fun r37 M38 _ h39 => ?_)
            exact A_ret ⟨by decide +kernel, Or.inl rfl⟩ ⟨_, rfl, h39⟩
          · have h36 := h33.2 (Decidable.not_not.mp b34)
            refine A_iload (i := 5) (by decide +kernel) rfl ?_
            refine A_goto (off := 20) (tgt := 118) (by decide +kernel) (by omega) ?_
            exact A_ret ⟨by decide +kernel, Or.inl rfl⟩ ⟨_, rfl, h36⟩
      · have h12 := h9.2 (Int.not_le.mp b10)
        refine A_iconst (a := (-1)) (by decide +kernel) (by unfold in32; omega) ?_
        exact A_ret ⟨by decide +kernel, Or.inl rfl⟩ ⟨_, rfl, h12⟩
theorem q_10_claims {x1 : Int} {x2 : Int} {x3 : Int} {x4 : Int} {M : Mem} {P : Int → Mem → Prop} (h : (CI m10_isSaying 3 [(19, ((0 : Nat) : Int)), (0, x1), (0, x2), (0, x3)] M (fun r1 M2 => ((r1 = 0 → (P (-1) M2)) ∧ (r1 ≠ 0 → (CI m8_isRow 2 [(0, x4), (0, (M2 21 4))] M2 (fun r7 M8 => ((r7 ≠ 0 → (CD m10_meetNow 5 [(19, ((0 : Nat) : Int)), (0, x1), (0, x2), (0, x3)] M8 (fun M14 => (CI m9_claimed 6 [(18, ((39 : Nat) : Int)), (10, ((21 : Nat) : Int)), (0, x4)] M14 (fun r16 M17 => (P r16 M17)))))) ∧ (r7 = 0 → (P (-1) M8)))))))))) : CI m10_claims 7 [(19, ((0 : Nat) : Int)), (0, x1), (0, x2), (0, x3), (0, x4)] M P := by
  refine CI_of (by decide +kernel) (Nat.le_of_ble_eq_true rfl) ?_
  show A m10_claims 7 0 0 [(19, ((0 : Nat) : Int)), (0, x1), (0, x2), (0, x3), (0, x4)] [] M (Ki P)
  refine A_aload_n (i := 0) (f := 0) (by omega) rfl (by decide +kernel) rfl ?_
  refine A_iload_n (i := 1) (f := 1) rfl (by decide +kernel) rfl ?_
  refine A_iload_n (i := 2) (f := 2) rfl (by decide +kernel) rfl ?_
  refine A_iload_n (i := 3) (f := 3) rfl (by decide +kernel) rfl ?_
  refine A_cVi (q := (RX10, TX10, 13)) (ci := 9) (o := ((0 : Nat) : Int)) (args := [(0, x1), (0, x2), (0, x3)]) (st := []) (by decide +kernel) cv_m10_isSaying rfl rfl in_m10_isSaying se_m10_isSaying lk_10_215 rfl (by omega) (Nat.le_of_ble_eq_true rfl) h (fun r1 M2 _ h3 => ?_)
  refine A_if_eq (off := 18) (tgt := 25) (by decide +kernel) (by omega) (fun b4 => ?_) (fun b4 => ?_)
  · have h5 := h3.1 b4
    refine A_iconst (a := (-1)) (by decide +kernel) (by unfold in32; omega) ?_
    exact A_ret ⟨by decide +kernel, Or.inl rfl⟩ ⟨_, rfl, h5⟩
  · have h6 := h3.2 b4
    refine A_iload (i := 4) (by decide +kernel) rfl ?_
    refine A_aload_n (i := 0) (f := 0) (by omega) rfl (by decide +kernel) rfl ?_
    refine B_getr (o' := ((21 : Nat) : Int)) (q := (RX10, TX10, 13)) (ci := 9) (j := 2) (by decide +kernel) rfl (by decide) rfl (by omega) fl_10_19 rfl ?_
    refine B_getp (v := (M2 21 4)) (q := (RX0, TX0, 9)) (ci := 0) (j := 4) (p := 4) (by decide +kernel) rfl (by decide) rfl (Or.inl rfl) fl_10_227 rfl ?_
    refine A_cSi (args := [(0, x4), (0, (M2 21 4))]) (st := []) (by decide +kernel) cv_m8_isRow st_m8_isRow lk_10_245 rfl (by omega) (Nat.le_of_ble_eq_true rfl) h6 (fun r7 M8 _ h9 => ?_)
    refine A_if_ne (off := 5) (tgt := 27) (by decide +kernel) (by omega) (fun b10 => ?_) (fun b10 => ?_)
    · have h11 := h9.1 b10
      refine A_aload_n (i := 0) (f := 0) (by omega) rfl (by decide +kernel) rfl ?_
      refine A_iload_n (i := 1) (f := 1) rfl (by decide +kernel) rfl ?_
      refine A_iload_n (i := 2) (f := 2) rfl (by decide +kernel) rfl ?_
      refine A_iload_n (i := 3) (f := 3) rfl (by decide +kernel) rfl ?_
      refine A_cVd (q := (RX10, TX10, 13)) (ci := 9) (o := ((0 : Nat) : Int)) (args := [(0, x1), (0, x2), (0, x3)]) (st := []) (by decide +kernel) cv_m10_meetNow rfl rfl in_m10_meetNow se_m10_meetNow lk_10_219 rfl (by omega) (Nat.le_of_ble_eq_true rfl) h11 (fun M14 h15 => ?_)
      refine A_aload_n (i := 0) (f := 0) (by omega) rfl (by decide +kernel) rfl ?_
      refine B_getr (o' := ((39 : Nat) : Int)) (q := (RX10, TX10, 13)) (ci := 9) (j := 9) (by decide +kernel) rfl (by decide) rfl (by omega) fl_10_43 rfl ?_
      refine A_aload_n (i := 0) (f := 0) (by omega) rfl (by decide +kernel) rfl ?_
      refine B_getr (o' := ((21 : Nat) : Int)) (q := (RX10, TX10, 13)) (ci := 9) (j := 2) (by decide +kernel) rfl (by decide) rfl (by omega) fl_10_19 rfl ?_
      refine A_iload (i := 4) (by decide +kernel) rfl ?_
      refine A_cVi (q := (RX9, TX9, 3)) (ci := 8) (o := ((39 : Nat) : Int)) (args := [(10, ((21 : Nat) : Int)), (0, x4)]) (st := []) (by decide +kernel) cv_m9_claimed rfl rfl in_m9_claimed se_m9_claimed lk_10_272 rfl (by omega) (Nat.le_of_ble_eq_true rfl) h15 (fun r16 M17 _ h18 => ?_)
      exact A_ret ⟨by decide +kernel, Or.inl rfl⟩ ⟨_, rfl, h18⟩
    · have h12 := h9.2 (Decidable.not_not.mp b10)
      refine A_iconst (a := (-1)) (by decide +kernel) (by unfold in32; omega) ?_
      exact A_ret ⟨by decide +kernel, Or.inl rfl⟩ ⟨_, rfl, h12⟩
theorem q_10_hear {x1 : Int} {x2 : Int} {x3 : Int} {x4 : Int} {x5 : Int} {M : Mem} {P : Int → Mem → Prop} (h : (CI m10_isSaying 3 [(19, ((0 : Nat) : Int)), (0, x1), (0, x2), (0, x3)] M (fun r1 M2 => ((r1 = 0 → (P (-1) M2)) ∧ (r1 ≠ 0 → (CI m10_isSeason 1 [(0, x4)] M2 (fun r7 M8 => ((r7 ≠ 0 → (CI m8_isRow 2 [(0, x5), (0, (M8 21 4))] M8 (fun r13 M14 => ((r13 = 0 → (P (-1) M14)) ∧ (r13 ≠ 0 → (((M14 43 5) < 24 → (CD m9_meet 2 [(18, ((39 : Nat) : Int)), (10, ((21 : Nat) : Int)), (0, x1), (0, x2), (0, x3), (0, x4)] M14 (fun M23 => (CI m9_claimed 6 [(18, ((39 : Nat) : Int)), (10, ((21 : Nat) : Int)), (0, x5)] M23 (fun r25 M26 => (CI m4_addSaying 3 [(14, ((43 : Nat) : Int)), (0, x1), (0, x2), (0, x3), (0, r25)] M26 (fun r28 M29 => (P r28 M29)))))))) ∧ (24 ≤ (M14 43 5) → (P (-1) M14)))))))) ∧ (r7 = 0 → (P (-1) M8)))))))))) : CI m10_hear 7 [(19, ((0 : Nat) : Int)), (0, x1), (0, x2), (0, x3), (0, x4), (0, x5)] M P := by
  refine CI_of (by decide +kernel) (Nat.le_of_ble_eq_true rfl) ?_
  show A m10_hear 7 0 0 [(19, ((0 : Nat) : Int)), (0, x1), (0, x2), (0, x3), (0, x4), (0, x5)] [] M (Ki P)
  refine A_aload_n (i := 0) (f := 0) (by omega) rfl (by decide +kernel) rfl ?_
  refine A_iload_n (i := 1) (f := 1) rfl (by decide +kernel) rfl ?_
  refine A_iload_n (i := 2) (f := 2) rfl (by decide +kernel) rfl ?_
  refine A_iload_n (i := 3) (f := 3) rfl (by decide +kernel) rfl ?_
  refine A_cVi (q := (RX10, TX10, 13)) (ci := 9) (o := ((0 : Nat) : Int)) (args := [(0, x1), (0, x2), (0, x3)]) (st := []) (by decide +kernel) cv_m10_isSaying rfl rfl in_m10_isSaying se_m10_isSaying lk_10_215 rfl (by omega) (Nat.le_of_ble_eq_true rfl) h (fun r1 M2 _ h3 => ?_)
  refine A_if_eq (off := 11) (tgt := 18) (by decide +kernel) (by omega) (fun b4 => ?_) (fun b4 => ?_)
  · have h5 := h3.1 b4
    refine A_iconst (a := (-1)) (by decide +kernel) (by unfold in32; omega) ?_
    exact A_ret ⟨by decide +kernel, Or.inl rfl⟩ ⟨_, rfl, h5⟩
  · have h6 := h3.2 b4
    refine A_iload (i := 4) (by decide +kernel) rfl ?_
    refine A_cSi (args := [(0, x4)]) (st := []) (by decide +kernel) cv_m10_isSeason st_m10_isSeason lk_10_174 rfl (by omega) (Nat.le_of_ble_eq_true rfl) h6 (fun r7 M8 _ h9 => ?_)
    refine A_if_ne (off := 5) (tgt := 20) (by decide +kernel) (by omega) (fun b10 => ?_) (fun b10 => ?_)
    · have h11 := h9.1 b10
      refine A_iload (i := 5) (by decide +kernel) rfl ?_
      refine A_aload_n (i := 0) (f := 0) (by omega) rfl (by decide +kernel) rfl ?_
      refine B_getr (o' := ((21 : Nat) : Int)) (q := (RX10, TX10, 13)) (ci := 9) (j := 2) (by decide +kernel) rfl (by decide) rfl (by omega) fl_10_19 rfl ?_
      refine B_getp (v := (M8 21 4)) (q := (RX0, TX0, 9)) (ci := 0) (j := 4) (p := 4) (by decide +kernel) rfl (by decide) rfl (Or.inl rfl) fl_10_227 rfl ?_
      refine A_cSi (args := [(0, x5), (0, (M8 21 4))]) (st := []) (by decide +kernel) cv_m8_isRow st_m8_isRow lk_10_245 rfl (by omega) (Nat.le_of_ble_eq_true rfl) h11 (fun r13 M14 _ h15 => ?_)
      refine A_if_eq (off := 15) (tgt := 47) (by decide +kernel) (by omega) (fun b16 => ?_) (fun b16 => ?_)
      · have h17 := h15.1 b16
        refine A_iconst (a := (-1)) (by decide +kernel) (by unfold in32; omega) ?_
        exact A_ret ⟨by decide +kernel, Or.inl rfl⟩ ⟨_, rfl, h17⟩
      · have h18 := h15.2 b16
        refine A_aload_n (i := 0) (f := 0) (by omega) rfl (by decide +kernel) rfl ?_
        refine B_getr (o' := ((43 : Nat) : Int)) (q := (RX10, TX10, 13)) (ci := 9) (j := 10) (by decide +kernel) rfl (by decide) rfl (by omega) fl_10_50 rfl ?_
        refine B_getp (v := (M14 43 5)) (q := (RX4, TX4, 7)) (ci := 4) (j := 5) (p := 5) (by decide +kernel) rfl (by decide) rfl (Or.inl rfl) fl_10_276 rfl ?_
        refine A_bipush (a := 24) (by decide +kernel) (by unfold in32; omega) (by decide +kernel) ?_
        refine A_ic_lt (off := 5) (tgt := 49) (by decide +kernel) (by omega) (fun b19 => ?_) (fun b19 => ?_)
        · have h20 := h18.1 b19
          refine A_aload_n (i := 0) (f := 0) (by omega) rfl (by decide +kernel) rfl ?_
          refine B_getr (o' := ((39 : Nat) : Int)) (q := (RX10, TX10, 13)) (ci := 9) (j := 9) (by decide +kernel) rfl (by decide) rfl (by omega) fl_10_43 rfl ?_
          refine A_aload_n (i := 0) (f := 0) (by omega) rfl (by decide +kernel) rfl ?_
          refine B_getr (o' := ((21 : Nat) : Int)) (q := (RX10, TX10, 13)) (ci := 9) (j := 2) (by decide +kernel) rfl (by decide) rfl (by omega) fl_10_19 rfl ?_
          refine A_iload_n (i := 1) (f := 1) rfl (by decide +kernel) rfl ?_
          refine A_iload_n (i := 2) (f := 2) rfl (by decide +kernel) rfl ?_
          refine A_iload_n (i := 3) (f := 3) rfl (by decide +kernel) rfl ?_
          refine A_iload (i := 4) (by decide +kernel) rfl ?_
          refine A_cVd (q := (RX9, TX9, 3)) (ci := 8) (o := ((39 : Nat) : Int)) (args := [(10, ((21 : Nat) : Int)), (0, x1), (0, x2), (0, x3), (0, x4)]) (st := []) (by decide +kernel) cv_m9_meet rfl rfl in_m9_meet se_m9_meet lk_10_277 rfl (by omega) (Nat.le_of_ble_eq_true rfl) h20 (fun M23 h24 => ?_)
          refine A_aload_n (i := 0) (f := 0) (by omega) rfl (by decide +kernel) rfl ?_
          refine B_getr (o' := ((43 : Nat) : Int)) (q := (RX10, TX10, 13)) (ci := 9) (j := 10) (by decide +kernel) rfl (by decide) rfl (by omega) fl_10_50 rfl ?_
          refine A_iload_n (i := 1) (f := 1) rfl (by decide +kernel) rfl ?_
          refine A_iload_n (i := 2) (f := 2) rfl (by decide +kernel) rfl ?_
          refine A_iload_n (i := 3) (f := 3) rfl (by decide +kernel) rfl ?_
          refine A_aload_n (i := 0) (f := 0) (by omega) rfl (by decide +kernel) rfl ?_
          refine B_getr (o' := ((39 : Nat) : Int)) (q := (RX10, TX10, 13)) (ci := 9) (j := 9) (by decide +kernel) rfl (by decide) rfl (by omega) fl_10_43 rfl ?_
          refine A_aload_n (i := 0) (f := 0) (by omega) rfl (by decide +kernel) rfl ?_
          refine B_getr (o' := ((21 : Nat) : Int)) (q := (RX10, TX10, 13)) (ci := 9) (j := 2) (by decide +kernel) rfl (by decide) rfl (by omega) fl_10_19 rfl ?_
          refine A_iload (i := 5) (by decide +kernel) rfl ?_
          refine A_cVi (q := (RX9, TX9, 3)) (ci := 8) (o := ((39 : Nat) : Int)) (args := [(10, ((21 : Nat) : Int)), (0, x5)]) (st := [(0, x3), (0, x2), (0, x1), (14, ((43 : Nat) : Int))]) (by decide +kernel) cv_m9_claimed rfl rfl in_m9_claimed se_m9_claimed lk_10_272 rfl (by omega) (Nat.le_of_ble_eq_true rfl) h24 (fun r25 M26 _ h27 => ?_)
          refine A_cVi (q := (RX4, TX4, 7)) (ci := 4) (o := ((43 : Nat) : Int)) (args := [(0, x1), (0, x2), (0, x3), (0, r25)]) (st := []) (by decide +kernel) cv_m4_addSaying rfl rfl in_m4_addSaying se_m4_addSaying lk_10_281 rfl (by omega) (Nat.le_of_ble_eq_true rfl) h27 (fun r28 M29 _ h30 => ?_)
          exact A_ret ⟨by decide +kernel, Or.inl rfl⟩ ⟨_, rfl, h30⟩
        · have h21 := h18.2 (Int.not_lt.mp b19)
          refine A_iconst (a := (-1)) (by decide +kernel) (by unfold in32; omega) ?_
          exact A_ret ⟨by decide +kernel, Or.inl rfl⟩ ⟨_, rfl, h21⟩
    · have h12 := h9.2 (Decidable.not_not.mp b10)
      refine A_iconst (a := (-1)) (by decide +kernel) (by unfold in32; omega) ?_
      exact A_ret ⟨by decide +kernel, Or.inl rfl⟩ ⟨_, rfl, h12⟩
theorem q_10_unhear {x1 : Int} {M : Mem} {P : Int → Mem → Prop} (h : ((x1 < 0 → (P (-1) M)) ∧ (0 ≤ x1 → (((M 43 5) ≤ x1 → (P (-1) M)) ∧ (x1 < (M 43 5) → (((M 43 5) < 24 → (CI m4_addStrike 2 [(14, ((43 : Nat) : Int)), (0, x1)] M (fun r10 M11 => (P r10 M11)))) ∧ (24 ≤ (M 43 5) → (P (-1) M)))))))) : CI m10_unhear 3 [(19, ((0 : Nat) : Int)), (0, x1)] M P := by
  refine CI_of (by decide +kernel) (Nat.le_of_ble_eq_true rfl) ?_
  show A m10_unhear 3 0 0 [(19, ((0 : Nat) : Int)), (0, x1)] [] M (Ki P)
  refine A_iload_n (i := 1) (f := 1) rfl (by decide +kernel) rfl ?_
  refine A_if_lt (off := 26) (tgt := 27) (by decide +kernel) (by omega) (fun b1 => ?_) (fun b1 => ?_)
  · have h2 := h.1 b1
    refine A_iconst (a := (-1)) (by decide +kernel) (by unfold in32; omega) ?_
    exact A_ret ⟨by decide +kernel, Or.inl rfl⟩ ⟨_, rfl, h2⟩
  · have h3 := h.2 (Int.not_lt.mp b1)
    refine A_iload_n (i := 1) (f := 1) rfl (by decide +kernel) rfl ?_
    refine A_aload_n (i := 0) (f := 0) (by omega) rfl (by decide +kernel) rfl ?_
    refine B_getr (o' := ((43 : Nat) : Int)) (q := (RX10, TX10, 13)) (ci := 9) (j := 10) (by decide +kernel) rfl (by decide) rfl (by omega) fl_10_50 rfl ?_
    refine B_getp (v := (M 43 5)) (q := (RX4, TX4, 7)) (ci := 4) (j := 5) (p := 5) (by decide +kernel) rfl (by decide) rfl (Or.inl rfl) fl_10_276 rfl ?_
    refine A_ic_ge (off := 15) (tgt := 27) (by decide +kernel) (by omega) (fun b4 => ?_) (fun b4 => ?_)
    · have h5 := h3.1 b4
      refine A_iconst (a := (-1)) (by decide +kernel) (by unfold in32; omega) ?_
      exact A_ret ⟨by decide +kernel, Or.inl rfl⟩ ⟨_, rfl, h5⟩
    · have h6 := h3.2 (Int.not_le.mp b4)
      refine A_aload_n (i := 0) (f := 0) (by omega) rfl (by decide +kernel) rfl ?_
      refine B_getr (o' := ((43 : Nat) : Int)) (q := (RX10, TX10, 13)) (ci := 9) (j := 10) (by decide +kernel) rfl (by decide) rfl (by omega) fl_10_50 rfl ?_
      refine B_getp (v := (M 43 5)) (q := (RX4, TX4, 7)) (ci := 4) (j := 5) (p := 5) (by decide +kernel) rfl (by decide) rfl (Or.inl rfl) fl_10_276 rfl ?_
      refine A_bipush (a := 24) (by decide +kernel) (by unfold in32; omega) (by decide +kernel) ?_
      refine A_ic_lt (off := 5) (tgt := 29) (by decide +kernel) (by omega) (fun b7 => ?_) (fun b7 => ?_)
      · have h8 := h6.1 b7
        refine A_aload_n (i := 0) (f := 0) (by omega) rfl (by decide +kernel) rfl ?_
        refine B_getr (o' := ((43 : Nat) : Int)) (q := (RX10, TX10, 13)) (ci := 9) (j := 10) (by decide +kernel) rfl (by decide) rfl (by omega) fl_10_50 rfl ?_
        refine A_iload_n (i := 1) (f := 1) rfl (by decide +kernel) rfl ?_
        refine A_cVi (q := (RX4, TX4, 7)) (ci := 4) (o := ((43 : Nat) : Int)) (args := [(0, x1)]) (st := []) (by decide +kernel) cv_m4_addStrike rfl rfl in_m4_addStrike se_m4_addStrike lk_10_285 rfl (by omega) (Nat.le_of_ble_eq_true rfl) h8 (fun r10 M11 _ h12 => ?_)
        exact A_ret ⟨by decide +kernel, Or.inl rfl⟩ ⟨_, rfl, h12⟩
      · have h9 := h6.2 (Int.not_lt.mp b7)
        refine A_iconst (a := (-1)) (by decide +kernel) (by unfold in32; omega) ?_
        exact A_ret ⟨by decide +kernel, Or.inl rfl⟩ ⟨_, rfl, h9⟩
theorem q_10_known {x1 : Int} {M : Mem} {P : Int → Mem → Prop} (h : ((x1 < (-1) → (P 0 M)) ∧ ((-1) ≤ x1 → ((x1 ≤ (M 43 5) → (P 1 (mset M 43 6 x1))) ∧ ((M 43 5) < x1 → (P 0 M)))))) : CI m10_known 1 [(19, ((0 : Nat) : Int)), (0, x1)] M P := by
  refine CI_of (by decide +kernel) (Nat.le_of_ble_eq_true rfl) ?_
  show A m10_known 1 0 0 [(19, ((0 : Nat) : Int)), (0, x1)] [] M (Ki P)
  refine A_iload_n (i := 1) (f := 1) rfl (by decide +kernel) rfl ?_
  refine A_iconst (a := (-1)) (by decide +kernel) (by unfold in32; omega) ?_
  refine A_ic_lt (off := 14) (tgt := 16) (by decide +kernel) (by omega) (fun b1 => ?_) (fun b1 => ?_)
  · have h2 := h.1 b1
    refine A_iconst (a := 0) (by decide +kernel) (by unfold in32; omega) ?_
    exact A_ret ⟨by decide +kernel, Or.inr ⟨rfl, by decide⟩⟩ ⟨_, rfl, h2⟩
  · have h3 := h.2 (Int.not_lt.mp b1)
    refine A_iload_n (i := 1) (f := 1) rfl (by decide +kernel) rfl ?_
    refine A_aload_n (i := 0) (f := 0) (by omega) rfl (by decide +kernel) rfl ?_
    refine B_getr (o' := ((43 : Nat) : Int)) (q := (RX10, TX10, 13)) (ci := 9) (j := 10) (by decide +kernel) rfl (by decide) rfl (by omega) fl_10_50 rfl ?_
    refine B_getp (v := (M 43 5)) (q := (RX4, TX4, 7)) (ci := 4) (j := 5) (p := 5) (by decide +kernel) rfl (by decide) rfl (Or.inl rfl) fl_10_276 rfl ?_
    refine A_ic_le (off := 5) (tgt := 18) (by decide +kernel) (by omega) (fun b4 => ?_) (fun b4 => ?_)
    · have h5 := h3.1 b4
      refine A_aload_n (i := 0) (f := 0) (by omega) rfl (by decide +kernel) rfl ?_
      refine B_getr (o' := ((43 : Nat) : Int)) (q := (RX10, TX10, 13)) (ci := 9) (j := 10) (by decide +kernel) rfl (by decide) rfl (by omega) fl_10_50 rfl ?_
      refine A_iload_n (i := 1) (f := 1) rfl (by decide +kernel) rfl ?_
      refine B_putp (M' := (mset M 43 6 x1)) (q := (RX4, TX4, 7)) (ci := 4) (j := 6) (p := 6) (by decide +kernel) rfl (by decide) rfl (Or.inl ⟨rfl, rfl⟩) rfl fl_10_288 rfl ?_
      refine A_iconst (a := 1) (by decide +kernel) (by unfold in32; omega) ?_
      exact A_ret ⟨by decide +kernel, Or.inr ⟨rfl, by decide⟩⟩ ⟨_, rfl, h5⟩
    · have h6 := h3.2 (Int.not_le.mp b4)
      refine A_iconst (a := 0) (by decide +kernel) (by unfold in32; omega) ?_
      exact A_ret ⟨by decide +kernel, Or.inr ⟨rfl, by decide⟩⟩ ⟨_, rfl, h6⟩
theorem q_10_possible  {M : Mem} {P : Int → Mem → Prop} (h : (CD m6_settle 5 [(16, ((49 : Nat) : Int)), (0, (M 21 2)), (14, ((43 : Nat) : Int))] M (fun M2 => A m10_possible 6 0 22 [(19, ((0 : Nat) : Int)), (0, 0), (0, 0)] [] M2 (Ki P)))) : CI m10_possible 6 [(19, ((0 : Nat) : Int))] M P := by
  refine CI_of (by decide +kernel) (Nat.le_of_ble_eq_true rfl) ?_
  show A m10_possible 6 0 0 [(19, ((0 : Nat) : Int)), (2, 0), (2, 0)] [] M (Ki P)
  refine A_aload_n (i := 0) (f := 0) (by omega) rfl (by decide +kernel) rfl ?_
  refine B_getr (o' := ((49 : Nat) : Int)) (q := (RX10, TX10, 13)) (ci := 9) (j := 11) (by decide +kernel) rfl (by decide) rfl (by omega) fl_10_57 rfl ?_
  refine A_aload_n (i := 0) (f := 0) (by omega) rfl (by decide +kernel) rfl ?_
  refine B_getr (o' := ((21 : Nat) : Int)) (q := (RX10, TX10, 13)) (ci := 9) (j := 2) (by decide +kernel) rfl (by decide) rfl (by omega) fl_10_19 rfl ?_
  refine B_getp (v := (M 21 2)) (q := (RX0, TX0, 9)) (ci := 0) (j := 2) (p := 2) (by decide +kernel) rfl (by decide) rfl (Or.inl rfl) fl_10_141 rfl ?_
  refine A_aload_n (i := 0) (f := 0) (by omega) rfl (by decide +kernel) rfl ?_
  refine B_getr (o' := ((43 : Nat) : Int)) (q := (RX10, TX10, 13)) (ci := 9) (j := 10) (by decide +kernel) rfl (by decide) rfl (by omega) fl_10_50 rfl ?_
  refine A_cVd (q := (RX6, TX6, 6)) (ci := 6) (o := ((49 : Nat) : Int)) (args := [(0, (M 21 2)), (14, ((43 : Nat) : Int))]) (st := []) (by decide +kernel) cv_m6_settle rfl rfl in_m6_settle se_m6_settle lk_10_291 rfl (by omega) (Nat.le_of_ble_eq_true rfl) h (fun M2 h3 => ?_)
  refine A_iconst (a := 0) (by decide +kernel) (by unfold in32; omega) ?_
  refine A_istore_n (i := 1) (f := 1) rfl (by decide +kernel) (by decide) (fun w h0 hw => by simp at hw; first | (rw [← hw]; decide) | (rw [← hw]; simp)) ?_
  refine A_iconst (a := 0) (by decide +kernel) (by unfold in32; omega) ?_
  refine A_istore_n (i := 2) (f := 2) rfl (by decide +kernel) (by decide) (fun w h0 hw => by simp at hw; first | (rw [← hw]; decide) | (rw [← hw]; simp)) ?_
  exact A_weak (lsub.keep (lsub.keep (lsub.keep lsub.nil))) h3
theorem r_10_possible_22 {x1 : Int} {x2 : Int} {M : Mem} {P : Int → Mem → Prop} (h : (((M 49 0) ≤ x2 → (P x1 M)) ∧ (x2 < (M 49 0) → (CI m6_firstWrong 2 [(16, ((49 : Nat) : Int)), (0, x2)] M (fun r4 M5 => ((r4 ≠ (-1) → A m10_possible 6 0 22 [(19, ((0 : Nat) : Int)), (0, x1), (0, (w32 (x2 + 1)))] [] M5 (Ki P)) ∧ (r4 = (-1) → A m10_possible 6 0 22 [(19, ((0 : Nat) : Int)), (0, (w32 (x1 + 1))), (0, (w32 (x2 + 1)))] [] M5 (Ki P)))))))) : A m10_possible 6 0 22 [(19, ((0 : Nat) : Int)), (0, x1), (0, x2)] [] M (Ki P) := by
  refine A_iload_n (i := 2) (f := 2) rfl (by decide +kernel) rfl ?_
  refine A_aload_n (i := 0) (f := 0) (by omega) rfl (by decide +kernel) rfl ?_
  refine B_getr (o' := ((49 : Nat) : Int)) (q := (RX10, TX10, 13)) (ci := 9) (j := 11) (by decide +kernel) rfl (by decide) rfl (by omega) fl_10_57 rfl ?_
  refine B_getp (v := (M 49 0)) (q := (RX6, TX6, 6)) (ci := 6) (j := 0) (p := 0) (by decide +kernel) rfl (by decide) rfl (Or.inl rfl) fl_10_295 rfl ?_
  refine A_ic_ge (off := 24) (tgt := 54) (by decide +kernel) (by omega) (fun b1 => ?_) (fun b1 => ?_)
  · have h2 := h.1 b1
    refine A_iload_n (i := 1) (f := 1) rfl (by decide +kernel) rfl ?_
    exact A_ret ⟨by decide +kernel, Or.inl rfl⟩ ⟨_, rfl, h2⟩
  · have h3 := h.2 (Int.not_le.mp b1)
    refine A_aload_n (i := 0) (f := 0) (by omega) rfl (by decide +kernel) rfl ?_
    refine B_getr (o' := ((49 : Nat) : Int)) (q := (RX10, TX10, 13)) (ci := 9) (j := 11) (by decide +kernel) rfl (by decide) rfl (by omega) fl_10_57 rfl ?_
    refine A_iload_n (i := 2) (f := 2) rfl (by decide +kernel) rfl ?_
    refine A_cVi (q := (RX6, TX6, 6)) (ci := 6) (o := ((49 : Nat) : Int)) (args := [(0, x2)]) (st := []) (by decide +kernel) cv_m6_firstWrong rfl rfl in_m6_firstWrong se_m6_firstWrong lk_10_296 rfl (by omega) (Nat.le_of_ble_eq_true rfl) h3 (fun r4 M5 _ h6 => ?_)
    refine A_iconst (a := (-1)) (by decide +kernel) (by unfold in32; omega) ?_
    refine A_ic_ne (off := 6) (tgt := 48) (by decide +kernel) (by omega) (fun b7 => ?_) (fun b7 => ?_)
    · have h8 := h6.1 b7
      refine A_iinc (i := 2) (n := 1) (by decide +kernel) (by decide) rfl (fun w h0 hw => by simp at hw; first | (rw [← hw]; decide) | (rw [← hw]; simp)) ?_
      refine A_goto (off := (-29)) (tgt := 22) (by decide +kernel) (by omega) ?_
      exact A_weak (lsub.keep (lsub.keep (lsub.keep lsub.nil))) h8
    · have h9 := h6.2 (Decidable.not_not.mp b7)
      refine A_iinc (i := 1) (n := 1) (by decide +kernel) (by decide) rfl (fun w h0 hw => by simp at hw; first | (rw [← hw]; decide) | (rw [← hw]; simp)) ?_
      refine A_iinc (i := 2) (n := 1) (by decide +kernel) (by decide) rfl (fun w h0 hw => by simp at hw; first | (rw [← hw]; decide) | (rw [← hw]; simp)) ?_
      refine A_goto (off := (-29)) (tgt := 22) (by decide +kernel) (by omega) ?_
      exact A_weak (lsub.keep (lsub.keep (lsub.keep lsub.nil))) h9
theorem q_10_sure {x1 : Int} {x2 : Int} {M : Mem} {P : Int → Mem → Prop} (h : (CI m10_areTwo 2 [(19, ((0 : Nat) : Int)), (0, x1), (0, x2)] M (fun r1 M2 => ((r1 ≠ 0 → (CD m6_settle 5 [(16, ((49 : Nat) : Int)), (0, (M2 21 2)), (14, ((43 : Nat) : Int))] M2 (fun M8 => A m10_sure 6 0 34 [(19, ((0 : Nat) : Int)), (0, x1), (0, x2), (0, 0), (0, 0)] [] M8 (Ki P)))) ∧ (r1 = 0 → (P (-1) M2)))))) : CI m10_sure 6 [(19, ((0 : Nat) : Int)), (0, x1), (0, x2)] M P := by
  refine CI_of (by decide +kernel) (Nat.le_of_ble_eq_true rfl) ?_
  show A m10_sure 6 0 0 [(19, ((0 : Nat) : Int)), (0, x1), (0, x2), (2, 0), (2, 0)] [] M (Ki P)
  refine A_aload_n (i := 0) (f := 0) (by omega) rfl (by decide +kernel) rfl ?_
  refine A_iload_n (i := 1) (f := 1) rfl (by decide +kernel) rfl ?_
  refine A_iload_n (i := 2) (f := 2) rfl (by decide +kernel) rfl ?_
  refine A_cVi (q := (RX10, TX10, 13)) (ci := 9) (o := ((0 : Nat) : Int)) (args := [(0, x1), (0, x2)]) (st := []) (by decide +kernel) cv_m10_areTwo rfl rfl in_m10_areTwo se_m10_areTwo lk_10_170 rfl (by omega) (Nat.le_of_ble_eq_true rfl) h (fun r1 M2 _ h3 => ?_)
  refine A_if_ne (off := 5) (tgt := 11) (by decide +kernel) (by omega) (fun b4 => ?_) (fun b4 => ?_)
  · have h5 := h3.1 b4
    refine A_aload_n (i := 0) (f := 0) (by omega) rfl (by decide +kernel) rfl ?_
    refine B_getr (o' := ((49 : Nat) : Int)) (q := (RX10, TX10, 13)) (ci := 9) (j := 11) (by decide +kernel) rfl (by decide) rfl (by omega) fl_10_57 rfl ?_
    refine A_aload_n (i := 0) (f := 0) (by omega) rfl (by decide +kernel) rfl ?_
    refine B_getr (o' := ((21 : Nat) : Int)) (q := (RX10, TX10, 13)) (ci := 9) (j := 2) (by decide +kernel) rfl (by decide) rfl (by omega) fl_10_19 rfl ?_
    refine B_getp (v := (M2 21 2)) (q := (RX0, TX0, 9)) (ci := 0) (j := 2) (p := 2) (by decide +kernel) rfl (by decide) rfl (Or.inl rfl) fl_10_141 rfl ?_
    refine A_aload_n (i := 0) (f := 0) (by omega) rfl (by decide +kernel) rfl ?_
    refine B_getr (o' := ((43 : Nat) : Int)) (q := (RX10, TX10, 13)) (ci := 9) (j := 10) (by decide +kernel) rfl (by decide) rfl (by omega) fl_10_50 rfl ?_
    refine A_cVd (q := (RX6, TX6, 6)) (ci := 6) (o := ((49 : Nat) : Int)) (args := [(0, (M2 21 2)), (14, ((43 : Nat) : Int))]) (st := []) (by decide +kernel) cv_m6_settle rfl rfl in_m6_settle se_m6_settle lk_10_291 rfl (by omega) (Nat.le_of_ble_eq_true rfl) h5 (fun M8 h9 => ?_)
    refine A_iconst (a := 0) (by decide +kernel) (by unfold in32; omega) ?_
    refine A_istore_n (i := 3) (f := 3) rfl (by decide +kernel) (by decide) (fun w h0 hw => by simp at hw; first | (rw [← hw]; decide) | (rw [← hw]; simp)) ?_
    refine A_iconst (a := 0) (by decide +kernel) (by unfold in32; omega) ?_
    refine A_istore (i := 4) (by decide +kernel) (by decide) (fun w h0 hw => by simp at hw; first | (rw [← hw]; decide) | (rw [← hw]; simp)) ?_
    exact A_weak (lsub.keep (lsub.keep (lsub.keep (lsub.keep (lsub.keep lsub.nil))))) h9
  · have h6 := h3.2 (Decidable.not_not.mp b4)
    refine A_iconst (a := (-1)) (by decide +kernel) (by unfold in32; omega) ?_
    exact A_ret ⟨by decide +kernel, Or.inl rfl⟩ ⟨_, rfl, h6⟩
theorem r_10_sure_34 {x1 : Int} {x2 : Int} {x3 : Int} {x4 : Int} {M : Mem} {P : Int → Mem → Prop} (h : (((M 49 0) ≤ x4 → ((x3 ≠ 0 → (CI mJ_bitCount 1 [(0, x3)] M (fun r7 M8 => ((r7 ≤ 1 → (P (ishr x3 1) M8)) ∧ (1 < r7 → (P 3 M8)))))) ∧ (x3 = 0 → (P (-2) M)))) ∧ (x4 < (M 49 0) → (CI m6_firstWrong 2 [(16, ((49 : Nat) : Int)), (0, x4)] M (fun r13 M14 => ((r13 ≠ (-1) → A m10_sure 6 0 34 [(19, ((0 : Nat) : Int)), (0, x1), (0, x2), (0, x3), (0, (w32 (x4 + 1)))] [] M14 (Ki P)) ∧ (r13 = (-1) → (CI m6_answer 3 [(16, ((49 : Nat) : Int)), (0, x4), (0, x1), (0, x2)] M14 (fun r19 M20 => A m10_sure 6 0 34 [(19, ((0 : Nat) : Int)), (0, x1), (0, x2), (0, (ior x3 (ishl 1 r19))), (0, (w32 (x4 + 1)))] [] M20 (Ki P)))))))))) : A m10_sure 6 0 34 [(19, ((0 : Nat) : Int)), (0, x1), (0, x2), (0, x3), (0, x4)] [] M (Ki P) := by
  refine A_iload (i := 4) (by decide +kernel) rfl ?_
  refine A_aload_n (i := 0) (f := 0) (by omega) rfl (by decide +kernel) rfl ?_
  refine B_getr (o' := ((49 : Nat) : Int)) (q := (RX10, TX10, 13)) (ci := 9) (j := 11) (by decide +kernel) rfl (by decide) rfl (by omega) fl_10_57 rfl ?_
  refine B_getp (v := (M 49 0)) (q := (RX6, TX6, 6)) (ci := 6) (j := 0) (p := 0) (by decide +kernel) rfl (by decide) rfl (Or.inl rfl) fl_10_295 rfl ?_
  refine A_ic_ge (off := 38) (tgt := 81) (by decide +kernel) (by omega) (fun b1 => ?_) (fun b1 => ?_)
  · have h2 := h.1 b1
    refine A_iload_n (i := 3) (f := 3) rfl (by decide +kernel) rfl ?_
    refine A_if_ne (off := 6) (tgt := 88) (by decide +kernel) (by omega) (fun b4 => ?_) (fun b4 => ?_)
    · have h5 := h2.1 b4
      refine A_iload_n (i := 3) (f := 3) rfl (by decide +kernel) rfl ?_
      refine A_cSi (args := [(0, x3)]) (st := []) (by decide +kernel) cv_mJ_bitCount st_mJ_bitCount lk_10_162 rfl (by omega) (Nat.le_of_ble_eq_true rfl) h5 (fun r7 M8 _ h9 => ?_)
      refine A_iconst (a := 1) (by decide +kernel) (by unfold in32; omega) ?_
      refine A_ic_le (off := 7) (tgt := 100) (by decide +kernel) (by omega) (fun b10 => ?_) (fun b10 => ?_)
      · have h11 := h9.1 b10
        refine A_iload_n (i := 3) (f := 3) rfl (by decide +kernel) rfl ?_
        refine A_iconst (a := 1) (by decide +kernel) (by unfold in32; omega) ?_
        refine A_ishr (by decide +kernel) ?_
        exact A_ret ⟨by decide +kernel, Or.inl rfl⟩ ⟨_, rfl, h11⟩
      · have h12 := h9.2 (Int.not_le.mp b10)
        refine A_iconst (a := 3) (by decide +kernel) (by unfold in32; omega) ?_
        refine A_goto (off := 6) (tgt := 103) (by decide +kernel) (by omega) ?_
        exact A_ret ⟨by decide +kernel, Or.inl rfl⟩ ⟨_, rfl, h12⟩
    · have h6 := h2.2 (Decidable.not_not.mp b4)
      refine A_bipush (a := (-2)) (by decide +kernel) (by unfold in32; omega) (by decide +kernel) ?_
      exact A_ret ⟨by decide +kernel, Or.inl rfl⟩ ⟨_, rfl, h6⟩
  · have h3 := h.2 (Int.not_le.mp b1)
    refine A_aload_n (i := 0) (f := 0) (by omega) rfl (by decide +kernel) rfl ?_
    refine B_getr (o' := ((49 : Nat) : Int)) (q := (RX10, TX10, 13)) (ci := 9) (j := 11) (by decide +kernel) rfl (by decide) rfl (by omega) fl_10_57 rfl ?_
    refine A_iload (i := 4) (by decide +kernel) rfl ?_
    refine A_cVi (q := (RX6, TX6, 6)) (ci := 6) (o := ((49 : Nat) : Int)) (args := [(0, x4)]) (st := []) (by decide +kernel) cv_m6_firstWrong rfl rfl in_m6_firstWrong se_m6_firstWrong lk_10_296 rfl (by omega) (Nat.le_of_ble_eq_true rfl) h3 (fun r13 M14 _ h15 => ?_)
    refine A_iconst (a := (-1)) (by decide +kernel) (by unfold in32; omega) ?_
    refine A_ic_ne (off := 19) (tgt := 75) (by decide +kernel) (by omega) (fun b16 => ?_) (fun b16 => ?_)
    · have h17 := h15.1 b16
      refine A_iinc (i := 4) (n := 1) (by decide +kernel) (by decide) rfl (fun w h0 hw => by simp at hw; first | (rw [← hw]; decide) | (rw [← hw]; simp)) ?_
      refine A_goto (off := (-44)) (tgt := 34) (by decide +kernel) (by omega) ?_
      exact A_weak (lsub.keep (lsub.keep (lsub.keep (lsub.keep (lsub.keep lsub.nil))))) h17
    · have h18 := h15.2 (Decidable.not_not.mp b16)
      refine A_iload_n (i := 3) (f := 3) rfl (by decide +kernel) rfl ?_
      refine A_iconst (a := 1) (by decide +kernel) (by unfold in32; omega) ?_
      refine A_aload_n (i := 0) (f := 0) (by omega) rfl (by decide +kernel) rfl ?_
      refine B_getr (o' := ((49 : Nat) : Int)) (q := (RX10, TX10, 13)) (ci := 9) (j := 11) (by decide +kernel) rfl (by decide) rfl (by omega) fl_10_57 rfl ?_
      refine A_iload (i := 4) (by decide +kernel) rfl ?_
      refine A_iload_n (i := 1) (f := 1) rfl (by decide +kernel) rfl ?_
      refine A_iload_n (i := 2) (f := 2) rfl (by decide +kernel) rfl ?_
      refine A_cVi (q := (RX6, TX6, 6)) (ci := 6) (o := ((49 : Nat) : Int)) (args := [(0, x4), (0, x1), (0, x2)]) (st := [(0, 1), (0, x3)]) (by decide +kernel) cv_m6_answer rfl rfl in_m6_answer se_m6_answer lk_10_299 rfl (by omega) (Nat.le_of_ble_eq_true rfl) h18 (fun r19 M20 _ h21 => ?_)
      refine A_ishl (by decide +kernel) ?_
      refine A_ior (by decide +kernel) ?_
      refine A_istore_n (i := 3) (f := 3) rfl (by decide +kernel) (by decide) (fun w h0 hw => by simp at hw; first | (rw [← hw]; decide) | (rw [← hw]; simp)) ?_
      refine A_iinc (i := 4) (n := 1) (by decide +kernel) (by decide) rfl (fun w h0 hw => by simp at hw; first | (rw [← hw]; decide) | (rw [← hw]; simp)) ?_
      refine A_goto (off := (-44)) (tgt := 34) (by decide +kernel) (by omega) ?_
      exact A_weak (lsub.keep (lsub.keep (lsub.keep (lsub.keep (lsub.keep lsub.nil))))) h21
theorem q_10_cannot  {M : Mem} {P : Int → Mem → Prop} (h : (CD m6_settle 5 [(16, ((49 : Nat) : Int)), (0, (M 21 2)), (14, ((43 : Nat) : Int))] M (fun M2 => A m10_cannot 6 0 22 [(19, ((0 : Nat) : Int)), (0, (-1)), (0, 0), (2, 0)] [] M2 (Ki P)))) : CI m10_cannot 6 [(19, ((0 : Nat) : Int))] M P := by
  refine CI_of (by decide +kernel) (Nat.le_of_ble_eq_true rfl) ?_
  show A m10_cannot 6 0 0 [(19, ((0 : Nat) : Int)), (2, 0), (2, 0), (2, 0)] [] M (Ki P)
  refine A_aload_n (i := 0) (f := 0) (by omega) rfl (by decide +kernel) rfl ?_
  refine B_getr (o' := ((49 : Nat) : Int)) (q := (RX10, TX10, 13)) (ci := 9) (j := 11) (by decide +kernel) rfl (by decide) rfl (by omega) fl_10_57 rfl ?_
  refine A_aload_n (i := 0) (f := 0) (by omega) rfl (by decide +kernel) rfl ?_
  refine B_getr (o' := ((21 : Nat) : Int)) (q := (RX10, TX10, 13)) (ci := 9) (j := 2) (by decide +kernel) rfl (by decide) rfl (by omega) fl_10_19 rfl ?_
  refine B_getp (v := (M 21 2)) (q := (RX0, TX0, 9)) (ci := 0) (j := 2) (p := 2) (by decide +kernel) rfl (by decide) rfl (Or.inl rfl) fl_10_141 rfl ?_
  refine A_aload_n (i := 0) (f := 0) (by omega) rfl (by decide +kernel) rfl ?_
  refine B_getr (o' := ((43 : Nat) : Int)) (q := (RX10, TX10, 13)) (ci := 9) (j := 10) (by decide +kernel) rfl (by decide) rfl (by omega) fl_10_50 rfl ?_
  refine A_cVd (q := (RX6, TX6, 6)) (ci := 6) (o := ((49 : Nat) : Int)) (args := [(0, (M 21 2)), (14, ((43 : Nat) : Int))]) (st := []) (by decide +kernel) cv_m6_settle rfl rfl in_m6_settle se_m6_settle lk_10_291 rfl (by omega) (Nat.le_of_ble_eq_true rfl) h (fun M2 h3 => ?_)
  refine A_iconst (a := (-1)) (by decide +kernel) (by unfold in32; omega) ?_
  refine A_istore_n (i := 1) (f := 1) rfl (by decide +kernel) (by decide) (fun w h0 hw => by simp at hw; first | (rw [← hw]; decide) | (rw [← hw]; simp)) ?_
  refine A_iconst (a := 0) (by decide +kernel) (by unfold in32; omega) ?_
  refine A_istore_n (i := 2) (f := 2) rfl (by decide +kernel) (by decide) (fun w h0 hw => by simp at hw; first | (rw [← hw]; decide) | (rw [← hw]; simp)) ?_
  exact A_weak (lsub.keep (lsub.keep (lsub.keep (lsub.drop lsub.nil)))) h3
theorem r_10_cannot_22 {x1 : Int} {x2 : Int} {M : Mem} {P : Int → Mem → Prop} (h : (((M 49 0) ≤ x2 → (P x1 M)) ∧ (x2 < (M 49 0) → (CI m6_firstWrong 2 [(16, ((49 : Nat) : Int)), (0, x2)] M (fun r4 M5 => ((r4 ≠ (-1) → A m10_cannot 6 0 22 [(19, ((0 : Nat) : Int)), (0, (if x1 < r4 then r4 else x1)), (0, (w32 (x2 + 1))), (2, 0)] [] M5 (Ki P)) ∧ (r4 = (-1) → (P (-1) M5)))))))) : A m10_cannot 6 0 22 [(19, ((0 : Nat) : Int)), (0, x1), (0, x2), (2, 0)] [] M (Ki P) := by
  refine A_iload_n (i := 2) (f := 2) rfl (by decide +kernel) rfl ?_
  refine A_aload_n (i := 0) (f := 0) (by omega) rfl (by decide +kernel) rfl ?_
  refine B_getr (o' := ((49 : Nat) : Int)) (q := (RX10, TX10, 13)) (ci := 9) (j := 11) (by decide +kernel) rfl (by decide) rfl (by omega) fl_10_57 rfl ?_
  refine B_getp (v := (M 49 0)) (q := (RX6, TX6, 6)) (ci := 6) (j := 0) (p := 0) (by decide +kernel) rfl (by decide) rfl (Or.inl rfl) fl_10_295 rfl ?_
  refine A_ic_ge (off := 31) (tgt := 61) (by decide +kernel) (by omega) (fun b1 => ?_) (fun b1 => ?_)
  · have h2 := h.1 b1
    refine A_iload_n (i := 1) (f := 1) rfl (by decide +kernel) rfl ?_
    exact A_ret ⟨by decide +kernel, Or.inl rfl⟩ ⟨_, rfl, h2⟩
  · have h3 := h.2 (Int.not_le.mp b1)
    refine A_aload_n (i := 0) (f := 0) (by omega) rfl (by decide +kernel) rfl ?_
    refine B_getr (o' := ((49 : Nat) : Int)) (q := (RX10, TX10, 13)) (ci := 9) (j := 11) (by decide +kernel) rfl (by decide) rfl (by omega) fl_10_57 rfl ?_
    refine A_iload_n (i := 2) (f := 2) rfl (by decide +kernel) rfl ?_
    refine A_cVi (q := (RX6, TX6, 6)) (ci := 6) (o := ((49 : Nat) : Int)) (args := [(0, x2)]) (st := []) (by decide +kernel) cv_m6_firstWrong rfl rfl in_m6_firstWrong se_m6_firstWrong lk_10_296 rfl (by omega) (Nat.le_of_ble_eq_true rfl) h3 (fun r4 M5 _ h6 => ?_)
    refine A_istore_n (i := 3) (f := 3) rfl (by decide +kernel) (by decide) (fun w h0 hw => by simp at hw; first | (rw [← hw]; decide) | (rw [← hw]; simp)) ?_
    refine A_iload_n (i := 3) (f := 3) rfl (by decide +kernel) rfl ?_
    refine A_iconst (a := (-1)) (by decide +kernel) (by unfold in32; omega) ?_
    refine A_ic_ne (off := 5) (tgt := 49) (by decide +kernel) (by omega) (fun b7 => ?_) (fun b7 => ?_)
    · have h8 := h6.1 b7
      refine A_iload_n (i := 1) (f := 1) rfl (by decide +kernel) rfl ?_
      refine A_iload_n (i := 3) (f := 3) rfl (by decide +kernel) rfl ?_
      refine A_max (by decide +kernel) (by omega) (Nat.le_of_ble_eq_true rfl) lk_10_302 jst_max jin_math jcd_max ?_
      refine A_istore_n (i := 1) (f := 1) rfl (by decide +kernel) (by decide) (fun w h0 hw => by simp at hw; first | (rw [← hw]; decide) | (rw [← hw]; simp)) ?_
      refine A_iinc (i := 2) (n := 1) (by decide +kernel) (by decide) rfl (fun w h0 hw => by simp at hw; first | (rw [← hw]; decide) | (rw [← hw]; simp)) ?_
      refine A_goto (off := (-36)) (tgt := 22) (by decide +kernel) (by omega) ?_
      exact A_weak (lsub.keep (lsub.keep (lsub.keep (lsub.drop lsub.nil)))) h8
    · have h9 := h6.2 (Decidable.not_not.mp b7)
      refine A_iconst (a := (-1)) (by decide +kernel) (by unfold in32; omega) ?_
      exact A_ret ⟨by decide +kernel, Or.inl rfl⟩ ⟨_, rfl, h9⟩
theorem q_10_order {x1 : Int} {x2 : Int} {x3 : Int} {M : Mem} {P : Int → Mem → Prop} (h : (CI m10_areTwo 2 [(19, ((0 : Nat) : Int)), (0, x2), (0, x3)] M (fun r1 M2 => ((r1 = 0 → (P (-1) M2)) ∧ (r1 ≠ 0 → ((0 ≤ x1 → (CD m6_settle 5 [(16, ((49 : Nat) : Int)), (0, (M2 21 2)), (14, ((43 : Nat) : Int))] M2 (fun M11 => A m10_order 6 0 39 [(19, ((0 : Nat) : Int)), (2, 0), (0, x2), (0, x3), (0, x1), (0, 0)] [] M11 (Ki P)))) ∧ (x1 < 0 → (P (-1) M2)))))))) : CI m10_order 6 [(19, ((0 : Nat) : Int)), (0, x1), (0, x2), (0, x3)] M P := by
  refine CI_of (by decide +kernel) (Nat.le_of_ble_eq_true rfl) ?_
  show A m10_order 6 0 0 [(19, ((0 : Nat) : Int)), (0, x1), (0, x2), (0, x3), (2, 0), (2, 0)] [] M (Ki P)
  refine A_aload_n (i := 0) (f := 0) (by omega) rfl (by decide +kernel) rfl ?_
  refine A_iload_n (i := 2) (f := 2) rfl (by decide +kernel) rfl ?_
  refine A_iload_n (i := 3) (f := 3) rfl (by decide +kernel) rfl ?_
  refine A_cVi (q := (RX10, TX10, 13)) (ci := 9) (o := ((0 : Nat) : Int)) (args := [(0, x2), (0, x3)]) (st := []) (by decide +kernel) cv_m10_areTwo rfl rfl in_m10_areTwo se_m10_areTwo lk_10_170 rfl (by omega) (Nat.le_of_ble_eq_true rfl) h (fun r1 M2 _ h3 => ?_)
  refine A_if_eq (off := 7) (tgt := 13) (by decide +kernel) (by omega) (fun b4 => ?_) (fun b4 => ?_)
  · have h5 := h3.1 b4
    refine A_iconst (a := (-1)) (by decide +kernel) (by unfold in32; omega) ?_
    exact A_ret ⟨by decide +kernel, Or.inl rfl⟩ ⟨_, rfl, h5⟩
  · have h6 := h3.2 b4
    refine A_iload_n (i := 1) (f := 1) rfl (by decide +kernel) rfl ?_
    refine A_if_ge (off := 5) (tgt := 15) (by decide +kernel) (by omega) (fun b7 => ?_) (fun b7 => ?_)
    · have h8 := h6.1 b7
      refine A_aload_n (i := 0) (f := 0) (by omega) rfl (by decide +kernel) rfl ?_
      refine B_getr (o' := ((49 : Nat) : Int)) (q := (RX10, TX10, 13)) (ci := 9) (j := 11) (by decide +kernel) rfl (by decide) rfl (by omega) fl_10_57 rfl ?_
      refine A_aload_n (i := 0) (f := 0) (by omega) rfl (by decide +kernel) rfl ?_
      refine B_getr (o' := ((21 : Nat) : Int)) (q := (RX10, TX10, 13)) (ci := 9) (j := 2) (by decide +kernel) rfl (by decide) rfl (by omega) fl_10_19 rfl ?_
      refine B_getp (v := (M2 21 2)) (q := (RX0, TX0, 9)) (ci := 0) (j := 2) (p := 2) (by decide +kernel) rfl (by decide) rfl (Or.inl rfl) fl_10_141 rfl ?_
      refine A_aload_n (i := 0) (f := 0) (by omega) rfl (by decide +kernel) rfl ?_
      refine B_getr (o' := ((43 : Nat) : Int)) (q := (RX10, TX10, 13)) (ci := 9) (j := 10) (by decide +kernel) rfl (by decide) rfl (by omega) fl_10_50 rfl ?_
      refine A_cVd (q := (RX6, TX6, 6)) (ci := 6) (o := ((49 : Nat) : Int)) (args := [(0, (M2 21 2)), (14, ((43 : Nat) : Int))]) (st := []) (by decide +kernel) cv_m6_settle rfl rfl in_m6_settle se_m6_settle lk_10_291 rfl (by omega) (Nat.le_of_ble_eq_true rfl) h8 (fun M11 h12 => ?_)
      refine A_iload_n (i := 1) (f := 1) rfl (by decide +kernel) rfl ?_
      refine A_istore (i := 4) (by decide +kernel) (by decide) (fun w h0 hw => by simp at hw; first | (rw [← hw]; decide) | (rw [← hw]; simp)) ?_
      refine A_iconst (a := 0) (by decide +kernel) (by unfold in32; omega) ?_
      refine A_istore (i := 5) (by decide +kernel) (by decide) (fun w h0 hw => by simp at hw; first | (rw [← hw]; decide) | (rw [← hw]; simp)) ?_
      exact A_weak (lsub.keep (lsub.drop (lsub.keep (lsub.keep (lsub.keep (lsub.keep lsub.nil)))))) h12
    · have h9 := h6.2 (Int.not_le.mp b7)
      refine A_iconst (a := (-1)) (by decide +kernel) (by unfold in32; omega) ?_
      exact A_ret ⟨by decide +kernel, Or.inl rfl⟩ ⟨_, rfl, h9⟩
theorem r_10_order_39 {x2 : Int} {x3 : Int} {x4 : Int} {x5 : Int} {M : Mem} {P : Int → Mem → Prop} (h : (((M 49 0) ≤ x5 → (P (-1) M)) ∧ (x5 < (M 49 0) → (CI m6_firstWrong 2 [(16, ((49 : Nat) : Int)), (0, x5)] M (fun r4 M5 => ((r4 ≠ (-1) → A m10_order 6 0 39 [(19, ((0 : Nat) : Int)), (2, 0), (0, x2), (0, x3), (0, x4), (0, (w32 (x5 + 1)))] [] M5 (Ki P)) ∧ (r4 = (-1) → ((x4 ≠ 0 → A m10_order 6 0 39 [(19, ((0 : Nat) : Int)), (2, 0), (0, x2), (0, x3), (0, (w32 (x4 + (-1)))), (0, (w32 (x5 + 1)))] [] M5 (Ki P)) ∧ (x4 = 0 → (CI m6_answer 3 [(16, ((49 : Nat) : Int)), (0, x5), (0, x2), (0, x3)] M5 (fun r13 M14 => (P r13 M14)))))))))))) : A m10_order 6 0 39 [(19, ((0 : Nat) : Int)), (2, 0), (0, x2), (0, x3), (0, x4), (0, x5)] [] M (Ki P) := by
  refine A_iload (i := 5) (by decide +kernel) rfl ?_
  refine A_aload_n (i := 0) (f := 0) (by omega) rfl (by decide +kernel) rfl ?_
  refine B_getr (o' := ((49 : Nat) : Int)) (q := (RX10, TX10, 13)) (ci := 9) (j := 11) (by decide +kernel) rfl (by decide) rfl (by omega) fl_10_57 rfl ?_
  refine B_getp (v := (M 49 0)) (q := (RX6, TX6, 6)) (ci := 6) (j := 0) (p := 0) (by decide +kernel) rfl (by decide) rfl (Or.inl rfl) fl_10_295 rfl ?_
  refine A_ic_ge (off := 42) (tgt := 90) (by decide +kernel) (by omega) (fun b1 => ?_) (fun b1 => ?_)
  · have h2 := h.1 b1
    refine A_iconst (a := (-1)) (by decide +kernel) (by unfold in32; omega) ?_
    exact A_ret ⟨by decide +kernel, Or.inl rfl⟩ ⟨_, rfl, h2⟩
  · have h3 := h.2 (Int.not_le.mp b1)
    refine A_aload_n (i := 0) (f := 0) (by omega) rfl (by decide +kernel) rfl ?_
    refine B_getr (o' := ((49 : Nat) : Int)) (q := (RX10, TX10, 13)) (ci := 9) (j := 11) (by decide +kernel) rfl (by decide) rfl (by omega) fl_10_57 rfl ?_
    refine A_iload (i := 5) (by decide +kernel) rfl ?_
    refine A_cVi (q := (RX6, TX6, 6)) (ci := 6) (o := ((49 : Nat) : Int)) (args := [(0, x5)]) (st := []) (by decide +kernel) cv_m6_firstWrong rfl rfl in_m6_firstWrong se_m6_firstWrong lk_10_296 rfl (by omega) (Nat.le_of_ble_eq_true rfl) h3 (fun r4 M5 _ h6 => ?_)
    refine A_iconst (a := (-1)) (by decide +kernel) (by unfold in32; omega) ?_
    refine A_ic_ne (off := 23) (tgt := 84) (by decide +kernel) (by omega) (fun b7 => ?_) (fun b7 => ?_)
    · have h8 := h6.1 b7
      refine A_iinc (i := 5) (n := 1) (by decide +kernel) (by decide) rfl (fun w h0 hw => by simp at hw; first | (rw [← hw]; decide) | (rw [← hw]; simp)) ?_
      refine A_goto (off := (-48)) (tgt := 39) (by decide +kernel) (by omega) ?_
      exact A_weak (lsub.keep (lsub.drop (lsub.keep (lsub.keep (lsub.keep (lsub.keep lsub.nil)))))) h8
    · have h9 := h6.2 (Decidable.not_not.mp b7)
      refine A_iload (i := 4) (by decide +kernel) rfl ?_
      refine A_if_ne (off := 15) (tgt := 81) (by decide +kernel) (by omega) (fun b10 => ?_) (fun b10 => ?_)
      · have h11 := h9.1 b10
        refine A_iinc (i := 4) (n := (-1)) (by decide +kernel) (by decide) rfl (fun w h0 hw => by simp at hw; first | (rw [← hw]; decide) | (rw [← hw]; simp)) ?_
        refine A_iinc (i := 5) (n := 1) (by decide +kernel) (by decide) rfl (fun w h0 hw => by simp at hw; first | (rw [← hw]; decide) | (rw [← hw]; simp)) ?_
        refine A_goto (off := (-48)) (tgt := 39) (by decide +kernel) (by omega) ?_
        exact A_weak (lsub.keep (lsub.drop (lsub.keep (lsub.keep (lsub.keep (lsub.keep lsub.nil)))))) h11
      · have h12 := h9.2 (Decidable.not_not.mp b10)
        refine A_aload_n (i := 0) (f := 0) (by omega) rfl (by decide +kernel) rfl ?_
        refine B_getr (o' := ((49 : Nat) : Int)) (q := (RX10, TX10, 13)) (ci := 9) (j := 11) (by decide +kernel) rfl (by decide) rfl (by omega) fl_10_57 rfl ?_
        refine A_iload (i := 5) (by decide +kernel) rfl ?_
        refine A_iload_n (i := 2) (f := 2) rfl (by decide +kernel) rfl ?_
        refine A_iload_n (i := 3) (f := 3) rfl (by decide +kernel) rfl ?_
        refine A_cVi (q := (RX6, TX6, 6)) (ci := 6) (o := ((49 : Nat) : Int)) (args := [(0, x5), (0, x2), (0, x3)]) (st := []) (by decide +kernel) cv_m6_answer rfl rfl in_m6_answer se_m6_answer lk_10_299 rfl (by omega) (Nat.le_of_ble_eq_true rfl) h12 (fun r13 M14 _ h15 => ?_)
        exact A_ret ⟨by decide +kernel, Or.inl rfl⟩ ⟨_, rfl, h15⟩
theorem q_10_letter {x1 : Int} {x2 : Int} {x3 : Int} {M : Mem} {P : Int → Mem → Prop} (h : (CI m10_isSeason 1 [(0, x2)] M (fun r1 M2 => ((r1 = 0 → (P (-1) M2)) ∧ (r1 ≠ 0 → ((x3 < (-1) → (P (-1) M2)) ∧ ((-1) ≤ x3 → (CI m8_isRow 2 [(0, x1), (0, (M2 21 4))] M2 (fun r10 M11 => ((r10 ≠ 0 → (CD m5_build 3 [(15, ((34 : Nat) : Int)), (12, ((30 : Nat) : Int)), (0, x2), (0, (M11 21 2))] M11 (fun M17 => A m10_letter 7 0 53 [(19, ((0 : Nat) : Int)), (0, x1), (0, x2), (0, x3), (0, 0), (0, 0), (2, 0), (2, 0), (2, 0)] [] M17 (Ki P)))) ∧ (r10 = 0 → (P (-1) M11)))))))))))) : CI m10_letter 7 [(19, ((0 : Nat) : Int)), (0, x1), (0, x2), (0, x3)] M P := by
  refine CI_of (by decide +kernel) (Nat.le_of_ble_eq_true rfl) ?_
  show A m10_letter 7 0 0 [(19, ((0 : Nat) : Int)), (0, x1), (0, x2), (0, x3), (2, 0), (2, 0), (2, 0), (2, 0), (2, 0)] [] M (Ki P)
  refine A_iload_n (i := 2) (f := 2) rfl (by decide +kernel) rfl ?_
  refine A_cSi (args := [(0, x2)]) (st := []) (by decide +kernel) cv_m10_isSeason st_m10_isSeason lk_10_174 rfl (by omega) (Nat.le_of_ble_eq_true rfl) h (fun r1 M2 _ h3 => ?_)
  refine A_if_eq (off := 22) (tgt := 26) (by decide +kernel) (by omega) (fun b4 => ?_) (fun b4 => ?_)
  · have h5 := h3.1 b4
    refine A_iconst (a := (-1)) (by decide +kernel) (by unfold in32; omega) ?_
    exact A_ret ⟨by decide +kernel, Or.inl rfl⟩ ⟨_, rfl, h5⟩
  · have h6 := h3.2 b4
    refine A_iload_n (i := 3) (f := 3) rfl (by decide +kernel) rfl ?_
    refine A_iconst (a := (-1)) (by decide +kernel) (by unfold in32; omega) ?_
    refine A_ic_lt (off := 17) (tgt := 26) (by decide +kernel) (by omega) (fun b7 => ?_) (fun b7 => ?_)
    · have h8 := h6.1 b7
      refine A_iconst (a := (-1)) (by decide +kernel) (by unfold in32; omega) ?_
      exact A_ret ⟨by decide +kernel, Or.inl rfl⟩ ⟨_, rfl, h8⟩
    · have h9 := h6.2 (Int.not_lt.mp b7)
      refine A_iload_n (i := 1) (f := 1) rfl (by decide +kernel) rfl ?_
      refine A_aload_n (i := 0) (f := 0) (by omega) rfl (by decide +kernel) rfl ?_
      refine B_getr (o' := ((21 : Nat) : Int)) (q := (RX10, TX10, 13)) (ci := 9) (j := 2) (by decide +kernel) rfl (by decide) rfl (by omega) fl_10_19 rfl ?_
      refine B_getp (v := (M2 21 4)) (q := (RX0, TX0, 9)) (ci := 0) (j := 4) (p := 4) (by decide +kernel) rfl (by decide) rfl (Or.inl rfl) fl_10_227 rfl ?_
      refine A_cSi (args := [(0, x1), (0, (M2 21 4))]) (st := []) (by decide +kernel) cv_m8_isRow st_m8_isRow lk_10_245 rfl (by omega) (Nat.le_of_ble_eq_true rfl) h9 (fun r10 M11 _ h12 => ?_)
      refine A_if_ne (off := 5) (tgt := 28) (by decide +kernel) (by omega) (fun b13 => ?_) (fun b13 => ?_)
      · have h14 := h12.1 b13
        refine A_aload_n (i := 0) (f := 0) (by omega) rfl (by decide +kernel) rfl ?_
        refine B_getr (o' := ((34 : Nat) : Int)) (q := (RX10, TX10, 13)) (ci := 9) (j := 8) (by decide +kernel) rfl (by decide) rfl (by omega) fl_10_36 rfl ?_
        refine A_aload_n (i := 0) (f := 0) (by omega) rfl (by decide +kernel) rfl ?_
        refine B_getr (o' := ((30 : Nat) : Int)) (q := (RX10, TX10, 13)) (ci := 9) (j := 3) (by decide +kernel) rfl (by decide) rfl (by omega) fl_10_26 rfl ?_
        refine A_iload_n (i := 2) (f := 2) rfl (by decide +kernel) rfl ?_
        refine A_aload_n (i := 0) (f := 0) (by omega) rfl (by decide +kernel) rfl ?_
        refine B_getr (o' := ((21 : Nat) : Int)) (q := (RX10, TX10, 13)) (ci := 9) (j := 2) (by decide +kernel) rfl (by decide) rfl (by omega) fl_10_19 rfl ?_
        refine B_getp (v := (M11 21 2)) (q := (RX0, TX0, 9)) (ci := 0) (j := 2) (p := 2) (by decide +kernel) rfl (by decide) rfl (Or.inl rfl) fl_10_141 rfl ?_
        refine A_cVd (q := (RX5, TX5, 5)) (ci := 5) (o := ((34 : Nat) : Int)) (args := [(12, ((30 : Nat) : Int)), (0, x2), (0, (M11 21 2))]) (st := []) (by decide +kernel) cv_m5_build rfl rfl in_m5_build se_m5_build lk_10_144 rfl (by omega) (Nat.le_of_ble_eq_true rfl) h14 (fun M17 h18 => ?_)
        refine A_iconst (a := 0) (by decide +kernel) (by unfold in32; omega) ?_
        refine A_istore (i := 4) (by decide +kernel) (by decide) (fun w h0 hw => by simp at hw; first | (rw [← hw]; decide) | (rw [← hw]; simp)) ?_
        refine A_iconst (a := 0) (by decide +kernel) (by unfold in32; omega) ?_
        refine A_istore (i := 5) (by decide +kernel) (by decide) (fun w h0 hw => by simp at hw; first | (rw [← hw]; decide) | (rw [← hw]; simp)) ?_
        exact A_weak (lsub.keep (lsub.keep (lsub.keep (lsub.keep (lsub.keep (lsub.keep (lsub.drop (lsub.drop (lsub.drop lsub.nil))))))))) h18
      · have h15 := h12.2 (Decidable.not_not.mp b13)
        refine A_iconst (a := (-1)) (by decide +kernel) (by unfold in32; omega) ?_
        exact A_ret ⟨by decide +kernel, Or.inl rfl⟩ ⟨_, rfl, h15⟩
theorem r_10_letter_53 {x1 : Int} {x2 : Int} {x3 : Int} {x4 : Int} {x5 : Int} {M : Mem} {P : Int → Mem → Prop} (h : ((512 ≤ x5 → ((x3 ≠ (-1) → (P (-2) M)) ∧ (x3 = (-1) → (P x4 M)))) ∧ (x5 < 512 → (CI m10_isSaying 3 [(19, ((0 : Nat) : Int)), (0, (ishr x5 6)), (0, (iand (ishr x5 3) 7)), (0, (iand x5 7))] M (fun r7 M8 => ((r7 = 0 → A m10_letter 7 0 53 [(19, ((0 : Nat) : Int)), (0, x1), (0, x2), (0, x3), (0, x4), (0, (w32 (x5 + 1))), (2, 0), (2, 0), (2, 0)] [] M8 (Ki P)) ∧ (r7 ≠ 0 → (CI m10_fits 6 [(19, ((0 : Nat) : Int)), (0, (ishr x5 6)), (0, (iand (ishr x5 3) 7)), (0, (iand x5 7)), (0, x2), (0, x1)] M8 (fun r13 M14 => ((r13 = 0 → A m10_letter 7 0 53 [(19, ((0 : Nat) : Int)), (0, x1), (0, x2), (0, x3), (0, x4), (0, (w32 (x5 + 1))), (2, 0), (2, 0), (2, 0)] [] M14 (Ki P)) ∧ (r13 ≠ 0 → ((x4 ≠ x3 → A m10_letter 7 0 53 [(19, ((0 : Nat) : Int)), (0, x1), (0, x2), (0, x3), (0, (w32 (x4 + 1))), (0, (w32 (x5 + 1))), (2, 0), (2, 0), (2, 0)] [] M14 (Ki P)) ∧ (x4 = x3 → (P (w32 ((w32 ((ishr x5 6) + (w32 (8 * (iand (ishr x5 3) 7))))) + (w32 (64 * (iand x5 7))))) M14)))))))))))))) : A m10_letter 7 0 53 [(19, ((0 : Nat) : Int)), (0, x1), (0, x2), (0, x3), (0, x4), (0, x5), (2, 0), (2, 0), (2, 0)] [] M (Ki P) := by
  refine A_iload (i := 5) (by decide +kernel) rfl ?_
  refine A_sipush (a := 512) (by decide +kernel) (by unfold in32; omega) (by decide +kernel) ?_
  refine A_ic_ge (off := 84) (tgt := 142) (by decide +kernel) (by omega) (fun b1 => ?_) (fun b1 => ?_)
  · have h2 := h.1 b1
    refine A_iload_n (i := 3) (f := 3) rfl (by decide +kernel) rfl ?_
    refine A_iconst (a := (-1)) (by decide +kernel) (by unfold in32; omega) ?_
    refine A_ic_ne (off := 8) (tgt := 152) (by decide +kernel) (by omega) (fun b4 => ?_) (fun b4 => ?_)
    · have h5 := h2.1 b4
      refine A_bipush (a := (-2)) (by decide +kernel) (by unfold in32; omega) (by decide +kernel) ?_
      exact A_ret ⟨by decide +kernel, Or.inl rfl⟩ ⟨_, rfl, h5⟩
    · have h6 := h2.2 (Decidable.not_not.mp b4)
      refine A_iload (i := 4) (by decide +kernel) rfl ?_
      refine A_goto (off := 5) (tgt := 154) (by decide +kernel) (by omega) ?_
      exact A_ret ⟨by decide +kernel, Or.inl rfl⟩ ⟨_, rfl, h6⟩
  · have h3 := h.2 (Int.not_le.mp b1)
    refine A_iload (i := 5) (by decide +kernel) rfl ?_
    refine A_bipush (a := 6) (by decide +kernel) (by unfold in32; omega) (by decide +kernel) ?_
    refine A_ishr (by decide +kernel) ?_
    refine A_istore (i := 6) (by decide +kernel) (by decide) (fun w h0 hw => by simp at hw; first | (rw [← hw]; decide) | (rw [← hw]; simp)) ?_
    refine A_iload (i := 5) (by decide +kernel) rfl ?_
    refine A_iconst (a := 3) (by decide +kernel) (by unfold in32; omega) ?_
    refine A_ishr (by decide +kernel) ?_
    refine A_bipush (a := 7) (by decide +kernel) (by unfold in32; omega) (by decide +kernel) ?_
    refine A_iand (by decide +kernel) ?_
    refine A_istore (i := 7) (by decide +kernel) (by decide) (fun w h0 hw => by simp at hw; first | (rw [← hw]; decide) | (rw [← hw]; simp)) ?_
    refine A_iload (i := 5) (by decide +kernel) rfl ?_
    refine A_bipush (a := 7) (by decide +kernel) (by unfold in32; omega) (by decide +kernel) ?_
    refine A_iand (by decide +kernel) ?_
    refine A_istore (i := 8) (by decide +kernel) (by decide) (fun w h0 hw => by simp at hw; first | (rw [← hw]; decide) | (rw [← hw]; simp)) ?_
    refine A_aload_n (i := 0) (f := 0) (by omega) rfl (by decide +kernel) rfl ?_
    refine A_iload (i := 6) (by decide +kernel) rfl ?_
    refine A_iload (i := 7) (by decide +kernel) rfl ?_
    refine A_iload (i := 8) (by decide +kernel) rfl ?_
    refine A_cVi (q := (RX10, TX10, 13)) (ci := 9) (o := ((0 : Nat) : Int)) (args := [(0, (ishr x5 6)), (0, (iand (ishr x5 3) 7)), (0, (iand x5 7))]) (st := []) (by decide +kernel) cv_m10_isSaying rfl rfl in_m10_isSaying se_m10_isSaying lk_10_215 rfl (by omega) (Nat.le_of_ble_eq_true rfl) h3 (fun r7 M8 _ h9 => ?_)
    refine A_if_eq (off := 42) (tgt := 136) (by decide +kernel) (by omega) (fun b10 => ?_) (fun b10 => ?_)
    · have h11 := h9.1 b10
      refine A_iinc (i := 5) (n := 1) (by decide +kernel) (by decide) rfl (fun w h0 hw => by simp at hw; first | (rw [← hw]; decide) | (rw [← hw]; simp)) ?_
      refine A_goto (off := (-86)) (tgt := 53) (by decide +kernel) (by omega) ?_
      exact A_weak (lsub.keep (lsub.keep (lsub.keep (lsub.keep (lsub.keep (lsub.keep (lsub.drop (lsub.drop (lsub.drop lsub.nil))))))))) h11
    · have h12 := h9.2 b10
      refine A_aload_n (i := 0) (f := 0) (by omega) rfl (by decide +kernel) rfl ?_
      refine A_iload (i := 6) (by decide +kernel) rfl ?_
      refine A_iload (i := 7) (by decide +kernel) rfl ?_
      refine A_iload (i := 8) (by decide +kernel) rfl ?_
      refine A_iload_n (i := 2) (f := 2) rfl (by decide +kernel) rfl ?_
      refine A_iload_n (i := 1) (f := 1) rfl (by decide +kernel) rfl ?_
      refine A_cVi (q := (RX10, TX10, 13)) (ci := 9) (o := ((0 : Nat) : Int)) (args := [(0, (ishr x5 6)), (0, (iand (ishr x5 3) 7)), (0, (iand x5 7)), (0, x2), (0, x1)]) (st := []) (by decide +kernel) cv_m10_fits rfl rfl in_m10_fits se_m10_fits lk_10_307 rfl (by omega) (Nat.le_of_ble_eq_true rfl) h12 (fun r13 M14 _ h15 => ?_)
      refine A_if_eq (off := 27) (tgt := 136) (by decide +kernel) (by omega) (fun b16 => ?_) (fun b16 => ?_)
      · have h17 := h15.1 b16
        refine A_iinc (i := 5) (n := 1) (by decide +kernel) (by decide) rfl (fun w h0 hw => by simp at hw; first | (rw [← hw]; decide) | (rw [← hw]; simp)) ?_
        refine A_goto (off := (-86)) (tgt := 53) (by decide +kernel) (by omega) ?_
        exact A_weak (lsub.keep (lsub.keep (lsub.keep (lsub.keep (lsub.keep (lsub.keep (lsub.drop (lsub.drop (lsub.drop lsub.nil))))))))) h17
      · have h18 := h15.2 b16
        refine A_iload (i := 4) (by decide +kernel) rfl ?_
        refine A_iload_n (i := 3) (f := 3) rfl (by decide +kernel) rfl ?_
        refine A_ic_ne (off := 18) (tgt := 133) (by decide +kernel) (by omega) (fun b19 => ?_) (fun b19 => ?_)
        · have h20 := h18.1 b19
          refine A_iinc (i := 4) (n := 1) (by decide +kernel) (by decide) rfl (fun w h0 hw => by simp at hw; first | (rw [← hw]; decide) | (rw [← hw]; simp)) ?_
          refine A_iinc (i := 5) (n := 1) (by decide +kernel) (by decide) rfl (fun w h0 hw => by simp at hw; first | (rw [← hw]; decide) | (rw [← hw]; simp)) ?_
          refine A_goto (off := (-86)) (tgt := 53) (by decide +kernel) (by omega) ?_
          exact A_weak (lsub.keep (lsub.keep (lsub.keep (lsub.keep (lsub.keep (lsub.keep (lsub.drop (lsub.drop (lsub.drop lsub.nil))))))))) h20
        · have h21 := h18.2 (Decidable.not_not.mp b19)
          refine A_iload (i := 6) (by decide +kernel) rfl ?_
          refine A_bipush (a := 8) (by decide +kernel) (by unfold in32; omega) (by decide +kernel) ?_
          refine A_iload (i := 7) (by decide +kernel) rfl ?_
          refine A_imul (by decide +kernel) ?_
          refine A_iadd (by decide +kernel) ?_
          refine A_bipush (a := 64) (by decide +kernel) (by unfold in32; omega) (by decide +kernel) ?_
          refine A_iload (i := 8) (by decide +kernel) rfl ?_
          refine A_imul (by decide +kernel) ?_
          refine A_iadd (by decide +kernel) ?_
          exact A_ret ⟨by decide +kernel, Or.inl rfl⟩ ⟨_, rfl, h21⟩
theorem q_10_silence {x1 : Int} {x2 : Int} {x3 : Int} {x4 : Int} {M : Mem} {P : Int → Mem → Prop} (h : (CI m10_isSaying 3 [(19, ((0 : Nat) : Int)), (0, x1), (0, x2), (0, x3)] M (fun r1 M2 => ((r1 = 0 → (P (-1) M2)) ∧ (r1 ≠ 0 → ((x4 < 0 → (P (-1) M2)) ∧ (0 ≤ x4 → ((x4 ≤ 1 → (CD m10_meetNow 5 [(19, ((0 : Nat) : Int)), (0, x1), (0, x2), (0, x3)] M2 (fun M14 => (CI m9_fewestLeft 6 [(18, ((39 : Nat) : Int)), (10, ((21 : Nat) : Int))] M14 (fun r16 M17 => ((r16 ≠ (-1) → ((x4 ≠ 0 → (P r16 M17)) ∧ (x4 = 0 → (CI mJ_bitCount 1 [(0, r16)] M17 (fun r25 M26 => (P r25 M26)))))) ∧ (r16 = (-1) → (P (-2) M17)))))))) ∧ (1 < x4 → (P (-1) M2)))))))))) : CI m10_silence 7 [(19, ((0 : Nat) : Int)), (0, x1), (0, x2), (0, x3), (0, x4)] M P := by
  refine CI_of (by decide +kernel) (Nat.le_of_ble_eq_true rfl) ?_
  show A m10_silence 7 0 0 [(19, ((0 : Nat) : Int)), (0, x1), (0, x2), (0, x3), (0, x4), (2, 0)] [] M (Ki P)
  refine A_aload_n (i := 0) (f := 0) (by omega) rfl (by decide +kernel) rfl ?_
  refine A_iload_n (i := 1) (f := 1) rfl (by decide +kernel) rfl ?_
  refine A_iload_n (i := 2) (f := 2) rfl (by decide +kernel) rfl ?_
  refine A_iload_n (i := 3) (f := 3) rfl (by decide +kernel) rfl ?_
  refine A_cVi (q := (RX10, TX10, 13)) (ci := 9) (o := ((0 : Nat) : Int)) (args := [(0, x1), (0, x2), (0, x3)]) (st := []) (by decide +kernel) cv_m10_isSaying rfl rfl in_m10_isSaying se_m10_isSaying lk_10_215 rfl (by omega) (Nat.le_of_ble_eq_true rfl) h (fun r1 M2 _ h3 => ?_)
  refine A_if_eq (off := 14) (tgt := 21) (by decide +kernel) (by omega) (fun b4 => ?_) (fun b4 => ?_)
  · have h5 := h3.1 b4
    refine A_iconst (a := (-1)) (by decide +kernel) (by unfold in32; omega) ?_
    exact A_ret ⟨by decide +kernel, Or.inl rfl⟩ ⟨_, rfl, h5⟩
  · have h6 := h3.2 b4
    refine A_iload (i := 4) (by decide +kernel) rfl ?_
    refine A_if_lt (off := 9) (tgt := 21) (by decide +kernel) (by omega) (fun b7 => ?_) (fun b7 => ?_)
    · have h8 := h6.1 b7
      refine A_iconst (a := (-1)) (by decide +kernel) (by unfold in32; omega) ?_
      exact A_ret ⟨by decide +kernel, Or.inl rfl⟩ ⟨_, rfl, h8⟩
    · have h9 := h6.2 (Int.not_lt.mp b7)
      refine A_iload (i := 4) (by decide +kernel) rfl ?_
      refine A_iconst (a := 1) (by decide +kernel) (by unfold in32; omega) ?_
      refine A_ic_le (off := 5) (tgt := 23) (by decide +kernel) (by omega) (fun b10 => ?_) (fun b10 => ?_)
      · have h11 := h9.1 b10
        refine A_aload_n (i := 0) (f := 0) (by omega) rfl (by decide +kernel) rfl ?_
        refine A_iload_n (i := 1) (f := 1) rfl (by decide +kernel) rfl ?_
        refine A_iload_n (i := 2) (f := 2) rfl (by decide +kernel) rfl ?_
        refine A_iload_n (i := 3) (f := 3) rfl (by decide +kernel) rfl ?_
        refine A_cVd (q := (RX10, TX10, 13)) (ci := 9) (o := ((0 : Nat) : Int)) (args := [(0, x1), (0, x2), (0, x3)]) (st := []) (by decide +kernel) cv_m10_meetNow rfl rfl in_m10_meetNow se_m10_meetNow lk_10_219 rfl (by omega) (Nat.le_of_ble_eq_true rfl) h11 (fun M14 h15 => ?_)
        refine A_aload_n (i := 0) (f := 0) (by omega) rfl (by decide +kernel) rfl ?_
        refine B_getr (o' := ((39 : Nat) : Int)) (q := (RX10, TX10, 13)) (ci := 9) (j := 9) (by decide +kernel) rfl (by decide) rfl (by omega) fl_10_43 rfl ?_
        refine A_aload_n (i := 0) (f := 0) (by omega) rfl (by decide +kernel) rfl ?_
        refine B_getr (o' := ((21 : Nat) : Int)) (q := (RX10, TX10, 13)) (ci := 9) (j := 2) (by decide +kernel) rfl (by decide) rfl (by omega) fl_10_19 rfl ?_
        refine A_cVi (q := (RX9, TX9, 3)) (ci := 8) (o := ((39 : Nat) : Int)) (args := [(10, ((21 : Nat) : Int))]) (st := []) (by decide +kernel) cv_m9_fewestLeft rfl rfl in_m9_fewestLeft se_m9_fewestLeft lk_10_311 rfl (by omega) (Nat.le_of_ble_eq_true rfl) h15 (fun r16 M17 _ h18 => ?_)
        refine A_istore (i := 5) (by decide +kernel) (by decide) (fun w h0 hw => by simp at hw; first | (rw [← hw]; decide) | (rw [← hw]; simp)) ?_
        refine A_iload (i := 5) (by decide +kernel) rfl ?_
        refine A_iconst (a := (-1)) (by decide +kernel) (by unfold in32; omega) ?_
        refine A_ic_ne (off := 6) (tgt := 52) (by decide +kernel) (by omega) (fun b19 => ?_) (fun b19 => ?_)
        · have h20 := h18.1 b19
          refine A_iload (i := 4) (by decide +kernel) rfl ?_
          refine A_if_ne (off := 11) (tgt := 65) (by decide +kernel) (by omega) (fun b22 => ?_) (fun b22 => ?_)
          · have h23 := h20.1 b22
            refine A_iload (i := 5) (by decide +kernel) rfl ?_
            exact A_ret ⟨by decide +kernel, Or.inl rfl⟩ ⟨_, rfl, h23⟩
          · have h24 := h20.2 (Decidable.not_not.mp b22)
            refine A_iload (i := 5) (by decide +kernel) rfl ?_
            refine A_cSi (args := [(0, r16)]) (st := []) (by decide +kernel) cv_mJ_bitCount st_mJ_bitCount lk_10_162 rfl (by omega) (Nat.le_of_ble_eq_true rfl) h24 (fun r25 M26 _ h27 => ?_)
            refine A_goto (off := 5) (tgt := 67) (by decide +kernel) (by omega) ?_
            exact A_ret ⟨by decide +kernel, Or.inl rfl⟩ ⟨_, rfl, h27⟩
        · have h21 := h18.2 (Decidable.not_not.mp b19)
          refine A_bipush (a := (-2)) (by decide +kernel) (by unfold in32; omega) (by decide +kernel) ?_
          exact A_ret ⟨by decide +kernel, Or.inl rfl⟩ ⟨_, rfl, h21⟩
      · have h12 := h9.2 (Int.not_le.mp b10)
        refine A_iconst (a := (-1)) (by decide +kernel) (by unfold in32; omega) ?_
        exact A_ret ⟨by decide +kernel, Or.inl rfl⟩ ⟨_, rfl, h12⟩
theorem q_10_rise {x1 : Int} {x2 : Int} {x3 : Int} {M : Mem} {P : Int → Mem → Prop} (h : (CI m10_areTwo 2 [(19, ((0 : Nat) : Int)), (0, x1), (0, x2)] M (fun r1 M2 => ((r1 = 0 → (P (-1) M2)) ∧ (r1 ≠ 0 → (((-1) ≤ x3 → A m10_rise 8 0 19 [(19, ((0 : Nat) : Int)), (0, x1), (0, x2), (0, x3), (0, 0)] [] M2 (Ki P)) ∧ (x3 < (-1) → (P (-1) M2)))))))) : CI m10_rise 8 [(19, ((0 : Nat) : Int)), (0, x1), (0, x2), (0, x3)] M P := by
  refine CI_of (by decide +kernel) (Nat.le_of_ble_eq_true rfl) ?_
  show A m10_rise 8 0 0 [(19, ((0 : Nat) : Int)), (0, x1), (0, x2), (0, x3), (2, 0)] [] M (Ki P)
  refine A_aload_n (i := 0) (f := 0) (by omega) rfl (by decide +kernel) rfl ?_
  refine A_iload_n (i := 1) (f := 1) rfl (by decide +kernel) rfl ?_
  refine A_iload_n (i := 2) (f := 2) rfl (by decide +kernel) rfl ?_
  refine A_cVi (q := (RX10, TX10, 13)) (ci := 9) (o := ((0 : Nat) : Int)) (args := [(0, x1), (0, x2)]) (st := []) (by decide +kernel) cv_m10_areTwo rfl rfl in_m10_areTwo se_m10_areTwo lk_10_170 rfl (by omega) (Nat.le_of_ble_eq_true rfl) h (fun r1 M2 _ h3 => ?_)
  refine A_if_eq (off := 8) (tgt := 14) (by decide +kernel) (by omega) (fun b4 => ?_) (fun b4 => ?_)
  · have h5 := h3.1 b4
    refine A_iconst (a := (-1)) (by decide +kernel) (by unfold in32; omega) ?_
    exact A_ret ⟨by decide +kernel, Or.inl rfl⟩ ⟨_, rfl, h5⟩
  · have h6 := h3.2 b4
    refine A_iload_n (i := 3) (f := 3) rfl (by decide +kernel) rfl ?_
    refine A_iconst (a := (-1)) (by decide +kernel) (by unfold in32; omega) ?_
    refine A_ic_ge (off := 5) (tgt := 16) (by decide +kernel) (by omega) (fun b7 => ?_) (fun b7 => ?_)
    · have h8 := h6.1 b7
      refine A_iconst (a := 0) (by decide +kernel) (by unfold in32; omega) ?_
      refine A_istore (i := 4) (by decide +kernel) (by decide) (fun w h0 hw => by simp at hw; first | (rw [← hw]; decide) | (rw [← hw]; simp)) ?_
      exact A_weak (lsub.keep (lsub.keep (lsub.keep (lsub.keep (lsub.keep lsub.nil))))) h8
    · have h9 := h6.2 (Int.not_le.mp b7)
      refine A_iconst (a := (-1)) (by decide +kernel) (by unfold in32; omega) ?_
      exact A_ret ⟨by decide +kernel, Or.inl rfl⟩ ⟨_, rfl, h9⟩
theorem r_10_rise_19 {x1 : Int} {x2 : Int} {x3 : Int} {x4 : Int} {M : Mem} {P : Int → Mem → Prop} (h : ((4 ≤ x4 → (CI m1_search 7 [(11, ((52 : Nat) : Int)), (10, ((21 : Nat) : Int)), (0, x1), (0, x2), (0, (M 0 5))] M (fun r4 M5 => ((r4 = (-1) → (P (-2) M5)) ∧ (r4 ≠ (-1) → ((x3 < r4 → ((x3 ≠ (-1) → (CI m1_hearerOfStep 2 [(11, ((52 : Nat) : Int)), (0, x3), (0, r4)] M5 (fun r16 M17 => (P r16 M17)))) ∧ (x3 = (-1) → (P r4 M5)))) ∧ (r4 ≤ x3 → (P (-2) M5)))))))) ∧ (x4 < 4 → (CD m5_build 3 [(15, ((34 : Nat) : Int)), (12, ((30 : Nat) : Int)), (0, x4), (0, (M 21 2))] M (fun M20 => (CD m1_learn 3 [(11, ((52 : Nat) : Int)), (0, x4), (15, ((34 : Nat) : Int))] M20 (fun M23 => A m10_rise 8 0 19 [(19, ((0 : Nat) : Int)), (0, x1), (0, x2), (0, x3), (0, (w32 (x4 + 1)))] [] M23 (Ki P)))))))) : A m10_rise 8 0 19 [(19, ((0 : Nat) : Int)), (0, x1), (0, x2), (0, x3), (0, x4)] [] M (Ki P) := by
  refine A_iload (i := 4) (by decide +kernel) rfl ?_
  refine A_iconst (a := 4) (by decide +kernel) (by unfold in32; omega) ?_
  refine A_ic_ge (off := 42) (tgt := 64) (by decide +kernel) (by omega) (fun b1 => ?_) (fun b1 => ?_)
  · have h2 := h.1 b1
    refine A_aload_n (i := 0) (f := 0) (by omega) rfl (by decide +kernel) rfl ?_
    refine B_getr (o' := ((52 : Nat) : Int)) (q := (RX10, TX10, 13)) (ci := 9) (j := 12) (by decide +kernel) rfl (by decide) rfl (by omega) fl_10_64 rfl ?_
    refine A_aload_n (i := 0) (f := 0) (by omega) rfl (by decide +kernel) rfl ?_
    refine B_getr (o' := ((21 : Nat) : Int)) (q := (RX10, TX10, 13)) (ci := 9) (j := 2) (by decide +kernel) rfl (by decide) rfl (by omega) fl_10_19 rfl ?_
    refine A_iload_n (i := 1) (f := 1) rfl (by decide +kernel) rfl ?_
    refine A_iload_n (i := 2) (f := 2) rfl (by decide +kernel) rfl ?_
    refine A_aload_n (i := 0) (f := 0) (by omega) rfl (by decide +kernel) rfl ?_
    refine B_getp (v := (M 0 5)) (q := (RX10, TX10, 13)) (ci := 9) (j := 4) (p := 5) (by decide +kernel) rfl (by decide) rfl (Or.inl rfl) fl_10_105 rfl ?_
    refine A_cVi (q := (RX1, TX1, 9)) (ci := 1) (o := ((52 : Nat) : Int)) (args := [(10, ((21 : Nat) : Int)), (0, x1), (0, x2), (0, (M 0 5))]) (st := []) (by decide +kernel) cv_m1_search rfl rfl in_m1_search se_m1_search lk_10_318 rfl (by omega) (Nat.le_of_ble_eq_true rfl) h2 (fun r4 M5 _ h6 => ?_)
    refine A_istore (i := 4) (by decide +kernel) (by decide) (fun w h0 hw => by simp at hw; first | (rw [← hw]; decide) | (rw [← hw]; simp)) ?_
    refine A_iload (i := 4) (by decide +kernel) rfl ?_
    refine A_iconst (a := (-1)) (by decide +kernel) (by unfold in32; omega) ?_
    refine A_ic_eq (off := 9) (tgt := 95) (by decide +kernel) (by omega) (fun b7 => ?_) (fun b7 => ?_)
    · have h8 := h6.1 b7
      refine A_bipush (a := (-2)) (by decide +kernel) (by unfold in32; omega) (by decide +kernel) ?_
      exact A_ret ⟨by decide +kernel, Or.inl rfl⟩ ⟨_, rfl, h8⟩
    · have h9 := h6.2 b7
      refine A_iload_n (i := 3) (f := 3) rfl (by decide +kernel) rfl ?_
      refine A_iload (i := 4) (by decide +kernel) rfl ?_
      refine A_ic_lt (off := 6) (tgt := 98) (by decide +kernel) (by omega) (fun b10 => ?_) (fun b10 => ?_)
      · have h11 := h9.1 b10
        refine A_iload_n (i := 3) (f := 3) rfl (by decide +kernel) rfl ?_
        refine A_iconst (a := (-1)) (by decide +kernel) (by unfold in32; omega) ?_
        refine A_ic_ne (off := 8) (tgt := 108) (by decide +kernel) (by omega) (fun b13 => ?_) (fun b13 => ?_)
        · have h14 := h11.1 b13
          refine A_aload_n (i := 0) (f := 0) (by omega) rfl (by decide +kernel) rfl ?_
          refine B_getr (o' := ((52 : Nat) : Int)) (q := (RX10, TX10, 13)) (ci := 9) (j := 12) (by decide +kernel) rfl (by decide) rfl (by omega) fl_10_64 rfl ?_
          refine A_iload_n (i := 3) (f := 3) rfl (by decide +kernel) rfl ?_
          refine A_iload (i := 4) (by decide +kernel) rfl ?_
          refine A_cVi (q := (RX1, TX1, 9)) (ci := 1) (o := ((52 : Nat) : Int)) (args := [(0, x3), (0, r4)]) (st := []) (by decide +kernel) cv_m1_hearerOfStep rfl rfl in_m1_hearerOfStep se_m1_hearerOfStep lk_10_322 rfl (by omega) (Nat.le_of_ble_eq_true rfl) h14 (fun r16 M17 _ h18 => ?_)
          exact A_ret ⟨by decide +kernel, Or.inl rfl⟩ ⟨_, rfl, h18⟩
        · have h15 := h11.2 (Decidable.not_not.mp b13)
          refine A_iload (i := 4) (by decide +kernel) rfl ?_
          refine A_goto (off := 13) (tgt := 118) (by decide +kernel) (by omega) ?_
          exact A_ret ⟨by decide +kernel, Or.inl rfl⟩ ⟨_, rfl, h15⟩
      · have h12 := h9.2 (Int.not_lt.mp b10)
        refine A_bipush (a := (-2)) (by decide +kernel) (by unfold in32; omega) (by decide +kernel) ?_
        exact A_ret ⟨by decide +kernel, Or.inl rfl⟩ ⟨_, rfl, h12⟩
  · have h3 := h.2 (Int.not_le.mp b1)
    refine A_aload_n (i := 0) (f := 0) (by omega) rfl (by decide +kernel) rfl ?_
    refine B_getr (o' := ((34 : Nat) : Int)) (q := (RX10, TX10, 13)) (ci := 9) (j := 8) (by decide +kernel) rfl (by decide) rfl (by omega) fl_10_36 rfl ?_
    refine A_aload_n (i := 0) (f := 0) (by omega) rfl (by decide +kernel) rfl ?_
    refine B_getr (o' := ((30 : Nat) : Int)) (q := (RX10, TX10, 13)) (ci := 9) (j := 3) (by decide +kernel) rfl (by decide) rfl (by omega) fl_10_26 rfl ?_
    refine A_iload (i := 4) (by decide +kernel) rfl ?_
    refine A_aload_n (i := 0) (f := 0) (by omega) rfl (by decide +kernel) rfl ?_
    refine B_getr (o' := ((21 : Nat) : Int)) (q := (RX10, TX10, 13)) (ci := 9) (j := 2) (by decide +kernel) rfl (by decide) rfl (by omega) fl_10_19 rfl ?_
    refine B_getp (v := (M 21 2)) (q := (RX0, TX0, 9)) (ci := 0) (j := 2) (p := 2) (by decide +kernel) rfl (by decide) rfl (Or.inl rfl) fl_10_141 rfl ?_
    refine A_cVd (q := (RX5, TX5, 5)) (ci := 5) (o := ((34 : Nat) : Int)) (args := [(12, ((30 : Nat) : Int)), (0, x4), (0, (M 21 2))]) (st := []) (by decide +kernel) cv_m5_build rfl rfl in_m5_build se_m5_build lk_10_144 rfl (by omega) (Nat.le_of_ble_eq_true rfl) h3 (fun M20 h21 => ?_)
    refine A_aload_n (i := 0) (f := 0) (by omega) rfl (by decide +kernel) rfl ?_
    refine B_getr (o' := ((52 : Nat) : Int)) (q := (RX10, TX10, 13)) (ci := 9) (j := 12) (by decide +kernel) rfl (by decide) rfl (by omega) fl_10_64 rfl ?_
    refine A_iload (i := 4) (by decide +kernel) rfl ?_
    refine A_aload_n (i := 0) (f := 0) (by omega) rfl (by decide +kernel) rfl ?_
    refine B_getr (o' := ((34 : Nat) : Int)) (q := (RX10, TX10, 13)) (ci := 9) (j := 8) (by decide +kernel) rfl (by decide) rfl (by omega) fl_10_36 rfl ?_
    refine A_cVd (q := (RX1, TX1, 9)) (ci := 1) (o := ((52 : Nat) : Int)) (args := [(0, x4), (15, ((34 : Nat) : Int))]) (st := []) (by decide +kernel) cv_m1_learn rfl rfl in_m1_learn se_m1_learn lk_10_314 rfl (by omega) (Nat.le_of_ble_eq_true rfl) h21 (fun M23 h24 => ?_)
    refine A_iinc (i := 4) (n := 1) (by decide +kernel) (by decide) rfl (fun w h0 hw => by simp at hw; first | (rw [← hw]; decide) | (rw [← hw]; simp)) ?_
    refine A_goto (off := (-42)) (tgt := 19) (by decide +kernel) (by omega) ?_
    exact A_weak (lsub.keep (lsub.keep (lsub.keep (lsub.keep (lsub.keep lsub.nil))))) h24
theorem q_10_keep  {M : Mem} {P : Int → Mem → Prop} (h : (CD m2_take 2 [(12, ((32 : Nat) : Int)), (12, ((30 : Nat) : Int))] M (fun M2 => (P ((mset (mset M2 0 7 (M2 0 5)) 0 8 1) 30 1) (mset (mset M2 0 7 (M2 0 5)) 0 8 1))))) : CI m10_keep 3 [(19, ((0 : Nat) : Int))] M P := by
  refine CI_of (by decide +kernel) (Nat.le_of_ble_eq_true rfl) ?_
  show A m10_keep 3 0 0 [(19, ((0 : Nat) : Int))] [] M (Ki P)
  refine A_aload_n (i := 0) (f := 0) (by omega) rfl (by decide +kernel) rfl ?_
  refine B_getr (o' := ((32 : Nat) : Int)) (q := (RX10, TX10, 13)) (ci := 9) (j := 5) (by decide +kernel) rfl (by decide) rfl (by omega) fl_10_30 rfl ?_
  refine A_aload_n (i := 0) (f := 0) (by omega) rfl (by decide +kernel) rfl ?_
  refine B_getr (o' := ((30 : Nat) : Int)) (q := (RX10, TX10, 13)) (ci := 9) (j := 3) (by decide +kernel) rfl (by decide) rfl (by omega) fl_10_26 rfl ?_
  refine A_cVd (q := (RX2, TX2, 2)) (ci := 2) (o := ((32 : Nat) : Int)) (args := [(12, ((30 : Nat) : Int))]) (st := []) (by decide +kernel) cv_m2_take rfl rfl in_m2_take se_m2_take lk_10_99 rfl (by omega) (Nat.le_of_ble_eq_true rfl) h (fun M2 h3 => ?_)
  refine A_aload_n (i := 0) (f := 0) (by omega) rfl (by decide +kernel) rfl ?_
  refine A_aload_n (i := 0) (f := 0) (by omega) rfl (by decide +kernel) rfl ?_
  refine B_getp (v := (M2 0 5)) (q := (RX10, TX10, 13)) (ci := 9) (j := 4) (p := 5) (by decide +kernel) rfl (by decide) rfl (Or.inl rfl) fl_10_105 rfl ?_
  refine B_putp (M' := (mset M2 0 7 (M2 0 5))) (q := (RX10, TX10, 13)) (ci := 9) (j := 6) (p := 7) (by decide +kernel) rfl (by decide) rfl (Or.inl ⟨rfl, rfl⟩) rfl fl_10_325 rfl ?_
  refine A_aload_n (i := 0) (f := 0) (by omega) rfl (by decide +kernel) rfl ?_
  refine A_iconst (a := 1) (by decide +kernel) (by unfold in32; omega) ?_
  refine B_putp (M' := (mset (mset M2 0 7 (M2 0 5)) 0 8 1)) (q := (RX10, TX10, 13)) (ci := 9) (j := 7) (p := 8) (by decide +kernel) rfl (by decide) rfl (Or.inr ⟨rfl, rfl, by decide⟩) rfl fl_10_114 rfl ?_
  refine A_aload_n (i := 0) (f := 0) (by omega) rfl (by decide +kernel) rfl ?_
  refine B_getr (o' := ((30 : Nat) : Int)) (q := (RX10, TX10, 13)) (ci := 9) (j := 3) (by decide +kernel) rfl (by decide) rfl (by omega) fl_10_26 rfl ?_
  refine B_getp (v := ((mset (mset M2 0 7 (M2 0 5)) 0 8 1) 30 1)) (q := (RX2, TX2, 2)) (ci := 2) (j := 1) (p := 1) (by decide +kernel) rfl (by decide) rfl (Or.inl rfl) fl_10_181 rfl ?_
  exact A_ret ⟨by decide +kernel, Or.inl rfl⟩ ⟨_, rfl, h3⟩
theorem q_10_back  {M : Mem} {P : Int → Mem → Prop} (h : (((M 0 8) ≠ 0 → (CD m2_take 2 [(12, ((30 : Nat) : Int)), (12, ((32 : Nat) : Int))] M (fun M5 => (P ((mset M5 0 5 (M5 0 7)) 30 1) (mset M5 0 5 (M5 0 7)))))) ∧ ((M 0 8) = 0 → (P (-1) M)))) : CI m10_back 3 [(19, ((0 : Nat) : Int))] M P := by
  refine CI_of (by decide +kernel) (Nat.le_of_ble_eq_true rfl) ?_
  show A m10_back 3 0 0 [(19, ((0 : Nat) : Int))] [] M (Ki P)
  refine A_aload_n (i := 0) (f := 0) (by omega) rfl (by decide +kernel) rfl ?_
  refine B_getp (v := (M 0 8)) (q := (RX10, TX10, 13)) (ci := 9) (j := 7) (p := 8) (by decide +kernel) rfl (by decide) rfl (Or.inr rfl) fl_10_114 rfl ?_
  refine A_if_ne (off := 5) (tgt := 9) (by decide +kernel) (by omega) (fun b1 => ?_) (fun b1 => ?_)
  · have h2 := h.1 b1
    refine A_aload_n (i := 0) (f := 0) (by omega) rfl (by decide +kernel) rfl ?_
    refine B_getr (o' := ((30 : Nat) : Int)) (q := (RX10, TX10, 13)) (ci := 9) (j := 3) (by decide +kernel) rfl (by decide) rfl (by omega) fl_10_26 rfl ?_
    refine A_aload_n (i := 0) (f := 0) (by omega) rfl (by decide +kernel) rfl ?_
    refine B_getr (o' := ((32 : Nat) : Int)) (q := (RX10, TX10, 13)) (ci := 9) (j := 5) (by decide +kernel) rfl (by decide) rfl (by omega) fl_10_30 rfl ?_
    refine A_cVd (q := (RX2, TX2, 2)) (ci := 2) (o := ((30 : Nat) : Int)) (args := [(12, ((32 : Nat) : Int))]) (st := []) (by decide +kernel) cv_m2_take rfl rfl in_m2_take se_m2_take lk_10_99 rfl (by omega) (Nat.le_of_ble_eq_true rfl) h2 (fun M5 h6 => ?_)
    refine A_aload_n (i := 0) (f := 0) (by omega) rfl (by decide +kernel) rfl ?_
    refine A_aload_n (i := 0) (f := 0) (by omega) rfl (by decide +kernel) rfl ?_
    refine B_getp (v := (M5 0 7)) (q := (RX10, TX10, 13)) (ci := 9) (j := 6) (p := 7) (by decide +kernel) rfl (by decide) rfl (Or.inl rfl) fl_10_325 rfl ?_
    refine B_putp (M' := (mset M5 0 5 (M5 0 7))) (q := (RX10, TX10, 13)) (ci := 9) (j := 4) (p := 5) (by decide +kernel) rfl (by decide) rfl (Or.inl ⟨rfl, rfl⟩) rfl fl_10_105 rfl ?_
    refine A_aload_n (i := 0) (f := 0) (by omega) rfl (by decide +kernel) rfl ?_
    refine B_getr (o' := ((30 : Nat) : Int)) (q := (RX10, TX10, 13)) (ci := 9) (j := 3) (by decide +kernel) rfl (by decide) rfl (by omega) fl_10_26 rfl ?_
    refine B_getp (v := ((mset M5 0 5 (M5 0 7)) 30 1)) (q := (RX2, TX2, 2)) (ci := 2) (j := 1) (p := 1) (by decide +kernel) rfl (by decide) rfl (Or.inl rfl) fl_10_181 rfl ?_
    exact A_ret ⟨by decide +kernel, Or.inl rfl⟩ ⟨_, rfl, h6⟩
  · have h3 := h.2 (Decidable.not_not.mp b1)
    refine A_iconst (a := (-1)) (by decide +kernel) (by unfold in32; omega) ?_
    exact A_ret ⟨by decide +kernel, Or.inl rfl⟩ ⟨_, rfl, h3⟩
theorem q_10_count {x1 : Int} {M : Mem} {P : Int → Mem → Prop} (h : ((x1 = 0 → (P (M 21 2) M)) ∧ ((x1 = 1 → (P (M 30 1) M)) ∧ ((x1 = 2 → (P (M 21 4) M)) ∧ ((x1 = 3 → (P (M 25 5) M)) ∧ ((x1 = 4 → (P (M 0 5) M)) ∧ ((x1 = 5 → (P (M 43 5) M)) ∧ ((x1 = 6 → (CI m4_knownCount 1 [(14, ((43 : Nat) : Int))] M (fun r9 M10 => (P r9 M10)))) ∧ ((x1 = 7 → (CI m2_countLiving 3 [(12, ((30 : Nat) : Int))] M (fun r13 M14 => (P r13 M14)))) ∧ ((x1 < 0 ∨ 7 < x1) → (P (-1) M))))))))))) : CI m10_count 4 [(19, ((0 : Nat) : Int)), (0, x1)] M P := by
  refine CI_of (by decide +kernel) (Nat.le_of_ble_eq_true rfl) ?_
  show A m10_count 4 0 0 [(19, ((0 : Nat) : Int)), (0, x1)] [] M (Ki P)
  refine A_iload_n (i := 1) (f := 1) rfl (by decide +kernel) rfl ?_
  have hsw : x1 = 0 ∨ x1 = 1 ∨ x1 = 2 ∨ x1 = 3 ∨ x1 = 4 ∨ x1 = 5 ∨ x1 = 6 ∨ x1 = 7 ∨ (x1 < 0 ∨ 7 < x1) := by omega
  rcases hsw with e1 | e1 | e1 | e1 | e1 | e1 | e1 | e1 | e1
  · have h2 := h.1 e1
    refine A_tin (len := 47) (dflt := 111) (lo := 0) (hi := 7) (offs := #[47, 55, 63, 71, 82, 87, 95, 103]) (off := 47) (tgt := 48) (by decide +kernel) (by omega) (by omega) (by rw [e1]; rfl) (by omega) ?_
    refine A_aload_n (i := 0) (f := 0) (by omega) rfl (by decide +kernel) rfl ?_
    refine B_getr (o' := ((21 : Nat) : Int)) (q := (RX10, TX10, 13)) (ci := 9) (j := 2) (by decide +kernel) rfl (by decide) rfl (by omega) fl_10_19 rfl ?_
    refine B_getp (v := (M 21 2)) (q := (RX0, TX0, 9)) (ci := 0) (j := 2) (p := 2) (by decide +kernel) rfl (by decide) rfl (Or.inl rfl) fl_10_141 rfl ?_
    exact A_ret ⟨by decide +kernel, Or.inl rfl⟩ ⟨_, rfl, h2⟩
  · have h3 := h.2.1 e1
    refine A_tin (len := 47) (dflt := 111) (lo := 0) (hi := 7) (offs := #[47, 55, 63, 71, 82, 87, 95, 103]) (off := 55) (tgt := 56) (by decide +kernel) (by omega) (by omega) (by rw [e1]; rfl) (by omega) ?_
    refine A_aload_n (i := 0) (f := 0) (by omega) rfl (by decide +kernel) rfl ?_
    refine B_getr (o' := ((30 : Nat) : Int)) (q := (RX10, TX10, 13)) (ci := 9) (j := 3) (by decide +kernel) rfl (by decide) rfl (by omega) fl_10_26 rfl ?_
    refine B_getp (v := (M 30 1)) (q := (RX2, TX2, 2)) (ci := 2) (j := 1) (p := 1) (by decide +kernel) rfl (by decide) rfl (Or.inl rfl) fl_10_181 rfl ?_
    exact A_ret ⟨by decide +kernel, Or.inl rfl⟩ ⟨_, rfl, h3⟩
  · have h4 := h.2.2.1 e1
    refine A_tin (len := 47) (dflt := 111) (lo := 0) (hi := 7) (offs := #[47, 55, 63, 71, 82, 87, 95, 103]) (off := 63) (tgt := 64) (by decide +kernel) (by omega) (by omega) (by rw [e1]; rfl) (by omega) ?_
    refine A_aload_n (i := 0) (f := 0) (by omega) rfl (by decide +kernel) rfl ?_
    refine B_getr (o' := ((21 : Nat) : Int)) (q := (RX10, TX10, 13)) (ci := 9) (j := 2) (by decide +kernel) rfl (by decide) rfl (by omega) fl_10_19 rfl ?_
    refine B_getp (v := (M 21 4)) (q := (RX0, TX0, 9)) (ci := 0) (j := 4) (p := 4) (by decide +kernel) rfl (by decide) rfl (Or.inl rfl) fl_10_227 rfl ?_
    exact A_ret ⟨by decide +kernel, Or.inl rfl⟩ ⟨_, rfl, h4⟩
  · have h5 := h.2.2.2.1 e1
    refine A_tin (len := 47) (dflt := 111) (lo := 0) (hi := 7) (offs := #[47, 55, 63, 71, 82, 87, 95, 103]) (off := 71) (tgt := 72) (by decide +kernel) (by omega) (by omega) (by rw [e1]; rfl) (by omega) ?_
    refine A_aload_n (i := 0) (f := 0) (by omega) rfl (by decide +kernel) rfl ?_
    refine B_getr (o' := ((21 : Nat) : Int)) (q := (RX10, TX10, 13)) (ci := 9) (j := 2) (by decide +kernel) rfl (by decide) rfl (by omega) fl_10_19 rfl ?_
    refine B_getr (o' := ((25 : Nat) : Int)) (q := (RX0, TX0, 9)) (ci := 0) (j := 5) (by decide +kernel) rfl (by decide) rfl (by omega) fl_10_232 rfl ?_
    refine B_getp (v := (M 25 5)) (q := (RX3, TX3, 6)) (ci := 3) (j := 5) (p := 5) (by decide +kernel) rfl (by decide) rfl (Or.inl rfl) fl_10_328 rfl ?_
    exact A_ret ⟨by decide +kernel, Or.inl rfl⟩ ⟨_, rfl, h5⟩
  · have h6 := h.2.2.2.2.1 e1
    refine A_tin (len := 47) (dflt := 111) (lo := 0) (hi := 7) (offs := #[47, 55, 63, 71, 82, 87, 95, 103]) (off := 82) (tgt := 83) (by decide +kernel) (by omega) (by omega) (by rw [e1]; rfl) (by omega) ?_
    refine A_aload_n (i := 0) (f := 0) (by omega) rfl (by decide +kernel) rfl ?_
    refine B_getp (v := (M 0 5)) (q := (RX10, TX10, 13)) (ci := 9) (j := 4) (p := 5) (by decide +kernel) rfl (by decide) rfl (Or.inl rfl) fl_10_105 rfl ?_
    exact A_ret ⟨by decide +kernel, Or.inl rfl⟩ ⟨_, rfl, h6⟩
  · have h7 := h.2.2.2.2.2.1 e1
    refine A_tin (len := 47) (dflt := 111) (lo := 0) (hi := 7) (offs := #[47, 55, 63, 71, 82, 87, 95, 103]) (off := 87) (tgt := 88) (by decide +kernel) (by omega) (by omega) (by rw [e1]; rfl) (by omega) ?_
    refine A_aload_n (i := 0) (f := 0) (by omega) rfl (by decide +kernel) rfl ?_
    refine B_getr (o' := ((43 : Nat) : Int)) (q := (RX10, TX10, 13)) (ci := 9) (j := 10) (by decide +kernel) rfl (by decide) rfl (by omega) fl_10_50 rfl ?_
    refine B_getp (v := (M 43 5)) (q := (RX4, TX4, 7)) (ci := 4) (j := 5) (p := 5) (by decide +kernel) rfl (by decide) rfl (Or.inl rfl) fl_10_276 rfl ?_
    exact A_ret ⟨by decide +kernel, Or.inl rfl⟩ ⟨_, rfl, h7⟩
  · have h8 := h.2.2.2.2.2.2.1 e1
    refine A_tin (len := 47) (dflt := 111) (lo := 0) (hi := 7) (offs := #[47, 55, 63, 71, 82, 87, 95, 103]) (off := 95) (tgt := 96) (by decide +kernel) (by omega) (by omega) (by rw [e1]; rfl) (by omega) ?_
    refine A_aload_n (i := 0) (f := 0) (by omega) rfl (by decide +kernel) rfl ?_
    refine B_getr (o' := ((43 : Nat) : Int)) (q := (RX10, TX10, 13)) (ci := 9) (j := 10) (by decide +kernel) rfl (by decide) rfl (by omega) fl_10_50 rfl ?_
    refine A_cVi (q := (RX4, TX4, 7)) (ci := 4) (o := ((43 : Nat) : Int)) (args := []) (st := []) (by decide +kernel) cv_m4_knownCount rfl rfl in_m4_knownCount se_m4_knownCount lk_10_331 rfl (by omega) (Nat.le_of_ble_eq_true rfl) h8 (fun r9 M10 _ h11 => ?_)
    exact A_ret ⟨by decide +kernel, Or.inl rfl⟩ ⟨_, rfl, h11⟩
  · have h12 := h.2.2.2.2.2.2.2.1 e1
    refine A_tin (len := 47) (dflt := 111) (lo := 0) (hi := 7) (offs := #[47, 55, 63, 71, 82, 87, 95, 103]) (off := 103) (tgt := 104) (by decide +kernel) (by omega) (by omega) (by rw [e1]; rfl) (by omega) ?_
    refine A_aload_n (i := 0) (f := 0) (by omega) rfl (by decide +kernel) rfl ?_
    refine B_getr (o' := ((30 : Nat) : Int)) (q := (RX10, TX10, 13)) (ci := 9) (j := 3) (by decide +kernel) rfl (by decide) rfl (by omega) fl_10_26 rfl ?_
    refine A_cVi (q := (RX2, TX2, 2)) (ci := 2) (o := ((30 : Nat) : Int)) (args := []) (st := []) (by decide +kernel) cv_m2_countLiving rfl rfl in_m2_countLiving se_m2_countLiving lk_10_335 rfl (by omega) (Nat.le_of_ble_eq_true rfl) h12 (fun r13 M14 _ h15 => ?_)
    exact A_ret ⟨by decide +kernel, Or.inl rfl⟩ ⟨_, rfl, h15⟩
  · have h16 := h.2.2.2.2.2.2.2.2 e1
    refine A_tout (len := 47) (dflt := 111) (lo := 0) (hi := 7) (offs := #[47, 55, 63, 71, 82, 87, 95, 103]) (tgt := 112) (by decide +kernel) e1 (by omega) ?_
    refine A_iconst (a := (-1)) (by decide +kernel) (by unfold in32; omega) ?_
    exact A_ret ⟨by decide +kernel, Or.inl rfl⟩ ⟨_, rfl, h16⟩
theorem q_10_layBytes {x1 : Int} {M : Mem} {P : Mem → Prop} (h : A m10_layBytes 2 0 3 [(19, ((0 : Nat) : Int)), (0, x1), (0, 24)] [] M (Kd P)) : CD m10_layBytes 2 [(19, ((0 : Nat) : Int)), (0, x1)] M P := by
  refine CD_of (by decide +kernel) (Nat.le_of_ble_eq_true rfl) ?_
  show A m10_layBytes 2 0 0 [(19, ((0 : Nat) : Int)), (0, x1), (2, 0)] [] M (Kd P)
  refine A_bipush (a := 24) (by decide +kernel) (by unfold in32; omega) (by decide +kernel) ?_
  refine A_istore_n (i := 2) (f := 2) rfl (by decide +kernel) (by decide) (fun w h0 hw => by simp at hw; first | (rw [← hw]; decide) | (rw [← hw]; simp)) ?_
  exact A_weak (lsub.keep (lsub.keep (lsub.keep lsub.nil))) h
theorem r_10_layBytes_3 {x1 : Int} {x2 : Int} {M : Mem} {P : Mem → Prop} (h : ((x2 < 0 → (P M)) ∧ (0 ≤ x2 → (CD m10_put 1 [(30, ((1 : Nat) : Int)), (0, (M 0 1)), (0, (iand (iushr x1 x2) 255))] M (fun M5 => A m10_layBytes 2 0 3 [(19, ((0 : Nat) : Int)), (0, x1), (0, (w32 (x2 + (-8))))] [] (mset M5 0 1 (w32 ((M5 0 1) + 1))) (Kd P)))))) : A m10_layBytes 2 0 3 [(19, ((0 : Nat) : Int)), (0, x1), (0, x2)] [] M (Kd P) := by
  refine A_iload_n (i := 2) (f := 2) rfl (by decide +kernel) rfl ?_
  refine A_if_lt (off := 40) (tgt := 44) (by decide +kernel) (by omega) (fun b1 => ?_) (fun b1 => ?_)
  · have h2 := h.1 b1
    exact A_ret ⟨by decide +kernel, rfl⟩ ⟨rfl, h2⟩
  · have h3 := h.2 (Int.not_lt.mp b1)
    refine A_aload_n (i := 0) (f := 0) (by omega) rfl (by decide +kernel) rfl ?_
    refine B_getr (o' := ((2 : Nat) : Int)) (q := (RX10, TX10, 13)) (ci := 9) (j := 0) (by decide +kernel) rfl (by decide) rfl (by omega) fl_10_10 rfl ?_
    refine B_getr (o' := ((1 : Nat) : Int)) (q := (RX7, TX7, 18)) (ci := 7) (j := 0) (by decide +kernel) rfl (by decide) rfl (by omega) fl_10_338 rfl ?_
    refine A_aload_n (i := 0) (f := 0) (by omega) rfl (by decide +kernel) rfl ?_
    refine B_getp (v := (M 0 1)) (q := (RX10, TX10, 13)) (ci := 9) (j := 1) (p := 1) (by decide +kernel) rfl (by decide) rfl (Or.inl rfl) fl_10_68 rfl ?_
    refine A_iload_n (i := 1) (f := 1) rfl (by decide +kernel) rfl ?_
    refine A_iload_n (i := 2) (f := 2) rfl (by decide +kernel) rfl ?_
    refine A_iushr (by decide +kernel) ?_
    refine A_sipush (a := 255) (by decide +kernel) (by unfold in32; omega) (by decide +kernel) ?_
    refine A_iand (by decide +kernel) ?_
    refine A_cSd (args := [(30, ((1 : Nat) : Int)), (0, (M 0 1)), (0, (iand (iushr x1 x2) 255))]) (st := []) (by decide +kernel) cv_m10_put st_m10_put lk_10_341 rfl (by omega) (Nat.le_of_ble_eq_true rfl) h3 (fun M5 h6 => ?_)
    refine A_aload_n (i := 0) (f := 0) (by omega) rfl (by decide +kernel) rfl ?_
    refine A_dup (by decide +kernel) (by simp) ?_
    refine B_getp (v := (M5 0 1)) (q := (RX10, TX10, 13)) (ci := 9) (j := 1) (p := 1) (by decide +kernel) rfl (by decide) rfl (Or.inl rfl) fl_10_68 rfl ?_
    refine A_iconst (a := 1) (by decide +kernel) (by unfold in32; omega) ?_
    refine A_iadd (by decide +kernel) ?_
    refine B_putp (M' := (mset M5 0 1 (w32 ((M5 0 1) + 1)))) (q := (RX10, TX10, 13)) (ci := 9) (j := 1) (p := 1) (by decide +kernel) rfl (by decide) rfl (Or.inl ⟨rfl, rfl⟩) rfl fl_10_68 rfl ?_
    refine A_iinc (i := 2) (n := (-8)) (by decide +kernel) (by decide) rfl (fun w h0 hw => by simp at hw; first | (rw [← hw]; decide) | (rw [← hw]; simp)) ?_
    refine A_goto (off := (-38)) (tgt := 3) (by decide +kernel) (by omega) ?_
    exact A_weak (lsub.keep (lsub.keep (lsub.keep lsub.nil))) h6
theorem q_10_isPerson {x1 : Int} {M : Mem} {P : Int → Mem → Prop} (h : ((x1 < 0 → (P 0 M)) ∧ (0 ≤ x1 → (((M 21 2) ≤ x1 → (P 0 M)) ∧ (x1 < (M 21 2) → (P 1 M)))))) : CI m10_isPerson 1 [(19, ((0 : Nat) : Int)), (0, x1)] M P := by
  refine CI_of (by decide +kernel) (Nat.le_of_ble_eq_true rfl) ?_
  show A m10_isPerson 1 0 0 [(19, ((0 : Nat) : Int)), (0, x1)] [] M (Ki P)
  refine A_iload_n (i := 1) (f := 1) rfl (by decide +kernel) rfl ?_
  refine A_if_lt (off := 18) (tgt := 19) (by decide +kernel) (by omega) (fun b1 => ?_) (fun b1 => ?_)
  · have h2 := h.1 b1
    refine A_iconst (a := 0) (by decide +kernel) (by unfold in32; omega) ?_
    exact A_ret ⟨by decide +kernel, Or.inr ⟨rfl, by decide⟩⟩ ⟨_, rfl, h2⟩
  · have h3 := h.2 (Int.not_lt.mp b1)
    refine A_iload_n (i := 1) (f := 1) rfl (by decide +kernel) rfl ?_
    refine A_aload_n (i := 0) (f := 0) (by omega) rfl (by decide +kernel) rfl ?_
    refine B_getr (o' := ((21 : Nat) : Int)) (q := (RX10, TX10, 13)) (ci := 9) (j := 2) (by decide +kernel) rfl (by decide) rfl (by omega) fl_10_19 rfl ?_
    refine B_getp (v := (M 21 2)) (q := (RX0, TX0, 9)) (ci := 0) (j := 2) (p := 2) (by decide +kernel) rfl (by decide) rfl (Or.inl rfl) fl_10_141 rfl ?_
    refine A_ic_ge (off := 7) (tgt := 19) (by decide +kernel) (by omega) (fun b4 => ?_) (fun b4 => ?_)
    · have h5 := h3.1 b4
      refine A_iconst (a := 0) (by decide +kernel) (by unfold in32; omega) ?_
      exact A_ret ⟨by decide +kernel, Or.inr ⟨rfl, by decide⟩⟩ ⟨_, rfl, h5⟩
    · have h6 := h3.2 (Int.not_le.mp b4)
      refine A_iconst (a := 1) (by decide +kernel) (by unfold in32; omega) ?_
      refine A_goto (off := 4) (tgt := 20) (by decide +kernel) (by omega) ?_
      exact A_ret ⟨by decide +kernel, Or.inr ⟨rfl, by decide⟩⟩ ⟨_, rfl, h6⟩
theorem q_10_areTwo {x1 : Int} {x2 : Int} {M : Mem} {P : Int → Mem → Prop} (h : (CI m10_isPerson 1 [(19, ((0 : Nat) : Int)), (0, x1)] M (fun r1 M2 => ((r1 = 0 → (P 0 M2)) ∧ (r1 ≠ 0 → (CI m10_isPerson 1 [(19, ((0 : Nat) : Int)), (0, x2)] M2 (fun r7 M8 => ((r7 = 0 → (P 0 M8)) ∧ (r7 ≠ 0 → ((x1 = x2 → (P 0 M8)) ∧ (x1 ≠ x2 → (P 1 M8)))))))))))) : CI m10_areTwo 2 [(19, ((0 : Nat) : Int)), (0, x1), (0, x2)] M P := by
  refine CI_of (by decide +kernel) (Nat.le_of_ble_eq_true rfl) ?_
  show A m10_areTwo 2 0 0 [(19, ((0 : Nat) : Int)), (0, x1), (0, x2)] [] M (Ki P)
  refine A_aload_n (i := 0) (f := 0) (by omega) rfl (by decide +kernel) rfl ?_
  refine A_iload_n (i := 1) (f := 1) rfl (by decide +kernel) rfl ?_
  refine A_cVi (q := (RX10, TX10, 13)) (ci := 9) (o := ((0 : Nat) : Int)) (args := [(0, x1)]) (st := []) (by decide +kernel) cv_m10_isPerson rfl rfl in_m10_isPerson se_m10_isPerson lk_10_131 rfl (by omega) (Nat.le_of_ble_eq_true rfl) h (fun r1 M2 _ h3 => ?_)
  refine A_if_eq (off := 20) (tgt := 25) (by decide +kernel) (by omega) (fun b4 => ?_) (fun b4 => ?_)
  · have h5 := h3.1 b4
    refine A_iconst (a := 0) (by decide +kernel) (by unfold in32; omega) ?_
    exact A_ret ⟨by decide +kernel, Or.inr ⟨rfl, by decide⟩⟩ ⟨_, rfl, h5⟩
  · have h6 := h3.2 b4
    refine A_aload_n (i := 0) (f := 0) (by omega) rfl (by decide +kernel) rfl ?_
    refine A_iload_n (i := 2) (f := 2) rfl (by decide +kernel) rfl ?_
    refine A_cVi (q := (RX10, TX10, 13)) (ci := 9) (o := ((0 : Nat) : Int)) (args := [(0, x2)]) (st := []) (by decide +kernel) cv_m10_isPerson rfl rfl in_m10_isPerson se_m10_isPerson lk_10_131 rfl (by omega) (Nat.le_of_ble_eq_true rfl) h6 (fun r7 M8 _ h9 => ?_)
    refine A_if_eq (off := 12) (tgt := 25) (by decide +kernel) (by omega) (fun b10 => ?_) (fun b10 => ?_)
    · have h11 := h9.1 b10
      refine A_iconst (a := 0) (by decide +kernel) (by unfold in32; omega) ?_
      exact A_ret ⟨by decide +kernel, Or.inr ⟨rfl, by decide⟩⟩ ⟨_, rfl, h11⟩
    · have h12 := h9.2 b10
      refine A_iload_n (i := 1) (f := 1) rfl (by decide +kernel) rfl ?_
      refine A_iload_n (i := 2) (f := 2) rfl (by decide +kernel) rfl ?_
      refine A_ic_eq (off := 7) (tgt := 25) (by decide +kernel) (by omega) (fun b13 => ?_) (fun b13 => ?_)
      · have h14 := h12.1 b13
        refine A_iconst (a := 0) (by decide +kernel) (by unfold in32; omega) ?_
        exact A_ret ⟨by decide +kernel, Or.inr ⟨rfl, by decide⟩⟩ ⟨_, rfl, h14⟩
      · have h15 := h12.2 b13
        refine A_iconst (a := 1) (by decide +kernel) (by unfold in32; omega) ?_
        refine A_goto (off := 4) (tgt := 26) (by decide +kernel) (by omega) ?_
        exact A_ret ⟨by decide +kernel, Or.inr ⟨rfl, by decide⟩⟩ ⟨_, rfl, h15⟩
theorem q_10_isSaying {x1 : Int} {x2 : Int} {x3 : Int} {M : Mem} {P : Int → Mem → Prop} (h : (CI m10_areTwo 2 [(19, ((0 : Nat) : Int)), (0, x1), (0, x2)] M (fun r1 M2 => ((r1 = 0 → (P 0 M2)) ∧ (r1 ≠ 0 → (CI m10_areTwo 2 [(19, ((0 : Nat) : Int)), (0, x1), (0, x3)] M2 (fun r7 M8 => ((r7 = 0 → (P 0 M8)) ∧ (r7 ≠ 0 → (P 1 M8)))))))))) : CI m10_isSaying 3 [(19, ((0 : Nat) : Int)), (0, x1), (0, x2), (0, x3)] M P := by
  refine CI_of (by decide +kernel) (Nat.le_of_ble_eq_true rfl) ?_
  show A m10_isSaying 3 0 0 [(19, ((0 : Nat) : Int)), (0, x1), (0, x2), (0, x3)] [] M (Ki P)
  refine A_aload_n (i := 0) (f := 0) (by omega) rfl (by decide +kernel) rfl ?_
  refine A_iload_n (i := 1) (f := 1) rfl (by decide +kernel) rfl ?_
  refine A_iload_n (i := 2) (f := 2) rfl (by decide +kernel) rfl ?_
  refine A_cVi (q := (RX10, TX10, 13)) (ci := 9) (o := ((0 : Nat) : Int)) (args := [(0, x1), (0, x2)]) (st := []) (by decide +kernel) cv_m10_areTwo rfl rfl in_m10_areTwo se_m10_areTwo lk_10_170 rfl (by omega) (Nat.le_of_ble_eq_true rfl) h (fun r1 M2 _ h3 => ?_)
  refine A_if_eq (off := 16) (tgt := 22) (by decide +kernel) (by omega) (fun b4 => ?_) (fun b4 => ?_)
  · have h5 := h3.1 b4
    refine A_iconst (a := 0) (by decide +kernel) (by unfold in32; omega) ?_
    exact A_ret ⟨by decide +kernel, Or.inr ⟨rfl, by decide⟩⟩ ⟨_, rfl, h5⟩
  · have h6 := h3.2 b4
    refine A_aload_n (i := 0) (f := 0) (by omega) rfl (by decide +kernel) rfl ?_
    refine A_iload_n (i := 1) (f := 1) rfl (by decide +kernel) rfl ?_
    refine A_iload_n (i := 3) (f := 3) rfl (by decide +kernel) rfl ?_
    refine A_cVi (q := (RX10, TX10, 13)) (ci := 9) (o := ((0 : Nat) : Int)) (args := [(0, x1), (0, x3)]) (st := []) (by decide +kernel) cv_m10_areTwo rfl rfl in_m10_areTwo se_m10_areTwo lk_10_170 rfl (by omega) (Nat.le_of_ble_eq_true rfl) h6 (fun r7 M8 _ h9 => ?_)
    refine A_if_eq (off := 7) (tgt := 22) (by decide +kernel) (by omega) (fun b10 => ?_) (fun b10 => ?_)
    · have h11 := h9.1 b10
      refine A_iconst (a := 0) (by decide +kernel) (by unfold in32; omega) ?_
      exact A_ret ⟨by decide +kernel, Or.inr ⟨rfl, by decide⟩⟩ ⟨_, rfl, h11⟩
    · have h12 := h9.2 b10
      refine A_iconst (a := 1) (by decide +kernel) (by unfold in32; omega) ?_
      refine A_goto (off := 4) (tgt := 23) (by decide +kernel) (by omega) ?_
      exact A_ret ⟨by decide +kernel, Or.inr ⟨rfl, by decide⟩⟩ ⟨_, rfl, h12⟩
theorem q_10_isHall {x1 : Int} {x2 : Int} {x3 : Int} {M : Mem} {P : Int → Mem → Prop} (h : (CI m10_areTwo 2 [(19, ((0 : Nat) : Int)), (0, x1), (0, x3)] M (fun r1 M2 => ((r1 = 0 → (P 0 M2)) ∧ (r1 ≠ 0 → ((0 < x2 → (((ishr x2 (M2 21 2)) ≠ 0 → (P 0 M2)) ∧ ((ishr x2 (M2 21 2)) = 0 → (((iand (ishr x2 x1) 1) ≠ 0 → (P 0 M2)) ∧ ((iand (ishr x2 x1) 1) = 0 → (P 1 M2)))))) ∧ (x2 ≤ 0 → (P 0 M2)))))))) : CI m10_isHall 3 [(19, ((0 : Nat) : Int)), (0, x1), (0, x2), (0, x3)] M P := by
  refine CI_of (by decide +kernel) (Nat.le_of_ble_eq_true rfl) ?_
  show A m10_isHall 3 0 0 [(19, ((0 : Nat) : Int)), (0, x1), (0, x2), (0, x3)] [] M (Ki P)
  refine A_aload_n (i := 0) (f := 0) (by omega) rfl (by decide +kernel) rfl ?_
  refine A_iload_n (i := 1) (f := 1) rfl (by decide +kernel) rfl ?_
  refine A_iload_n (i := 3) (f := 3) rfl (by decide +kernel) rfl ?_
  refine A_cVi (q := (RX10, TX10, 13)) (ci := 9) (o := ((0 : Nat) : Int)) (args := [(0, x1), (0, x3)]) (st := []) (by decide +kernel) cv_m10_areTwo rfl rfl in_m10_areTwo se_m10_areTwo lk_10_170 rfl (by omega) (Nat.le_of_ble_eq_true rfl) h (fun r1 M2 _ h3 => ?_)
  refine A_if_eq (off := 7) (tgt := 13) (by decide +kernel) (by omega) (fun b4 => ?_) (fun b4 => ?_)
  · have h5 := h3.1 b4
    refine A_iconst (a := 0) (by decide +kernel) (by unfold in32; omega) ?_
    exact A_ret ⟨by decide +kernel, Or.inr ⟨rfl, by decide⟩⟩ ⟨_, rfl, h5⟩
  · have h6 := h3.2 b4
    refine A_iload_n (i := 2) (f := 2) rfl (by decide +kernel) rfl ?_
    refine A_if_gt (off := 5) (tgt := 15) (by decide +kernel) (by omega) (fun b7 => ?_) (fun b7 => ?_)
    · have h8 := h6.1 b7
      refine A_iload_n (i := 2) (f := 2) rfl (by decide +kernel) rfl ?_
      refine A_aload_n (i := 0) (f := 0) (by omega) rfl (by decide +kernel) rfl ?_
      refine B_getr (o' := ((21 : Nat) : Int)) (q := (RX10, TX10, 13)) (ci := 9) (j := 2) (by decide +kernel) rfl (by decide) rfl (by omega) fl_10_19 rfl ?_
      refine B_getp (v := (M2 21 2)) (q := (RX0, TX0, 9)) (ci := 0) (j := 2) (p := 2) (by decide +kernel) rfl (by decide) rfl (Or.inl rfl) fl_10_141 rfl ?_
      refine A_ishr (by decide +kernel) ?_
      refine A_if_ne (off := 15) (tgt := 39) (by decide +kernel) (by omega) (fun b10 => ?_) (fun b10 => ?_)
      · have h11 := h8.1 b10
        refine A_iconst (a := 0) (by decide +kernel) (by unfold in32; omega) ?_
        exact A_ret ⟨by decide +kernel, Or.inr ⟨rfl, by decide⟩⟩ ⟨_, rfl, h11⟩
      · have h12 := h8.2 (Decidable.not_not.mp b10)
        refine A_iload_n (i := 2) (f := 2) rfl (by decide +kernel) rfl ?_
        refine A_iload_n (i := 1) (f := 1) rfl (by decide +kernel) rfl ?_
        refine A_ishr (by decide +kernel) ?_
        refine A_iconst (a := 1) (by decide +kernel) (by unfold in32; omega) ?_
        refine A_iand (by decide +kernel) ?_
        refine A_if_ne (off := 7) (tgt := 39) (by decide +kernel) (by omega) (fun b13 => ?_) (fun b13 => ?_)
        · have h14 := h12.1 b13
          refine A_iconst (a := 0) (by decide +kernel) (by unfold in32; omega) ?_
          exact A_ret ⟨by decide +kernel, Or.inr ⟨rfl, by decide⟩⟩ ⟨_, rfl, h14⟩
        · have h15 := h12.2 (Decidable.not_not.mp b13)
          refine A_iconst (a := 1) (by decide +kernel) (by unfold in32; omega) ?_
          refine A_goto (off := 4) (tgt := 40) (by decide +kernel) (by omega) ?_
          exact A_ret ⟨by decide +kernel, Or.inr ⟨rfl, by decide⟩⟩ ⟨_, rfl, h15⟩
    · have h9 := h6.2 (Int.not_lt.mp b7)
      refine A_iconst (a := 0) (by decide +kernel) (by unfold in32; omega) ?_
      exact A_ret ⟨by decide +kernel, Or.inr ⟨rfl, by decide⟩⟩ ⟨_, rfl, h9⟩
theorem q_10_meetNow {x1 : Int} {x2 : Int} {x3 : Int} {M : Mem} {P : Mem → Prop} (h : (CD m5_build 3 [(15, ((34 : Nat) : Int)), (12, ((30 : Nat) : Int)), (0, (M 0 5)), (0, (M 21 2))] M (fun M2 => (CD m9_meet 2 [(18, ((39 : Nat) : Int)), (10, ((21 : Nat) : Int)), (0, x1), (0, x2), (0, x3), (0, (M2 0 5))] M2 (fun M5 => (CD m9_standBy 4 [(18, ((39 : Nat) : Int)), (15, ((34 : Nat) : Int)), (0, x1), (0, x2), (0, x3)] M5 (fun M8 => (P M8)))))))) : CD m10_meetNow 5 [(19, ((0 : Nat) : Int)), (0, x1), (0, x2), (0, x3)] M P := by
  refine CD_of (by decide +kernel) (Nat.le_of_ble_eq_true rfl) ?_
  show A m10_meetNow 5 0 0 [(19, ((0 : Nat) : Int)), (0, x1), (0, x2), (0, x3)] [] M (Kd P)
  refine A_aload_n (i := 0) (f := 0) (by omega) rfl (by decide +kernel) rfl ?_
  refine B_getr (o' := ((34 : Nat) : Int)) (q := (RX10, TX10, 13)) (ci := 9) (j := 8) (by decide +kernel) rfl (by decide) rfl (by omega) fl_10_36 rfl ?_
  refine A_aload_n (i := 0) (f := 0) (by omega) rfl (by decide +kernel) rfl ?_
  refine B_getr (o' := ((30 : Nat) : Int)) (q := (RX10, TX10, 13)) (ci := 9) (j := 3) (by decide +kernel) rfl (by decide) rfl (by omega) fl_10_26 rfl ?_
  refine A_aload_n (i := 0) (f := 0) (by omega) rfl (by decide +kernel) rfl ?_
  refine B_getp (v := (M 0 5)) (q := (RX10, TX10, 13)) (ci := 9) (j := 4) (p := 5) (by decide +kernel) rfl (by decide) rfl (Or.inl rfl) fl_10_105 rfl ?_
  refine A_aload_n (i := 0) (f := 0) (by omega) rfl (by decide +kernel) rfl ?_
  refine B_getr (o' := ((21 : Nat) : Int)) (q := (RX10, TX10, 13)) (ci := 9) (j := 2) (by decide +kernel) rfl (by decide) rfl (by omega) fl_10_19 rfl ?_
  refine B_getp (v := (M 21 2)) (q := (RX0, TX0, 9)) (ci := 0) (j := 2) (p := 2) (by decide +kernel) rfl (by decide) rfl (Or.inl rfl) fl_10_141 rfl ?_
  refine A_cVd (q := (RX5, TX5, 5)) (ci := 5) (o := ((34 : Nat) : Int)) (args := [(12, ((30 : Nat) : Int)), (0, (M 0 5)), (0, (M 21 2))]) (st := []) (by decide +kernel) cv_m5_build rfl rfl in_m5_build se_m5_build lk_10_144 rfl (by omega) (Nat.le_of_ble_eq_true rfl) h (fun M2 h3 => ?_)
  refine A_aload_n (i := 0) (f := 0) (by omega) rfl (by decide +kernel) rfl ?_
  refine B_getr (o' := ((39 : Nat) : Int)) (q := (RX10, TX10, 13)) (ci := 9) (j := 9) (by decide +kernel) rfl (by decide) rfl (by omega) fl_10_43 rfl ?_
  refine A_aload_n (i := 0) (f := 0) (by omega) rfl (by decide +kernel) rfl ?_
  refine B_getr (o' := ((21 : Nat) : Int)) (q := (RX10, TX10, 13)) (ci := 9) (j := 2) (by decide +kernel) rfl (by decide) rfl (by omega) fl_10_19 rfl ?_
  refine A_iload_n (i := 1) (f := 1) rfl (by decide +kernel) rfl ?_
  refine A_iload_n (i := 2) (f := 2) rfl (by decide +kernel) rfl ?_
  refine A_iload_n (i := 3) (f := 3) rfl (by decide +kernel) rfl ?_
  refine A_aload_n (i := 0) (f := 0) (by omega) rfl (by decide +kernel) rfl ?_
  refine B_getp (v := (M2 0 5)) (q := (RX10, TX10, 13)) (ci := 9) (j := 4) (p := 5) (by decide +kernel) rfl (by decide) rfl (Or.inl rfl) fl_10_105 rfl ?_
  refine A_cVd (q := (RX9, TX9, 3)) (ci := 8) (o := ((39 : Nat) : Int)) (args := [(10, ((21 : Nat) : Int)), (0, x1), (0, x2), (0, x3), (0, (M2 0 5))]) (st := []) (by decide +kernel) cv_m9_meet rfl rfl in_m9_meet se_m9_meet lk_10_277 rfl (by omega) (Nat.le_of_ble_eq_true rfl) h3 (fun M5 h6 => ?_)
  refine A_aload_n (i := 0) (f := 0) (by omega) rfl (by decide +kernel) rfl ?_
  refine B_getr (o' := ((39 : Nat) : Int)) (q := (RX10, TX10, 13)) (ci := 9) (j := 9) (by decide +kernel) rfl (by decide) rfl (by omega) fl_10_43 rfl ?_
  refine A_aload_n (i := 0) (f := 0) (by omega) rfl (by decide +kernel) rfl ?_
  refine B_getr (o' := ((34 : Nat) : Int)) (q := (RX10, TX10, 13)) (ci := 9) (j := 8) (by decide +kernel) rfl (by decide) rfl (by omega) fl_10_36 rfl ?_
  refine A_iload_n (i := 1) (f := 1) rfl (by decide +kernel) rfl ?_
  refine A_iload_n (i := 2) (f := 2) rfl (by decide +kernel) rfl ?_
  refine A_iload_n (i := 3) (f := 3) rfl (by decide +kernel) rfl ?_
  refine A_cVd (q := (RX9, TX9, 3)) (ci := 8) (o := ((39 : Nat) : Int)) (args := [(15, ((34 : Nat) : Int)), (0, x1), (0, x2), (0, x3)]) (st := []) (by decide +kernel) cv_m9_standBy rfl rfl in_m9_standBy se_m9_standBy lk_10_345 rfl (by omega) (Nat.le_of_ble_eq_true rfl) h6 (fun M8 h9 => ?_)
  exact A_ret ⟨by decide +kernel, rfl⟩ ⟨rfl, h9⟩
theorem q_10_fits {x1 : Int} {x2 : Int} {x3 : Int} {x4 : Int} {x5 : Int} {M : Mem} {P : Int → Mem → Prop} (h : (CD m9_meet 2 [(18, ((39 : Nat) : Int)), (10, ((21 : Nat) : Int)), (0, x1), (0, x2), (0, x3), (0, x4)] M (fun M2 => (CD m9_standBy 4 [(18, ((39 : Nat) : Int)), (15, ((34 : Nat) : Int)), (0, x1), (0, x2), (0, x3)] M2 (fun M5 => (CI m9_rightRow 5 [(18, ((39 : Nat) : Int)), (10, ((21 : Nat) : Int))] M5 (fun r7 M8 => ((r7 ≠ x5 → (P 0 M8)) ∧ (r7 = x5 → (P 1 M8)))))))))) : CI m10_fits 6 [(19, ((0 : Nat) : Int)), (0, x1), (0, x2), (0, x3), (0, x4), (0, x5)] M P := by
  refine CI_of (by decide +kernel) (Nat.le_of_ble_eq_true rfl) ?_
  show A m10_fits 6 0 0 [(19, ((0 : Nat) : Int)), (0, x1), (0, x2), (0, x3), (0, x4), (0, x5)] [] M (Ki P)
  refine A_aload_n (i := 0) (f := 0) (by omega) rfl (by decide +kernel) rfl ?_
  refine B_getr (o' := ((39 : Nat) : Int)) (q := (RX10, TX10, 13)) (ci := 9) (j := 9) (by decide +kernel) rfl (by decide) rfl (by omega) fl_10_43 rfl ?_
  refine A_aload_n (i := 0) (f := 0) (by omega) rfl (by decide +kernel) rfl ?_
  refine B_getr (o' := ((21 : Nat) : Int)) (q := (RX10, TX10, 13)) (ci := 9) (j := 2) (by decide +kernel) rfl (by decide) rfl (by omega) fl_10_19 rfl ?_
  refine A_iload_n (i := 1) (f := 1) rfl (by decide +kernel) rfl ?_
  refine A_iload_n (i := 2) (f := 2) rfl (by decide +kernel) rfl ?_
  refine A_iload_n (i := 3) (f := 3) rfl (by decide +kernel) rfl ?_
  refine A_iload (i := 4) (by decide +kernel) rfl ?_
  refine A_cVd (q := (RX9, TX9, 3)) (ci := 8) (o := ((39 : Nat) : Int)) (args := [(10, ((21 : Nat) : Int)), (0, x1), (0, x2), (0, x3), (0, x4)]) (st := []) (by decide +kernel) cv_m9_meet rfl rfl in_m9_meet se_m9_meet lk_10_277 rfl (by omega) (Nat.le_of_ble_eq_true rfl) h (fun M2 h3 => ?_)
  refine A_aload_n (i := 0) (f := 0) (by omega) rfl (by decide +kernel) rfl ?_
  refine B_getr (o' := ((39 : Nat) : Int)) (q := (RX10, TX10, 13)) (ci := 9) (j := 9) (by decide +kernel) rfl (by decide) rfl (by omega) fl_10_43 rfl ?_
  refine A_aload_n (i := 0) (f := 0) (by omega) rfl (by decide +kernel) rfl ?_
  refine B_getr (o' := ((34 : Nat) : Int)) (q := (RX10, TX10, 13)) (ci := 9) (j := 8) (by decide +kernel) rfl (by decide) rfl (by omega) fl_10_36 rfl ?_
  refine A_iload_n (i := 1) (f := 1) rfl (by decide +kernel) rfl ?_
  refine A_iload_n (i := 2) (f := 2) rfl (by decide +kernel) rfl ?_
  refine A_iload_n (i := 3) (f := 3) rfl (by decide +kernel) rfl ?_
  refine A_cVd (q := (RX9, TX9, 3)) (ci := 8) (o := ((39 : Nat) : Int)) (args := [(15, ((34 : Nat) : Int)), (0, x1), (0, x2), (0, x3)]) (st := []) (by decide +kernel) cv_m9_standBy rfl rfl in_m9_standBy se_m9_standBy lk_10_345 rfl (by omega) (Nat.le_of_ble_eq_true rfl) h3 (fun M5 h6 => ?_)
  refine A_aload_n (i := 0) (f := 0) (by omega) rfl (by decide +kernel) rfl ?_
  refine B_getr (o' := ((39 : Nat) : Int)) (q := (RX10, TX10, 13)) (ci := 9) (j := 9) (by decide +kernel) rfl (by decide) rfl (by omega) fl_10_43 rfl ?_
  refine A_aload_n (i := 0) (f := 0) (by omega) rfl (by decide +kernel) rfl ?_
  refine B_getr (o' := ((21 : Nat) : Int)) (q := (RX10, TX10, 13)) (ci := 9) (j := 2) (by decide +kernel) rfl (by decide) rfl (by omega) fl_10_19 rfl ?_
  refine A_cVi (q := (RX9, TX9, 3)) (ci := 8) (o := ((39 : Nat) : Int)) (args := [(10, ((21 : Nat) : Int))]) (st := []) (by decide +kernel) cv_m9_rightRow rfl rfl in_m9_rightRow se_m9_rightRow lk_10_223 rfl (by omega) (Nat.le_of_ble_eq_true rfl) h6 (fun r7 M8 _ h9 => ?_)
  refine A_iload (i := 5) (by decide +kernel) rfl ?_
  refine A_ic_ne (off := 7) (tgt := 50) (by decide +kernel) (by omega) (fun b10 => ?_) (fun b10 => ?_)
  · have h11 := h9.1 b10
    refine A_iconst (a := 0) (by decide +kernel) (by unfold in32; omega) ?_
    exact A_ret ⟨by decide +kernel, Or.inr ⟨rfl, by decide⟩⟩ ⟨_, rfl, h11⟩
  · have h12 := h9.2 (Decidable.not_not.mp b10)
    refine A_iconst (a := 1) (by decide +kernel) (by unfold in32; omega) ?_
    refine A_goto (off := 4) (tgt := 51) (by decide +kernel) (by omega) ?_
    exact A_ret ⟨by decide +kernel, Or.inr ⟨rfl, by decide⟩⟩ ⟨_, rfl, h12⟩
theorem q_10_isSeason {x0 : Int} {M : Mem} {P : Int → Mem → Prop} (h : ((x0 < 0 → (P 0 M)) ∧ (0 ≤ x0 → ((4 ≤ x0 → (P 0 M)) ∧ (x0 < 4 → (P 1 M)))))) : CI m10_isSeason 1 [(0, x0)] M P := by
  refine CI_of (by decide +kernel) (Nat.le_of_ble_eq_true rfl) ?_
  show A m10_isSeason 1 0 0 [(0, x0)] [] M (Ki P)
  refine A_iload_n (i := 0) (f := 0) rfl (by decide +kernel) rfl ?_
  refine A_if_lt (off := 12) (tgt := 13) (by decide +kernel) (by omega) (fun b1 => ?_) (fun b1 => ?_)
  · have h2 := h.1 b1
    refine A_iconst (a := 0) (by decide +kernel) (by unfold in32; omega) ?_
    exact A_ret ⟨by decide +kernel, Or.inr ⟨rfl, by decide⟩⟩ ⟨_, rfl, h2⟩
  · have h3 := h.2 (Int.not_lt.mp b1)
    refine A_iload_n (i := 0) (f := 0) rfl (by decide +kernel) rfl ?_
    refine A_iconst (a := 4) (by decide +kernel) (by unfold in32; omega) ?_
    refine A_ic_ge (off := 7) (tgt := 13) (by decide +kernel) (by omega) (fun b4 => ?_) (fun b4 => ?_)
    · have h5 := h3.1 b4
      refine A_iconst (a := 0) (by decide +kernel) (by unfold in32; omega) ?_
      exact A_ret ⟨by decide +kernel, Or.inr ⟨rfl, by decide⟩⟩ ⟨_, rfl, h5⟩
    · have h6 := h3.2 (Int.not_le.mp b4)
      refine A_iconst (a := 1) (by decide +kernel) (by unfold in32; omega) ?_
      refine A_goto (off := 4) (tgt := 14) (by decide +kernel) (by omega) ?_
      exact A_ret ⟨by decide +kernel, Or.inr ⟨rfl, by decide⟩⟩ ⟨_, rfl, h6⟩
