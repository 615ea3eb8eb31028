/-! CourtTongue$Orders: its regions (made by wip/whole/gall.py) -/
theorem q_6_forget  {M : Mem} {P : Mem → Prop} (h : (P (mset M 49 4 0))) : CD m6_forget 1 [(16, ((49 : Nat) : Int))] M P := by
  refine CD_of (by decide +kernel) (Nat.le_of_ble_eq_true rfl) ?_
  show A m6_forget 1 0 0 [(16, ((49 : Nat) : Int))] [] M (Kd P)
  refine A_aload_n (i := 0) (f := 0) (by omega) rfl (by decide +kernel) rfl ?_
  refine A_iconst (a := 0) (by decide +kernel) (by unfold in32; omega) ?_
  refine B_putp (M' := (mset M 49 4 0)) (q := (RX6, TX6, 6)) (ci := 6) (j := 4) (p := 4) (by decide +kernel) rfl (by decide) rfl (Or.inr ⟨rfl, rfl, by decide⟩) rfl fl_6_22 rfl ?_
  exact A_ret ⟨by decide +kernel, rfl⟩ ⟨rfl, h⟩
theorem q_6_settle {x1 : Int} {p2 : Nat} {M : Mem} {P : Mem → Prop} (h : (CI m4_knownSayings 2 [(14, (p2 : Int))] M (fun r1 M2 => (((M2 49 4) = 0 → (CD m6_make 4 [(16, ((49 : Nat) : Int)), (0, x1)] M2 (fun M8 => A m6_settle 5 0 29 [(16, ((49 : Nat) : Int)), (2, 0), (14, (p2 : Int)), (0, r1), (0, 0)] [] M8 (Kd P)))) ∧ ((M2 49 4) ≠ 0 → ((r1 ≠ (M2 49 5) → (CD m6_make 4 [(16, ((49 : Nat) : Int)), (0, x1)] M2 (fun M14 => A m6_settle 5 0 29 [(16, ((49 : Nat) : Int)), (2, 0), (14, (p2 : Int)), (0, r1), (0, 0)] [] M14 (Kd P)))) ∧ (r1 = (M2 49 5) → (P M2)))))))) : CD m6_settle 5 [(16, ((49 : Nat) : Int)), (0, x1), (14, (p2 : Int))] M P := by
  refine CD_of (by decide +kernel) (Nat.le_of_ble_eq_true rfl) ?_
  show A m6_settle 5 0 0 [(16, ((49 : Nat) : Int)), (0, x1), (14, (p2 : Int)), (2, 0), (2, 0)] [] M (Kd P)
  refine A_aload_n (i := 2) (f := 2) (by omega) rfl (by decide +kernel) rfl ?_
  refine A_cVi (q := (RX4, TX4, 7)) (ci := 4) (o := (p2 : Int)) (args := []) (st := []) (by decide +kernel) cv_m4_knownSayings rfl rfl in_m4_knownSayings se_m4_knownSayings lk_6_26 rfl (by omega) (Nat.le_of_ble_eq_true rfl) h (fun r1 M2 _ h3 => ?_)
  refine A_istore_n (i := 3) (f := 3) rfl (by decide +kernel) (by decide) (fun w h0 hw => by simp at hw; first | (rw [← hw]; decide) | (rw [← hw]; simp)) ?_
  refine A_aload_n (i := 0) (f := 0) (by omega) rfl (by decide +kernel) rfl ?_
  refine B_getp (v := (M2 49 4)) (q := (RX6, TX6, 6)) (ci := 6) (j := 4) (p := 4) (by decide +kernel) rfl (by decide) rfl (Or.inr rfl) fl_6_22 rfl ?_
  refine A_if_eq (off := 12) (tgt := 21) (by decide +kernel) (by omega) (fun b4 => ?_) (fun b4 => ?_)
  · have h5 := h3.1 b4
    refine A_aload_n (i := 0) (f := 0) (by omega) rfl (by decide +kernel) rfl ?_
    refine A_iload_n (i := 1) (f := 1) rfl (by decide +kernel) rfl ?_
    refine A_cVd (q := (RX6, TX6, 6)) (ci := 6) (o := ((49 : Nat) : Int)) (args := [(0, x1)]) (st := []) (by decide +kernel) cv_m6_make rfl rfl in_m6_make se_m6_make lk_6_35 rfl (by omega) (Nat.le_of_ble_eq_true rfl) h5 (fun M8 h9 => ?_)
    refine A_iconst (a := 0) (by decide +kernel) (by unfold in32; omega) ?_
    refine A_istore (i := 4) (by decide +kernel) (by decide) (fun w h0 hw => by simp at hw; first | (rw [← hw]; decide) | (rw [← hw]; simp)) ?_
    exact A_weak (lsub.keep (lsub.drop (lsub.keep (lsub.keep (lsub.keep lsub.nil))))) h9
  · have h6 := h3.2 b4
    refine A_iload_n (i := 3) (f := 3) rfl (by decide +kernel) rfl ?_
    refine A_aload_n (i := 0) (f := 0) (by omega) rfl (by decide +kernel) rfl ?_
    refine B_getp (v := (M2 49 5)) (q := (RX6, TX6, 6)) (ci := 6) (j := 5) (p := 5) (by decide +kernel) rfl (by decide) rfl (Or.inl rfl) fl_6_32 rfl ?_
    refine A_ic_ne (off := 4) (tgt := 21) (by decide +kernel) (by omega) (fun b10 => ?_) (fun b10 => ?_)
    · have h11 := h6.1 b10
      refine A_aload_n (i := 0) (f := 0) (by omega) rfl (by decide +kernel) rfl ?_
      refine A_iload_n (i := 1) (f := 1) rfl (by decide +kernel) rfl ?_
      refine A_cVd (q := (RX6, TX6, 6)) (ci := 6) (o := ((49 : Nat) : Int)) (args := [(0, x1)]) (st := []) (by decide +kernel) cv_m6_make rfl rfl in_m6_make se_m6_make lk_6_35 rfl (by omega) (Nat.le_of_ble_eq_true rfl) h11 (fun M14 h15 => ?_)
      refine A_iconst (a := 0) (by decide +kernel) (by unfold in32; omega) ?_
      refine A_istore (i := 4) (by decide +kernel) (by decide) (fun w h0 hw => by simp at hw; first | (rw [← hw]; decide) | (rw [← hw]; simp)) ?_
      exact A_weak (lsub.keep (lsub.drop (lsub.keep (lsub.keep (lsub.keep lsub.nil))))) h15
    · have h12 := h6.2 (Decidable.not_not.mp b10)
      exact A_ret ⟨by decide +kernel, rfl⟩ ⟨rfl, h12⟩
theorem r_6_settle_29 {p2 : Nat} {x3 : Int} {x4 : Int} {M : Mem} {P : Mem → Prop} (h : (((M 49 0) ≤ x4 → (P (mset (mset M 49 4 1) 49 5 x3))) ∧ (x4 < (M 49 0) → (CI m10_at 1 [(30, ((50 : Nat) : Int)), (0, x4)] M (fun r4 M5 => (CI m4_firstWrong 4 [(14, (p2 : Int)), (0, r4), (0, x3)] M5 (fun r7 M8 => (CD m10_put 1 [(30, ((51 : Nat) : Int)), (0, x4), (0, r7)] M8 (fun M11 => A m6_settle 5 0 29 [(16, ((49 : Nat) : Int)), (2, 0), (14, (p2 : Int)), (0, x3), (0, (w32 (x4 + 1)))] [] M11 (Kd P)))))))))) : A m6_settle 5 0 29 [(16, ((49 : Nat) : Int)), (2, 0), (14, (p2 : Int)), (0, x3), (0, x4)] [] M (Kd P) := by
  refine A_iload (i := 4) (by decide +kernel) rfl ?_
  refine A_aload_n (i := 0) (f := 0) (by omega) rfl (by decide +kernel) rfl ?_
  refine B_getp (v := (M 49 0)) (q := (RX6, TX6, 6)) (ci := 6) (j := 0) (p := 0) (by decide +kernel) rfl (by decide) rfl (Or.inl rfl) fl_6_39 rfl ?_
  refine A_ic_ge (off := 32) (tgt := 67) (by decide +kernel) (by omega) (fun b1 => ?_) (fun b1 => ?_)
  · have h2 := h.1 b1
    refine A_aload_n (i := 0) (f := 0) (by omega) rfl (by decide +kernel) rfl ?_
    refine A_iconst (a := 1) (by decide +kernel) (by unfold in32; omega) ?_
    refine B_putp (M' := (mset M 49 4 1)) (q := (RX6, TX6, 6)) (ci := 6) (j := 4) (p := 4) (by decide +kernel) rfl (by decide) rfl (Or.inr ⟨rfl, rfl, by decide⟩) rfl fl_6_22 rfl ?_
    refine A_aload_n (i := 0) (f := 0) (by omega) rfl (by decide +kernel) rfl ?_
    refine A_iload_n (i := 3) (f := 3) rfl (by decide +kernel) rfl ?_
    refine B_putp (M' := (mset (mset M 49 4 1) 49 5 x3)) (q := (RX6, TX6, 6)) (ci := 6) (j := 5) (p := 5) (by decide +kernel) rfl (by decide) rfl (Or.inl ⟨rfl, rfl⟩) rfl fl_6_32 rfl ?_
    exact A_ret ⟨by decide +kernel, rfl⟩ ⟨rfl, h2⟩
  · have h3 := h.2 (Int.not_le.mp b1)
    refine A_aload_n (i := 0) (f := 0) (by omega) rfl (by decide +kernel) rfl ?_
    refine B_getr (o' := ((51 : Nat) : Int)) (q := (RX6, TX6, 6)) (ci := 6) (j := 3) (by decide +kernel) rfl (by decide) rfl (by omega) fl_6_19 rfl ?_
    refine A_iload (i := 4) (by decide +kernel) rfl ?_
    refine A_aload_n (i := 2) (f := 2) (by omega) rfl (by decide +kernel) rfl ?_
    refine A_aload_n (i := 0) (f := 0) (by omega) rfl (by decide +kernel) rfl ?_
    refine B_getr (o' := ((50 : Nat) : Int)) (q := (RX6, TX6, 6)) (ci := 6) (j := 1) (by decide +kernel) rfl (by decide) rfl (by omega) fl_6_11 rfl ?_
    refine A_iload (i := 4) (by decide +kernel) rfl ?_
    refine A_cSNi (args := [(30, ((50 : Nat) : Int)), (0, x4)]) (st := [(14, (p2 : Int)), (0, x4), (30, ((51 : Nat) : Int))]) (by decide +kernel) cv_m10_at st_m10_at lk_6_42 rfl (by omega) (Nat.le_of_ble_eq_true rfl) h3 (fun r4 M5 _ h6 => ?_)
    refine A_iload_n (i := 3) (f := 3) rfl (by decide +kernel) rfl ?_
    refine A_cVi (q := (RX4, TX4, 7)) (ci := 4) (o := (p2 : Int)) (args := [(0, r4), (0, x3)]) (st := [(0, x4), (30, ((51 : Nat) : Int))]) (by decide +kernel) cv_m4_firstWrong rfl rfl in_m4_firstWrong se_m4_firstWrong lk_6_46 rfl (by omega) (Nat.le_of_ble_eq_true rfl) h6 (fun r7 M8 _ h9 => ?_)
    refine A_cSNd (args := [(30, ((51 : Nat) : Int)), (0, x4), (0, r7)]) (st := []) (by decide +kernel) cv_m10_put st_m10_put lk_6_50 rfl (by omega) (Nat.le_of_ble_eq_true rfl) h9 (fun M11 h12 => ?_)
    refine A_iinc (i := 4) (n := 1) (by decide +kernel) (by decide) rfl (fun w h0 hw => by simp at hw; first | (rw [← hw]; decide) | (rw [← hw]; simp)) ?_
    refine A_goto (off := (-35)) (tgt := 29) (by decide +kernel) (by omega) ?_
    exact A_weak (lsub.keep (lsub.drop (lsub.keep (lsub.keep (lsub.keep lsub.nil))))) h12
theorem q_6_firstWrong {x1 : Int} {M : Mem} {P : Int → Mem → Prop} (h : (CI m10_at 1 [(30, ((51 : Nat) : Int)), (0, x1)] M (fun r1 M2 => (P r1 M2)))) : CI m6_firstWrong 2 [(16, ((49 : Nat) : Int)), (0, x1)] M P := by
  refine CI_of (by decide +kernel) (Nat.le_of_ble_eq_true rfl) ?_
  show A m6_firstWrong 2 0 0 [(16, ((49 : Nat) : Int)), (0, x1)] [] M (Ki P)
  refine A_aload_n (i := 0) (f := 0) (by omega) rfl (by decide +kernel) rfl ?_
  refine B_getr (o' := ((51 : Nat) : Int)) (q := (RX6, TX6, 6)) (ci := 6) (j := 3) (by decide +kernel) rfl (by decide) rfl (by omega) fl_6_19 rfl ?_
  refine A_iload_n (i := 1) (f := 1) rfl (by decide +kernel) rfl ?_
  refine A_cSNi (args := [(30, ((51 : Nat) : Int)), (0, x1)]) (st := []) (by decide +kernel) cv_m10_at st_m10_at lk_6_42 rfl (by omega) (Nat.le_of_ble_eq_true rfl) h (fun r1 M2 _ h3 => ?_)
  exact A_ret ⟨by decide +kernel, Or.inl rfl⟩ ⟨_, rfl, h3⟩
theorem q_6_answer {x1 : Int} {x2 : Int} {x3 : Int} {M : Mem} {P : Int → Mem → Prop} (h : (CI m10_at 1 [(30, ((50 : Nat) : Int)), (0, x1)] M (fun r1 M2 => (CI m6_between 2 [(0, r1), (0, x2), (0, x3)] M2 (fun r4 M5 => ((0 ≤ r4 → (P r4 M5)) ∧ (r4 < 0 → (P 2 M5)))))))) : CI m6_answer 3 [(16, ((49 : Nat) : Int)), (0, x1), (0, x2), (0, x3)] M P := by
  refine CI_of (by decide +kernel) (Nat.le_of_ble_eq_true rfl) ?_
  show A m6_answer 3 0 0 [(16, ((49 : Nat) : Int)), (0, x1), (0, x2), (0, x3), (2, 0)] [] M (Ki P)
  refine A_aload_n (i := 0) (f := 0) (by omega) rfl (by decide +kernel) rfl ?_
  refine B_getr (o' := ((50 : Nat) : Int)) (q := (RX6, TX6, 6)) (ci := 6) (j := 1) (by decide +kernel) rfl (by decide) rfl (by omega) fl_6_11 rfl ?_
  refine A_iload_n (i := 1) (f := 1) rfl (by decide +kernel) rfl ?_
  refine A_cSNi (args := [(30, ((50 : Nat) : Int)), (0, x1)]) (st := []) (by decide +kernel) cv_m10_at st_m10_at lk_6_42 rfl (by omega) (Nat.le_of_ble_eq_true rfl) h (fun r1 M2 _ h3 => ?_)
  refine A_iload_n (i := 2) (f := 2) rfl (by decide +kernel) rfl ?_
  refine A_iload_n (i := 3) (f := 3) rfl (by decide +kernel) rfl ?_
  refine A_cSi (args := [(0, r1), (0, x2), (0, x3)]) (st := []) (by decide +kernel) cv_m6_between st_m6_between lk_6_54 rfl (by omega) (Nat.le_of_ble_eq_true rfl) h3 (fun r4 M5 _ h6 => ?_)
  refine A_istore (i := 4) (by decide +kernel) (by decide) (fun w h0 hw => by simp at hw; first | (rw [← hw]; decide) | (rw [← hw]; simp)) ?_
  refine A_iload (i := 4) (by decide +kernel) rfl ?_
  refine A_if_ge (off := 7) (tgt := 24) (by decide +kernel) (by omega) (fun b7 => ?_) (fun b7 => ?_)
  · have h8 := h6.1 b7
    refine A_iload (i := 4) (by decide +kernel) rfl ?_
    exact A_ret ⟨by decide +kernel, Or.inl rfl⟩ ⟨_, rfl, h8⟩
  · have h9 := h6.2 (Int.not_le.mp b7)
    refine A_iconst (a := 2) (by decide +kernel) (by unfold in32; omega) ?_
    refine A_goto (off := 5) (tgt := 26) (by decide +kernel) (by omega) ?_
    exact A_ret ⟨by decide +kernel, Or.inl rfl⟩ ⟨_, rfl, h9⟩
theorem q_6_make {x1 : Int} {M : Mem} {P : Mem → Prop} (h : ((x1 ≠ (M 49 2) → A m6_make 4 0 21 [(16, ((49 : Nat) : Int)), (0, x1), (0, 0), (0, 0), (0, 0), (2, 0), (2, 0)] [] (mset M 49 0 0) (Kd P)) ∧ (x1 = (M 49 2) → (P M)))) : CD m6_make 4 [(16, ((49 : Nat) : Int)), (0, x1)] M P := by
  refine CD_of (by decide +kernel) (Nat.le_of_ble_eq_true rfl) ?_
  show A m6_make 4 0 0 [(16, ((49 : Nat) : Int)), (0, x1), (2, 0), (2, 0), (2, 0), (2, 0), (2, 0)] [] M (Kd P)
  refine A_iload_n (i := 1) (f := 1) rfl (by decide +kernel) rfl ?_
  refine A_aload_n (i := 0) (f := 0) (by omega) rfl (by decide +kernel) rfl ?_
  refine B_getp (v := (M 49 2)) (q := (RX6, TX6, 6)) (ci := 6) (j := 2) (p := 2) (by decide +kernel) rfl (by decide) rfl (Or.inl rfl) fl_6_15 rfl ?_
  refine A_ic_ne (off := 4) (tgt := 9) (by decide +kernel) (by omega) (fun b1 => ?_) (fun b1 => ?_)
  · have h2 := h.1 b1
    refine A_aload_n (i := 0) (f := 0) (by omega) rfl (by decide +kernel) rfl ?_
    refine A_iconst (a := 0) (by decide +kernel) (by unfold in32; omega) ?_
    refine B_putp (M' := (mset M 49 0 0)) (q := (RX6, TX6, 6)) (ci := 6) (j := 0) (p := 0) (by decide +kernel) rfl (by decide) rfl (Or.inl ⟨rfl, rfl⟩) rfl fl_6_39 rfl ?_
    refine A_iconst (a := 0) (by decide +kernel) (by unfold in32; omega) ?_
    refine A_istore_n (i := 2) (f := 2) rfl (by decide +kernel) (by decide) (fun w h0 hw => by simp at hw; first | (rw [← hw]; decide) | (rw [← hw]; simp)) ?_
    refine A_iconst (a := 0) (by decide +kernel) (by unfold in32; omega) ?_
    refine A_istore_n (i := 3) (f := 3) rfl (by decide +kernel) (by decide) (fun w h0 hw => by simp at hw; first | (rw [← hw]; decide) | (rw [← hw]; simp)) ?_
    refine A_iconst (a := 0) (by decide +kernel) (by unfold in32; omega) ?_
    refine A_istore (i := 4) (by decide +kernel) (by decide) (fun w h0 hw => by simp at hw; first | (rw [← hw]; decide) | (rw [← hw]; simp)) ?_
    exact A_weak (lsub.keep (lsub.keep (lsub.keep (lsub.keep (lsub.keep (lsub.drop (lsub.drop lsub.nil))))))) h2
  · have h3 := h.2 (Decidable.not_not.mp b1)
    exact A_ret ⟨by decide +kernel, rfl⟩ ⟨rfl, h3⟩
theorem r_6_make_21 {x1 : Int} {x2 : Int} {x3 : Int} {x4 : Int} {M : Mem} {P : Mem → Prop} (h : ((1000000 ≤ x4 → (P (mset M 49 2 x1))) ∧ (x4 < 1000000 → ((x3 < 0 → (P (mset M 49 2 x1))) ∧ (0 ≤ x3 → (CI m6_shiftOf 1 [(0, x3)] M (fun r7 M8 => (CI m10_at 1 [(34, ((95 : Nat) : Int)), (0, x3)] M8 (fun r10 M11 => ((x1 ≤ r10 → (((iand (ishr x2 r7) 3) ≤ 0 → (CI m6_goesOnSoFar 3 [(0, x2), (0, x3)] M11 (fun r19 M20 => ((r19 ≠ 0 → ((9 ≤ x3 → (CD m10_put 1 [(30, ((50 : Nat) : Int)), (0, (M20 49 0)), (0, x2)] M20 (fun M29 => A m6_make 4 0 21 [(16, ((49 : Nat) : Int)), (0, x1), (0, (w32 (x2 + (ishl 1 r7)))), (0, x3), (0, (w32 (x4 + 1))), (2, 0), (2, 0)] [] (mset M29 49 0 (w32 ((M29 49 0) + 1))) (Kd P)))) ∧ (x3 < 9 → A m6_make 4 0 21 [(16, ((49 : Nat) : Int)), (0, x1), (0, x2), (0, (w32 (x3 + 1))), (0, (w32 (x4 + 1))), (2, 0), (2, 0)] [] M20 (Kd P)))) ∧ (r19 = 0 → A m6_make 4 0 21 [(16, ((49 : Nat) : Int)), (0, x1), (0, (w32 (x2 + (ishl 1 r7)))), (0, x3), (0, (w32 (x4 + 1))), (2, 0), (2, 0)] [] M20 (Kd P)))))) ∧ (0 < (iand (ishr x2 r7) 3) → (CI m6_shiftOf 1 [(0, (w32 (x3 + (-1))))] M11 (fun r31 M32 => A m6_make 4 0 21 [(16, ((49 : Nat) : Int)), (0, x1), (0, (w32 ((iand x2 (ixor (ishl 3 r7) (-1))) + (ishl 1 r31)))), (0, (w32 (x3 + (-1)))), (0, (w32 (x4 + 1))), (2, 0), (2, 0)] [] M32 (Kd P)))))) ∧ (r10 < x1 → (((iand (ishr x2 r7) 3) ≤ 2 → (CI m6_goesOnSoFar 3 [(0, x2), (0, x3)] M11 (fun r37 M38 => ((r37 ≠ 0 → ((9 ≤ x3 → (CD m10_put 1 [(30, ((50 : Nat) : Int)), (0, (M38 49 0)), (0, x2)] M38 (fun M47 => A m6_make 4 0 21 [(16, ((49 : Nat) : Int)), (0, x1), (0, (w32 (x2 + (ishl 1 r7)))), (0, x3), (0, (w32 (x4 + 1))), (2, 0), (2, 0)] [] (mset M47 49 0 (w32 ((M47 49 0) + 1))) (Kd P)))) ∧ (x3 < 9 → A m6_make 4 0 21 [(16, ((49 : Nat) : Int)), (0, x1), (0, x2), (0, (w32 (x3 + 1))), (0, (w32 (x4 + 1))), (2, 0), (2, 0)] [] M38 (Kd P)))) ∧ (r37 = 0 → A m6_make 4 0 21 [(16, ((49 : Nat) : Int)), (0, x1), (0, (w32 (x2 + (ishl 1 r7)))), (0, x3), (0, (w32 (x4 + 1))), (2, 0), (2, 0)] [] M38 (Kd P)))))) ∧ (2 < (iand (ishr x2 r7) 3) → (CI m6_shiftOf 1 [(0, (w32 (x3 + (-1))))] M11 (fun r49 M50 => A m6_make 4 0 21 [(16, ((49 : Nat) : Int)), (0, x1), (0, (w32 ((iand x2 (ixor (ishl 3 r7) (-1))) + (ishl 1 r49)))), (0, (w32 (x3 + (-1)))), (0, (w32 (x4 + 1))), (2, 0), (2, 0)] [] M50 (Kd P)))))))))))))))) : A m6_make 4 0 21 [(16, ((49 : Nat) : Int)), (0, x1), (0, x2), (0, x3), (0, x4), (2, 0), (2, 0)] [] M (Kd P) := by
  refine A_iload (i := 4) (by decide +kernel) rfl ?_
  refine A_ldc (by decide +kernel) (by unfold in32; omega) ki_6_58 rfl ?_
  refine A_ic_ge (off := 131) (tgt := 156) (by decide +kernel) (by omega) (fun b1 => ?_) (fun b1 => ?_)
  · have h2 := h.1 b1
    refine A_aload_n (i := 0) (f := 0) (by omega) rfl (by decide +kernel) rfl ?_
    refine A_iload_n (i := 1) (f := 1) rfl (by decide +kernel) rfl ?_
    refine B_putp (M' := (mset M 49 2 x1)) (q := (RX6, TX6, 6)) (ci := 6) (j := 2) (p := 2) (by decide +kernel) rfl (by decide) rfl (Or.inl ⟨rfl, rfl⟩) rfl fl_6_15 rfl ?_
    exact A_ret ⟨by decide +kernel, rfl⟩ ⟨rfl, h2⟩
  · have h3 := h.2 (Int.not_le.mp b1)
    refine A_iload_n (i := 3) (f := 3) rfl (by decide +kernel) rfl ?_
    refine A_if_lt (off := 127) (tgt := 156) (by decide +kernel) (by omega) (fun b4 => ?_) (fun b4 => ?_)
    · have h5 := h3.1 b4
      refine A_aload_n (i := 0) (f := 0) (by omega) rfl (by decide +kernel) rfl ?_
      refine A_iload_n (i := 1) (f := 1) rfl (by decide +kernel) rfl ?_
      refine B_putp (M' := (mset M 49 2 x1)) (q := (RX6, TX6, 6)) (ci := 6) (j := 2) (p := 2) (by decide +kernel) rfl (by decide) rfl (Or.inl ⟨rfl, rfl⟩) rfl fl_6_15 rfl ?_
      exact A_ret ⟨by decide +kernel, rfl⟩ ⟨rfl, h5⟩
    · have h6 := h3.2 (Int.not_lt.mp b4)
      refine A_iload_n (i := 3) (f := 3) rfl (by decide +kernel) rfl ?_
      refine A_cSi (args := [(0, x3)]) (st := []) (by decide +kernel) cv_m6_shiftOf st_m6_shiftOf lk_6_59 rfl (by omega) (Nat.le_of_ble_eq_true rfl) h6 (fun r7 M8 _ h9 => ?_)
      refine A_istore (i := 5) (by decide +kernel) (by decide) (fun w h0 hw => by simp at hw; first | (rw [← hw]; decide) | (rw [← hw]; simp)) ?_
      refine A_gets (i := 95) (nm := "OTHERS") (by simp) (by decide +kernel) fl_6_63 ?_
      refine A_iload_n (i := 3) (f := 3) rfl (by decide +kernel) rfl ?_
      refine A_cSNi (args := [(34, ((95 : Nat) : Int)), (0, x3)]) (st := []) (by decide +kernel) cv_m10_at st_m10_at lk_6_42 rfl (by omega) (Nat.le_of_ble_eq_true rfl) h9 (fun r10 M11 _ h12 => ?_)
      refine A_iload_n (i := 1) (f := 1) rfl (by decide +kernel) rfl ?_
      refine A_ic_ge (off := 7) (tgt := 53) (by decide +kernel) (by omega) (fun b13 => ?_) (fun b13 => ?_)
      · have h14 := h12.1 b13
        refine A_iconst (a := 0) (by decide +kernel) (by unfold in32; omega) ?_
        refine A_istore (i := 6) (by decide +kernel) (by decide) (fun w h0 hw => by simp at hw; first | (rw [← hw]; decide) | (rw [← hw]; simp)) ?_
        refine A_iload_n (i := 2) (f := 2) rfl (by decide +kernel) rfl ?_
        refine A_iload (i := 5) (by decide +kernel) rfl ?_
        refine A_ishr (by decide +kernel) ?_
        refine A_iconst (a := 3) (by decide +kernel) (by unfold in32; omega) ?_
        refine A_iand (by decide +kernel) ?_
        refine A_iload (i := 6) (by decide +kernel) rfl ?_
        refine A_ic_le (off := 27) (tgt := 91) (by decide +kernel) (by omega) (fun b16 => ?_) (fun b16 => ?_)
        · have h17 := h14.1 b16
          refine A_iload_n (i := 2) (f := 2) rfl (by decide +kernel) rfl ?_
          refine A_iload_n (i := 3) (f := 3) rfl (by decide +kernel) rfl ?_
          refine A_cSi (args := [(0, x2), (0, x3)]) (st := []) (by decide +kernel) cv_m6_goesOnSoFar st_m6_goesOnSoFar lk_6_66 rfl (by omega) (Nat.le_of_ble_eq_true rfl) h17 (fun r19 M20 _ h21 => ?_)
          refine A_if_ne (off := 13) (tgt := 109) (by decide +kernel) (by omega) (fun b22 => ?_) (fun b22 => ?_)
          · have h23 := h21.1 b22
            refine A_iload_n (i := 3) (f := 3) rfl (by decide +kernel) rfl ?_
            refine A_bipush (a := 9) (by decide +kernel) (by unfold in32; omega) (by decide +kernel) ?_
            refine A_ic_ge (off := 9) (tgt := 121) (by decide +kernel) (by omega) (fun b25 => ?_) (fun b25 => ?_)
            · have h26 := h23.1 b25
              refine A_aload_n (i := 0) (f := 0) (by omega) rfl (by decide +kernel) rfl ?_
              refine B_getr (o' := ((50 : Nat) : Int)) (q := (RX6, TX6, 6)) (ci := 6) (j := 1) (by decide +kernel) rfl (by decide) rfl (by omega) fl_6_11 rfl ?_
              refine A_aload_n (i := 0) (f := 0) (by omega) rfl (by decide +kernel) rfl ?_
              refine B_getp (v := (M20 49 0)) (q := (RX6, TX6, 6)) (ci := 6) (j := 0) (p := 0) (by decide +kernel) rfl (by decide) rfl (Or.inl rfl) fl_6_39 rfl ?_
              refine A_iload_n (i := 2) (f := 2) rfl (by decide +kernel) rfl ?_
              refine A_cSNd (args := [(30, ((50 : Nat) : Int)), (0, (M20 49 0)), (0, x2)]) (st := []) (by decide +kernel) cv_m10_put st_m10_put lk_6_50 rfl (by omega) (Nat.le_of_ble_eq_true rfl) h26 (fun M29 h30 => ?_)
              refine A_aload_n (i := 0) (f := 0) (by omega) rfl (by decide +kernel) rfl ?_
              refine A_dup (by decide +kernel) (by simp) ?_
              refine B_getp (v := (M29 49 0)) (q := (RX6, TX6, 6)) (ci := 6) (j := 0) (p := 0) (by decide +kernel) rfl (by decide) rfl (Or.inl rfl) fl_6_39 rfl ?_
              refine A_iconst (a := 1) (by decide +kernel) (by unfold in32; omega) ?_
              refine A_iadd (by decide +kernel) ?_
              refine B_putp (M' := (mset M29 49 0 (w32 ((M29 49 0) + 1)))) (q := (RX6, TX6, 6)) (ci := 6) (j := 0) (p := 0) (by decide +kernel) rfl (by decide) rfl (Or.inl ⟨rfl, rfl⟩) rfl fl_6_39 rfl ?_
              refine A_iload_n (i := 2) (f := 2) rfl (by decide +kernel) rfl ?_
              refine A_iconst (a := 1) (by decide +kernel) (by unfold in32; omega) ?_
              refine A_iload (i := 5) (by decide +kernel) rfl ?_
              refine A_ishl (by decide +kernel) ?_
              refine A_iadd (by decide +kernel) ?_
              refine A_istore_n (i := 2) (f := 2) rfl (by decide +kernel) (by decide) (fun w h0 hw => by simp at hw; first | (rw [← hw]; decide) | (rw [← hw]; simp)) ?_
              refine A_iinc (i := 4) (n := 1) (by decide +kernel) (by decide) rfl (fun w h0 hw => by simp at hw; first | (rw [← hw]; decide) | (rw [← hw]; simp)) ?_
              refine A_goto (off := (-132)) (tgt := 21) (by decide +kernel) (by omega) ?_
              exact A_weak (lsub.keep (lsub.keep (lsub.keep (lsub.keep (lsub.keep (lsub.drop (lsub.drop lsub.nil))))))) h30
            · have h27 := h23.2 (Int.not_le.mp b25)
              refine A_iinc (i := 3) (n := 1) (by decide +kernel) (by decide) rfl (fun w h0 hw => by simp at hw; first | (rw [← hw]; decide) | (rw [← hw]; simp)) ?_
              refine A_goto (off := 32) (tgt := 150) (by decide +kernel) (by omega) ?_
              refine A_iinc (i := 4) (n := 1) (by decide +kernel) (by decide) rfl (fun w h0 hw => by simp at hw; first | (rw [← hw]; decide) | (rw [← hw]; simp)) ?_
              refine A_goto (off := (-132)) (tgt := 21) (by decide +kernel) (by omega) ?_
              exact A_weak (lsub.keep (lsub.keep (lsub.keep (lsub.keep (lsub.keep (lsub.drop (lsub.drop lsub.nil))))))) h27
          · have h24 := h21.2 (Decidable.not_not.mp b22)
            refine A_iload_n (i := 2) (f := 2) rfl (by decide +kernel) rfl ?_
            refine A_iconst (a := 1) (by decide +kernel) (by unfold in32; omega) ?_
            refine A_iload (i := 5) (by decide +kernel) rfl ?_
            refine A_ishl (by decide +kernel) ?_
            refine A_iadd (by decide +kernel) ?_
            refine A_istore_n (i := 2) (f := 2) rfl (by decide +kernel) (by decide) (fun w h0 hw => by simp at hw; first | (rw [← hw]; decide) | (rw [← hw]; simp)) ?_
            refine A_goto (off := 44) (tgt := 150) (by decide +kernel) (by omega) ?_
            refine A_iinc (i := 4) (n := 1) (by decide +kernel) (by decide) rfl (fun w h0 hw => by simp at hw; first | (rw [← hw]; decide) | (rw [← hw]; simp)) ?_
            refine A_goto (off := (-132)) (tgt := 21) (by decide +kernel) (by omega) ?_
            exact A_weak (lsub.keep (lsub.keep (lsub.keep (lsub.keep (lsub.keep (lsub.drop (lsub.drop lsub.nil))))))) h24
        · have h18 := h14.2 (Int.not_le.mp b16)
          refine A_iload_n (i := 2) (f := 2) rfl (by decide +kernel) rfl ?_
          refine A_iconst (a := 3) (by decide +kernel) (by unfold in32; omega) ?_
          refine A_iload (i := 5) (by decide +kernel) rfl ?_
          refine A_ishl (by decide +kernel) ?_
          refine A_iconst (a := (-1)) (by decide +kernel) (by unfold in32; omega) ?_
          refine A_ixor (by decide +kernel) ?_
          refine A_iand (by decide +kernel) ?_
          refine A_istore_n (i := 2) (f := 2) rfl (by decide +kernel) (by decide) (fun w h0 hw => by simp at hw; first | (rw [← hw]; decide) | (rw [← hw]; simp)) ?_
          refine A_iinc (i := 3) (n := (-1)) (by decide +kernel) (by decide) rfl (fun w h0 hw => by simp at hw; first | (rw [← hw]; decide) | (rw [← hw]; simp)) ?_
          refine A_iload_n (i := 2) (f := 2) rfl (by decide +kernel) rfl ?_
          refine A_iconst (a := 1) (by decide +kernel) (by unfold in32; omega) ?_
          refine A_iload_n (i := 3) (f := 3) rfl (by decide +kernel) rfl ?_
          refine A_cSi (args := [(0, (w32 (x3 + (-1))))]) (st := [(0, 1), (0, (iand x2 (ixor (ishl 3 r7) (-1))))]) (by decide +kernel) cv_m6_shiftOf st_m6_shiftOf lk_6_59 rfl (by omega) (Nat.le_of_ble_eq_true rfl) h18 (fun r31 M32 _ h33 => ?_)
          refine A_ishl (by decide +kernel) ?_
          refine A_iadd (by decide +kernel) ?_
          refine A_istore_n (i := 2) (f := 2) rfl (by decide +kernel) (by decide) (fun w h0 hw => by simp at hw; first | (rw [← hw]; decide) | (rw [← hw]; simp)) ?_
          refine A_goto (off := 62) (tgt := 150) (by decide +kernel) (by omega) ?_
          refine A_iinc (i := 4) (n := 1) (by decide +kernel) (by decide) rfl (fun w h0 hw => by simp at hw; first | (rw [← hw]; decide) | (rw [← hw]; simp)) ?_
          refine A_goto (off := (-132)) (tgt := 21) (by decide +kernel) (by omega) ?_
          exact A_weak (lsub.keep (lsub.keep (lsub.keep (lsub.keep (lsub.keep (lsub.drop (lsub.drop lsub.nil))))))) h33
      · have h15 := h12.2 (Int.not_le.mp b13)
        refine A_iconst (a := 2) (by decide +kernel) (by unfold in32; omega) ?_
        refine A_goto (off := 4) (tgt := 54) (by decide +kernel) (by omega) ?_
        refine A_istore (i := 6) (by decide +kernel) (by decide) (fun w h0 hw => by simp at hw; first | (rw [← hw]; decide) | (rw [← hw]; simp)) ?_
        refine A_iload_n (i := 2) (f := 2) rfl (by decide +kernel) rfl ?_
        refine A_iload (i := 5) (by decide +kernel) rfl ?_
        refine A_ishr (by decide +kernel) ?_
        refine A_iconst (a := 3) (by decide +kernel) (by unfold in32; omega) ?_
        refine A_iand (by decide +kernel) ?_
        refine A_iload (i := 6) (by decide +kernel) rfl ?_
        refine A_ic_le (off := 27) (tgt := 91) (by decide +kernel) (by omega) (fun b34 => ?_) (fun b34 => ?_)
        · have h35 := h15.1 b34
          refine A_iload_n (i := 2) (f := 2) rfl (by decide +kernel) rfl ?_
          refine A_iload_n (i := 3) (f := 3) rfl (by decide +kernel) rfl ?_
          refine A_cSi (args := [(0, x2), (0, x3)]) (st := []) (by decide +kernel) cv_m6_goesOnSoFar st_m6_goesOnSoFar lk_6_66 rfl (by omega) (Nat.le_of_ble_eq_true rfl) h35 (fun r37 M38 _ h39 => ?_)
          refine A_if_ne (off := 13) (tgt := 109) (by decide +kernel) (by omega) (fun b40 => ?_) (fun b40 => ?_)
          · have h41 := h39.1 b40
            refine A_iload_n (i := 3) (f := 3) rfl (by decide +kernel) rfl ?_
            refine A_bipush (a := 9) (by decide +kernel) (by unfold in32; omega) (by decide +kernel) ?_
            refine A_ic_ge (off := 9) (tgt := 121) (by decide +kernel) (by omega) (fun b43 => ?_) (fun b43 => ?_)
            · have h44 := h41.1 b43
              refine A_aload_n (i := 0) (f := 0) (by omega) rfl (by decide +kernel) rfl ?_
              refine B_getr (o' := ((50 : Nat) : Int)) (q := (RX6, TX6, 6)) (ci := 6) (j := 1) (by decide +kernel) rfl (by decide) rfl (by omega) fl_6_11 rfl ?_
              refine A_aload_n (i := 0) (f := 0) (by omega) rfl (by decide +kernel) rfl ?_
              refine B_getp (v := (M38 49 0)) (q := (RX6, TX6, 6)) (ci := 6) (j := 0) (p := 0) (by decide +kernel) rfl (by decide) rfl (Or.inl rfl) fl_6_39 rfl ?_
              refine A_iload_n (i := 2) (f := 2) rfl (by decide +kernel) rfl ?_
              refine A_cSNd (args := [(30, ((50 : Nat) : Int)), (0, (M38 49 0)), (0, x2)]) (st := []) (by decide +kernel) cv_m10_put st_m10_put lk_6_50 rfl (by omega) (Nat.le_of_ble_eq_true rfl) h44 (fun M47 h48 => ?_)
              refine A_aload_n (i := 0) (f := 0) (by omega) rfl (by decide +kernel) rfl ?_
              refine A_dup (by decide +kernel) (by simp) ?_
              refine B_getp (v := (M47 49 0)) (q := (RX6, TX6, 6)) (ci := 6) (j := 0) (p := 0) (by decide +kernel) rfl (by decide) rfl (Or.inl rfl) fl_6_39 rfl ?_
              refine A_iconst (a := 1) (by decide +kernel) (by unfold in32; omega) ?_
              refine A_iadd (by decide +kernel) ?_
              refine B_putp (M' := (mset M47 49 0 (w32 ((M47 49 0) + 1)))) (q := (RX6, TX6, 6)) (ci := 6) (j := 0) (p := 0) (by decide +kernel) rfl (by decide) rfl (Or.inl ⟨rfl, rfl⟩) rfl fl_6_39 rfl ?_
              refine A_iload_n (i := 2) (f := 2) rfl (by decide +kernel) rfl ?_
              refine A_iconst (a := 1) (by decide +kernel) (by unfold in32; omega) ?_
              refine A_iload (i := 5) (by decide +kernel) rfl ?_
              refine A_ishl (by decide +kernel) ?_
              refine A_iadd (by decide +kernel) ?_
              refine A_istore_n (i := 2) (f := 2) rfl (by decide +kernel) (by decide) (fun w h0 hw => by simp at hw; first | (rw [← hw]; decide) | (rw [← hw]; simp)) ?_
              refine A_iinc (i := 4) (n := 1) (by decide +kernel) (by decide) rfl (fun w h0 hw => by simp at hw; first | (rw [← hw]; decide) | (rw [← hw]; simp)) ?_
              refine A_goto (off := (-132)) (tgt := 21) (by decide +kernel) (by omega) ?_
              exact A_weak (lsub.keep (lsub.keep (lsub.keep (lsub.keep (lsub.keep (lsub.drop (lsub.drop lsub.nil))))))) h48
            · have h45 := h41.2 (Int.not_le.mp b43)
              refine A_iinc (i := 3) (n := 1) (by decide +kernel) (by decide) rfl (fun w h0 hw => by simp at hw; first | (rw [← hw]; decide) | (rw [← hw]; simp)) ?_
              refine A_goto (off := 32) (tgt := 150) (by decide +kernel) (by omega) ?_
              refine A_iinc (i := 4) (n := 1) (by decide +kernel) (by decide) rfl (fun w h0 hw => by simp at hw; first | (rw [← hw]; decide) | (rw [← hw]; simp)) ?_
              refine A_goto (off := (-132)) (tgt := 21) (by decide +kernel) (by omega) ?_
              exact A_weak (lsub.keep (lsub.keep (lsub.keep (lsub.keep (lsub.keep (lsub.drop (lsub.drop lsub.nil))))))) h45
          · have h42 := h39.2 (Decidable.not_not.mp b40)
            refine A_iload_n (i := 2) (f := 2) rfl (by decide +kernel) rfl ?_
            refine A_iconst (a := 1) (by decide +kernel) (by unfold in32; omega) ?_
            refine A_iload (i := 5) (by decide +kernel) rfl ?_
            refine A_ishl (by decide +kernel) ?_
            refine A_iadd (by decide +kernel) ?_
            refine A_istore_n (i := 2) (f := 2) rfl (by decide +kernel) (by decide) (fun w h0 hw => by simp at hw; first | (rw [← hw]; decide) | (rw [← hw]; simp)) ?_
            refine A_goto (off := 44) (tgt := 150) (by decide +kernel) (by omega) ?_
            refine A_iinc (i := 4) (n := 1) (by decide +kernel) (by decide) rfl (fun w h0 hw => by simp at hw; first | (rw [← hw]; decide) | (rw [← hw]; simp)) ?_
            refine A_goto (off := (-132)) (tgt := 21) (by decide +kernel) (by omega) ?_
            exact A_weak (lsub.keep (lsub.keep (lsub.keep (lsub.keep (lsub.keep (lsub.drop (lsub.drop lsub.nil))))))) h42
        · have h36 := h15.2 (Int.not_le.mp b34)
          refine A_iload_n (i := 2) (f := 2) rfl (by decide +kernel) rfl ?_
          refine A_iconst (a := 3) (by decide +kernel) (by unfold in32; omega) ?_
          refine A_iload (i := 5) (by decide +kernel) rfl ?_
          refine A_ishl (by decide +kernel) ?_
          refine A_iconst (a := (-1)) (by decide +kernel) (by unfold in32; omega) ?_
          refine A_ixor (by decide +kernel) ?_
          refine A_iand (by decide +kernel) ?_
          refine A_istore_n (i := 2) (f := 2) rfl (by decide +kernel) (by decide) (fun w h0 hw => by simp at hw; first | (rw [← hw]; decide) | (rw [← hw]; simp)) ?_
          refine A_iinc (i := 3) (n := (-1)) (by decide +kernel) (by decide) rfl (fun w h0 hw => by simp at hw; first | (rw [← hw]; decide) | (rw [← hw]; simp)) ?_
          refine A_iload_n (i := 2) (f := 2) rfl (by decide +kernel) rfl ?_
          refine A_iconst (a := 1) (by decide +kernel) (by unfold in32; omega) ?_
          refine A_iload_n (i := 3) (f := 3) rfl (by decide +kernel) rfl ?_
          refine A_cSi (args := [(0, (w32 (x3 + (-1))))]) (st := [(0, 1), (0, (iand x2 (ixor (ishl 3 r7) (-1))))]) (by decide +kernel) cv_m6_shiftOf st_m6_shiftOf lk_6_59 rfl (by omega) (Nat.le_of_ble_eq_true rfl) h36 (fun r49 M50 _ h51 => ?_)
          refine A_ishl (by decide +kernel) ?_
          refine A_iadd (by decide +kernel) ?_
          refine A_istore_n (i := 2) (f := 2) rfl (by decide +kernel) (by decide) (fun w h0 hw => by simp at hw; first | (rw [← hw]; decide) | (rw [← hw]; simp)) ?_
          refine A_goto (off := 62) (tgt := 150) (by decide +kernel) (by omega) ?_
          refine A_iinc (i := 4) (n := 1) (by decide +kernel) (by decide) rfl (fun w h0 hw => by simp at hw; first | (rw [← hw]; decide) | (rw [← hw]; simp)) ?_
          refine A_goto (off := (-132)) (tgt := 21) (by decide +kernel) (by omega) ?_
          exact A_weak (lsub.keep (lsub.keep (lsub.keep (lsub.keep (lsub.keep (lsub.drop (lsub.drop lsub.nil))))))) h51
theorem q_6_goesOnSoFar {x0 : Int} {x1 : Int} {M : Mem} {P : Int → Mem → Prop} (h : (CI m10_at 1 [(34, ((94 : Nat) : Int)), (0, x1)] M (fun r1 M2 => (CI m10_at 1 [(34, ((95 : Nat) : Int)), (0, x1)] M2 (fun r4 M5 => (CI m6_between 2 [(0, x0), (0, r1), (0, r4)] M5 (fun r7 M8 => A m6_goesOnSoFar 3 0 27 [(0, x0), (2, 0), (0, r1), (0, r4), (0, r7), (0, 0)] [] M8 (Ki P)))))))) : CI m6_goesOnSoFar 3 [(0, x0), (0, x1)] M P := by
  refine CI_of (by decide +kernel) (Nat.le_of_ble_eq_true rfl) ?_
  show A m6_goesOnSoFar 3 0 0 [(0, x0), (0, x1), (2, 0), (2, 0), (2, 0), (2, 0)] [] M (Ki P)
  refine A_gets (i := 94) (nm := "ONES") (by simp) (by decide +kernel) fl_6_70 ?_
  refine A_iload_n (i := 1) (f := 1) rfl (by decide +kernel) rfl ?_
  refine A_cSNi (args := [(34, ((94 : Nat) : Int)), (0, x1)]) (st := []) (by decide +kernel) cv_m10_at st_m10_at lk_6_42 rfl (by omega) (Nat.le_of_ble_eq_true rfl) h (fun r1 M2 _ h3 => ?_)
  refine A_istore_n (i := 2) (f := 2) rfl (by decide +kernel) (by decide) (fun w h0 hw => by simp at hw; first | (rw [← hw]; decide) | (rw [← hw]; simp)) ?_
  refine A_gets (i := 95) (nm := "OTHERS") (by simp) (by decide +kernel) fl_6_63 ?_
  refine A_iload_n (i := 1) (f := 1) rfl (by decide +kernel) rfl ?_
  refine A_cSNi (args := [(34, ((95 : Nat) : Int)), (0, x1)]) (st := []) (by decide +kernel) cv_m10_at st_m10_at lk_6_42 rfl (by omega) (Nat.le_of_ble_eq_true rfl) h3 (fun r4 M5 _ h6 => ?_)
  refine A_istore_n (i := 3) (f := 3) rfl (by decide +kernel) (by decide) (fun w h0 hw => by simp at hw; first | (rw [← hw]; decide) | (rw [← hw]; simp)) ?_
  refine A_iload_n (i := 0) (f := 0) rfl (by decide +kernel) rfl ?_
  refine A_iload_n (i := 2) (f := 2) rfl (by decide +kernel) rfl ?_
  refine A_iload_n (i := 3) (f := 3) rfl (by decide +kernel) rfl ?_
  refine A_cSi (args := [(0, x0), (0, r1), (0, r4)]) (st := []) (by decide +kernel) cv_m6_between st_m6_between lk_6_54 rfl (by omega) (Nat.le_of_ble_eq_true rfl) h6 (fun r7 M8 _ h9 => ?_)
  refine A_istore (i := 4) (by decide +kernel) (by decide) (fun w h0 hw => by simp at hw; first | (rw [← hw]; decide) | (rw [← hw]; simp)) ?_
  refine A_iconst (a := 0) (by decide +kernel) (by unfold in32; omega) ?_
  refine A_istore (i := 5) (by decide +kernel) (by decide) (fun w h0 hw => by simp at hw; first | (rw [← hw]; decide) | (rw [← hw]; simp)) ?_
  exact A_weak (lsub.keep (lsub.drop (lsub.keep (lsub.keep (lsub.keep (lsub.keep lsub.nil)))))) h9
theorem r_6_goesOnSoFar_27 {x0 : Int} {x2 : Int} {x3 : Int} {x4 : Int} {x5 : Int} {M : Mem} {P : Int → Mem → Prop} (h : ((x2 ≤ x5 → (P 1 M)) ∧ (x5 < x2 → (CI m6_between 2 [(0, x0), (0, x5), (0, x2)] M (fun r4 M5 => (CI m6_between 2 [(0, x0), (0, x5), (0, x3)] M5 (fun r7 M8 => (CI m10_goesOn 2 [(0, r4), (0, x4), (0, r7)] M8 (fun r10 M11 => ((r10 ≠ 0 → A m6_goesOnSoFar 3 0 27 [(0, x0), (2, 0), (0, x2), (0, x3), (0, x4), (0, (w32 (x5 + 1)))] [] M11 (Ki P)) ∧ (r10 = 0 → (P 0 M11)))))))))))) : A m6_goesOnSoFar 3 0 27 [(0, x0), (2, 0), (0, x2), (0, x3), (0, x4), (0, x5)] [] M (Ki P) := by
  refine A_iload (i := 5) (by decide +kernel) rfl ?_
  refine A_iload_n (i := 2) (f := 2) rfl (by decide +kernel) rfl ?_
  refine A_ic_ge (off := 33) (tgt := 63) (by decide +kernel) (by omega) (fun b1 => ?_) (fun b1 => ?_)
  · have h2 := h.1 b1
    refine A_iconst (a := 1) (by decide +kernel) (by unfold in32; omega) ?_
    exact A_ret ⟨by decide +kernel, Or.inr ⟨rfl, by decide⟩⟩ ⟨_, rfl, h2⟩
  · have h3 := h.2 (Int.not_le.mp b1)
    refine A_iload_n (i := 0) (f := 0) rfl (by decide +kernel) rfl ?_
    refine A_iload (i := 5) (by decide +kernel) rfl ?_
    refine A_iload_n (i := 2) (f := 2) rfl (by decide +kernel) rfl ?_
    refine A_cSi (args := [(0, x0), (0, x5), (0, x2)]) (st := []) (by decide +kernel) cv_m6_between st_m6_between lk_6_54 rfl (by omega) (Nat.le_of_ble_eq_true rfl) h3 (fun r4 M5 _ h6 => ?_)
    refine A_iload (i := 4) (by decide +kernel) rfl ?_
    refine A_iload_n (i := 0) (f := 0) rfl (by decide +kernel) rfl ?_
    refine A_iload (i := 5) (by decide +kernel) rfl ?_
    refine A_iload_n (i := 3) (f := 3) rfl (by decide +kernel) rfl ?_
    refine A_cSi (args := [(0, x0), (0, x5), (0, x3)]) (st := [(0, x4), (0, r4)]) (by decide +kernel) cv_m6_between st_m6_between lk_6_54 rfl (by omega) (Nat.le_of_ble_eq_true rfl) h6 (fun r7 M8 _ h9 => ?_)
    refine A_cSNi (args := [(0, r4), (0, x4), (0, r7)]) (st := []) (by decide +kernel) cv_m10_goesOn st_m10_goesOn lk_6_73 rfl (by omega) (Nat.le_of_ble_eq_true rfl) h9 (fun r10 M11 _ h12 => ?_)
    refine A_if_ne (off := 5) (tgt := 57) (by decide +kernel) (by omega) (fun b13 => ?_) (fun b13 => ?_)
    · have h14 := h12.1 b13
      refine A_iinc (i := 5) (n := 1) (by decide +kernel) (by decide) rfl (fun w h0 hw => by simp at hw; first | (rw [← hw]; decide) | (rw [← hw]; simp)) ?_
      refine A_goto (off := (-33)) (tgt := 27) (by decide +kernel) (by omega) ?_
      exact A_weak (lsub.keep (lsub.drop (lsub.keep (lsub.keep (lsub.keep (lsub.keep lsub.nil)))))) h14
    · have h15 := h12.2 (Decidable.not_not.mp b13)
      refine A_iconst (a := 0) (by decide +kernel) (by unfold in32; omega) ?_
      exact A_ret ⟨by decide +kernel, Or.inr ⟨rfl, by decide⟩⟩ ⟨_, rfl, h15⟩
theorem q_6_shiftOf {x0 : Int} {M : Mem} {P : Int → Mem → Prop} (h : (P (w32 (2 * (w32 (9 - x0)))) M)) : CI m6_shiftOf 1 [(0, x0)] M P := by
  refine CI_of (by decide +kernel) (Nat.le_of_ble_eq_true rfl) ?_
  show A m6_shiftOf 1 0 0 [(0, x0)] [] M (Ki P)
  refine A_iconst (a := 2) (by decide +kernel) (by unfold in32; omega) ?_
  refine A_bipush (a := 9) (by decide +kernel) (by unfold in32; omega) (by decide +kernel) ?_
  refine A_iload_n (i := 0) (f := 0) rfl (by decide +kernel) rfl ?_
  refine A_isub (by decide +kernel) ?_
  refine A_imul (by decide +kernel) ?_
  exact A_ret ⟨by decide +kernel, Or.inl rfl⟩ ⟨_, rfl, h⟩
theorem q_6_between {x0 : Int} {x1 : Int} {x2 : Int} {M : Mem} {P : Int → Mem → Prop} (h : ((x1 ≠ x2 → (CI m10_at 1 [(34, ((96 : Nat) : Int)), (0, (w32 ((w32 (5 * x1)) + x2)))] M (fun r4 M5 => (((iand (ishr x0 r4) 3) ≠ 2 → ((x2 ≤ x1 → (P (w32 (-(iand (ishr x0 r4) 3))) M5)) ∧ (x1 < x2 → (P (iand (ishr x0 r4) 3) M5)))) ∧ ((iand (ishr x0 r4) 3) = 2 → ((x2 ≤ x1 → (P (w32 (-(-1))) M5)) ∧ (x1 < x2 → (P (-1) M5)))))))) ∧ (x1 = x2 → (P 0 M)))) : CI m6_between 2 [(0, x0), (0, x1), (0, x2)] M P := by
  refine CI_of (by decide +kernel) (Nat.le_of_ble_eq_true rfl) ?_
  show A m6_between 2 0 0 [(0, x0), (0, x1), (0, x2), (2, 0), (2, 0)] [] M (Ki P)
  refine A_iload_n (i := 1) (f := 1) rfl (by decide +kernel) rfl ?_
  refine A_iload_n (i := 2) (f := 2) rfl (by decide +kernel) rfl ?_
  refine A_ic_ne (off := 5) (tgt := 7) (by decide +kernel) (by omega) (fun b1 => ?_) (fun b1 => ?_)
  · have h2 := h.1 b1
    refine A_iload_n (i := 0) (f := 0) rfl (by decide +kernel) rfl ?_
    refine A_gets (i := 96) (nm := "SHIFTS") (by simp) (by decide +kernel) fl_6_77 ?_
    refine A_iconst (a := 5) (by decide +kernel) (by unfold in32; omega) ?_
    refine A_iload_n (i := 1) (f := 1) rfl (by decide +kernel) rfl ?_
    refine A_imul (by decide +kernel) ?_
    refine A_iload_n (i := 2) (f := 2) rfl (by decide +kernel) rfl ?_
    refine A_iadd (by decide +kernel) ?_
    refine A_cSNi (args := [(34, ((96 : Nat) : Int)), (0, (w32 ((w32 (5 * x1)) + x2)))]) (st := [(0, x0)]) (by decide +kernel) cv_m10_at st_m10_at lk_6_42 rfl (by omega) (Nat.le_of_ble_eq_true rfl) h2 (fun r4 M5 _ h6 => ?_)
    refine A_ishr (by decide +kernel) ?_
    refine A_iconst (a := 3) (by decide +kernel) (by unfold in32; omega) ?_
    refine A_iand (by decide +kernel) ?_
    refine A_istore_n (i := 3) (f := 3) rfl (by decide +kernel) (by decide) (fun w h0 hw => by simp at hw; first | (rw [← hw]; decide) | (rw [← hw]; simp)) ?_
    refine A_iload_n (i := 3) (f := 3) rfl (by decide +kernel) rfl ?_
    refine A_iconst (a := 2) (by decide +kernel) (by unfold in32; omega) ?_
    refine A_ic_ne (off := 7) (tgt := 32) (by decide +kernel) (by omega) (fun b7 => ?_) (fun b7 => ?_)
    · have h8 := h6.1 b7
      refine A_iload_n (i := 3) (f := 3) rfl (by decide +kernel) rfl ?_
      refine A_istore (i := 4) (by decide +kernel) (by decide) (fun w h0 hw => by simp at hw; first | (rw [← hw]; decide) | (rw [← hw]; simp)) ?_
      refine A_iload_n (i := 1) (f := 1) rfl (by decide +kernel) rfl ?_
      refine A_iload_n (i := 2) (f := 2) rfl (by decide +kernel) rfl ?_
      refine A_ic_ge (off := 8) (tgt := 45) (by decide +kernel) (by omega) (fun b10 => ?_) (fun b10 => ?_)
      · have h11 := h8.1 b10
        refine A_iload (i := 4) (by decide +kernel) rfl ?_
        refine A_ineg (by decide +kernel) ?_
        exact A_ret ⟨by decide +kernel, Or.inl rfl⟩ ⟨_, rfl, h11⟩
      · have h12 := h8.2 (Int.not_le.mp b10)
        refine A_iload (i := 4) (by decide +kernel) rfl ?_
        refine A_goto (off := 6) (tgt := 48) (by decide +kernel) (by omega) ?_
        exact A_ret ⟨by decide +kernel, Or.inl rfl⟩ ⟨_, rfl, h12⟩
    · have h9 := h6.2 (Decidable.not_not.mp b7)
      refine A_iconst (a := (-1)) (by decide +kernel) (by unfold in32; omega) ?_
      refine A_goto (off := 4) (tgt := 33) (by decide +kernel) (by omega) ?_
      refine A_istore (i := 4) (by decide +kernel) (by decide) (fun w h0 hw => by simp at hw; first | (rw [← hw]; decide) | (rw [← hw]; simp)) ?_
      refine A_iload_n (i := 1) (f := 1) rfl (by decide +kernel) rfl ?_
      refine A_iload_n (i := 2) (f := 2) rfl (by decide +kernel) rfl ?_
      refine A_ic_ge (off := 8) (tgt := 45) (by decide +kernel) (by omega) (fun b13 => ?_) (fun b13 => ?_)
      · have h14 := h9.1 b13
        refine A_iload (i := 4) (by decide +kernel) rfl ?_
        refine A_ineg (by decide +kernel) ?_
        exact A_ret ⟨by decide +kernel, Or.inl rfl⟩ ⟨_, rfl, h14⟩
      · have h15 := h9.2 (Int.not_le.mp b13)
        refine A_iload (i := 4) (by decide +kernel) rfl ?_
        refine A_goto (off := 6) (tgt := 48) (by decide +kernel) (by omega) ?_
        exact A_ret ⟨by decide +kernel, Or.inl rfl⟩ ⟨_, rfl, h15⟩
  · have h3 := h.2 (Decidable.not_not.mp b1)
    refine A_iconst (a := 0) (by decide +kernel) (by unfold in32; omega) ?_
    exact A_ret ⟨by decide +kernel, Or.inl rfl⟩ ⟨_, rfl, h3⟩
