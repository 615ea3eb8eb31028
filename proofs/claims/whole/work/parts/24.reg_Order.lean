/-! CourtTongue$Order: its regions (made by wip/whole/gall.py) -/
theorem q_5_build {o : Nat} {p1 : Nat} {x2 : Int} {x3 : Int} {M : Mem} {P : Mem → Prop} (h : A m5_build 3 0 8 [(15, (o : Int)), (12, (p1 : Int)), (0, x2), (2, 0), (0, 0)] [] (mset M o 4 x3) (Kd P)) : CD m5_build 3 [(15, (o : Int)), (12, (p1 : Int)), (0, x2), (0, x3)] M P := by
  refine CD_of (by decide +kernel) (Nat.le_of_ble_eq_true rfl) ?_
  show A m5_build 3 0 0 [(15, (o : Int)), (12, (p1 : Int)), (0, x2), (0, x3), (2, 0)] [] M (Kd P)
  refine A_aload_n (i := 0) (f := 0) (by omega) rfl (by decide +kernel) rfl ?_
  refine A_iload_n (i := 3) (f := 3) rfl (by decide +kernel) rfl ?_
  refine B_putp (M' := (mset M o 4 x3)) (q := (RX5, TX5, 5)) (ci := 5) (j := 4) (p := 4) (by decide +kernel) rfl (by decide) rfl (Or.inl ⟨rfl, rfl⟩) rfl fl_5_24 rfl ?_
  refine A_iconst (a := 0) (by decide +kernel) (by unfold in32; omega) ?_
  refine A_istore (i := 4) (by decide +kernel) (by decide) (fun w h0 hw => by simp at hw; first | (rw [← hw]; decide) | (rw [← hw]; simp)) ?_
  exact A_weak (lsub.keep (lsub.keep (lsub.keep (lsub.drop (lsub.keep lsub.nil))))) h
theorem r_5_build_8 {o : Nat} {p1 : Nat} {x2 : Int} {x4 : Int} {M : Mem} {P : Mem → Prop} (h : ((8 ≤ x4 → A m5_build 3 0 47 [(15, (o : Int)), (12, (p1 : Int)), (0, x2), (2, 0), (0, 0)] [] M (Kd P)) ∧ (x4 < 8 → (CD m10_put 1 [(30, ((o + 1 : Nat) : Int)), (0, x4), (0, (ishl 1 x4))] M (fun M5 => (CD m10_put 1 [(30, ((o + 2 : Nat) : Int)), (0, x4), (0, 0)] M5 (fun M8 => A m5_build 3 0 8 [(15, (o : Int)), (12, (p1 : Int)), (0, x2), (2, 0), (0, (w32 (x4 + 1)))] [] M8 (Kd P)))))))) : A m5_build 3 0 8 [(15, (o : Int)), (12, (p1 : Int)), (0, x2), (2, 0), (0, x4)] [] M (Kd P) := by
  refine A_iload (i := 4) (by decide +kernel) rfl ?_
  refine A_bipush (a := 8) (by decide +kernel) (by unfold in32; omega) (by decide +kernel) ?_
  refine A_ic_ge (off := 32) (tgt := 44) (by decide +kernel) (by omega) (fun b1 => ?_) (fun b1 => ?_)
  · have h2 := h.1 b1
    refine A_iconst (a := 0) (by decide +kernel) (by unfold in32; omega) ?_
    refine A_istore (i := 4) (by decide +kernel) (by decide) (fun w h0 hw => by simp at hw; first | (rw [← hw]; decide) | (rw [← hw]; simp)) ?_
    exact A_weak (lsub.keep (lsub.keep (lsub.keep (lsub.drop (lsub.keep lsub.nil))))) h2
  · have h3 := h.2 (Int.not_le.mp b1)
    refine A_aload_n (i := 0) (f := 0) (by omega) rfl (by decide +kernel) rfl ?_
    refine B_getr (o' := ((o + 1 : Nat) : Int)) (q := (RX5, TX5, 5)) (ci := 5) (j := 0) (by decide +kernel) rfl (by decide) rfl (by omega) fl_5_9 rfl ?_
    refine A_iload (i := 4) (by decide +kernel) rfl ?_
    refine A_iconst (a := 1) (by decide +kernel) (by unfold in32; omega) ?_
    refine A_iload (i := 4) (by decide +kernel) rfl ?_
    refine A_ishl (by decide +kernel) ?_
    refine A_cSNd (args := [(30, ((o + 1 : Nat) : Int)), (0, x4), (0, (ishl 1 x4))]) (st := []) (by decide +kernel) cv_m10_put st_m10_put lk_5_28 rfl (by omega) (Nat.le_of_ble_eq_true rfl) h3 (fun M5 h6 => ?_)
    refine A_aload_n (i := 0) (f := 0) (by omega) rfl (by decide +kernel) rfl ?_
    refine B_getr (o' := ((o + 2 : Nat) : Int)) (q := (RX5, TX5, 5)) (ci := 5) (j := 1) (by decide +kernel) rfl (by decide) rfl (by omega) fl_5_15 rfl ?_
    refine A_iload (i := 4) (by decide +kernel) rfl ?_
    refine A_iconst (a := 0) (by decide +kernel) (by unfold in32; omega) ?_
    refine A_cSNd (args := [(30, ((o + 2 : Nat) : Int)), (0, x4), (0, 0)]) (st := []) (by decide +kernel) cv_m10_put st_m10_put lk_5_28 rfl (by omega) (Nat.le_of_ble_eq_true rfl) h6 (fun M8 h9 => ?_)
    refine A_iinc (i := 4) (n := 1) (by decide +kernel) (by decide) rfl (fun w h0 hw => by simp at hw; first | (rw [← hw]; decide) | (rw [← hw]; simp)) ?_
    refine A_goto (off := (-33)) (tgt := 8) (by decide +kernel) (by omega) ?_
    exact A_weak (lsub.keep (lsub.keep (lsub.keep (lsub.drop (lsub.keep lsub.nil))))) h9
theorem r_5_build_47 {o : Nat} {p1 : Nat} {x2 : Int} {x4 : Int} {M : Mem} {P : Mem → Prop} (h : (((M p1 1) ≤ x4 → A m5_build 3 0 101 [(15, (o : Int)), (12, (p1 : Int)), (0, x2), (2, 0), (0, 0)] [] M (Kd P)) ∧ (x4 < (M p1 1) → (CI m2_lives 2 [(12, (p1 : Int)), (0, x4)] M (fun r4 M5 => ((r4 = 0 → A m5_build 3 0 47 [(15, (o : Int)), (12, (p1 : Int)), (0, x2), (2, 0), (0, (w32 (x4 + 1)))] [] M5 (Kd P)) ∧ (r4 ≠ 0 → (CI m2_isLevel 2 [(12, (p1 : Int)), (0, x4)] M5 (fun r10 M11 => ((r10 = 0 → A m5_build 3 0 47 [(15, (o : Int)), (12, (p1 : Int)), (0, x2), (2, 0), (0, (w32 (x4 + 1)))] [] M11 (Kd P)) ∧ (r10 ≠ 0 → (CI m2_cell 2 [(12, (p1 : Int)), (0, x4), (0, 0)] M11 (fun r16 M17 => (CI m2_cell 2 [(12, (p1 : Int)), (0, x4), (0, 1)] M17 (fun r19 M20 => (CD m5_makeLevel 2 [(15, (o : Int)), (0, r16), (0, r19)] M20 (fun M23 => A m5_build 3 0 47 [(15, (o : Int)), (12, (p1 : Int)), (0, x2), (2, 0), (0, (w32 (x4 + 1)))] [] M23 (Kd P)))))))))))))))))) : A m5_build 3 0 47 [(15, (o : Int)), (12, (p1 : Int)), (0, x2), (2, 0), (0, x4)] [] M (Kd P) := by
  refine A_iload (i := 4) (by decide +kernel) rfl ?_
  refine A_aload_n (i := 1) (f := 1) (by omega) rfl (by decide +kernel) rfl ?_
  refine B_getp (v := (M p1 1)) (q := (RX2, TX2, 2)) (ci := 2) (j := 1) (p := 1) (by decide +kernel) rfl (by decide) rfl (Or.inl rfl) fl_5_32 rfl ?_
  refine A_ic_ge (off := 45) (tgt := 98) (by decide +kernel) (by omega) (fun b1 => ?_) (fun b1 => ?_)
  · have h2 := h.1 b1
    refine A_iconst (a := 0) (by decide +kernel) (by unfold in32; omega) ?_
    refine A_istore (i := 4) (by decide +kernel) (by decide) (fun w h0 hw => by simp at hw; first | (rw [← hw]; decide) | (rw [← hw]; simp)) ?_
    exact A_weak (lsub.keep (lsub.keep (lsub.keep (lsub.drop (lsub.keep lsub.nil))))) h2
  · have h3 := h.2 (Int.not_le.mp b1)
    refine A_aload_n (i := 1) (f := 1) (by omega) rfl (by decide +kernel) rfl ?_
    refine A_iload (i := 4) (by decide +kernel) rfl ?_
    refine A_cVi (q := (RX2, TX2, 2)) (ci := 2) (o := (p1 : Int)) (args := [(0, x4)]) (st := []) (by decide +kernel) cv_m2_lives rfl rfl in_m2_lives se_m2_lives lk_5_37 rfl (by omega) (Nat.le_of_ble_eq_true rfl) h3 (fun r4 M5 _ h6 => ?_)
    refine A_if_eq (off := 30) (tgt := 92) (by decide +kernel) (by omega) (fun b7 => ?_) (fun b7 => ?_)
    · have h8 := h6.1 b7
      refine A_iinc (i := 4) (n := 1) (by decide +kernel) (by decide) rfl (fun w h0 hw => by simp at hw; first | (rw [← hw]; decide) | (rw [← hw]; simp)) ?_
      refine A_goto (off := (-48)) (tgt := 47) (by decide +kernel) (by omega) ?_
      exact A_weak (lsub.keep (lsub.keep (lsub.keep (lsub.drop (lsub.keep lsub.nil))))) h8
    · have h9 := h6.2 b7
      refine A_aload_n (i := 1) (f := 1) (by omega) rfl (by decide +kernel) rfl ?_
      refine A_iload (i := 4) (by decide +kernel) rfl ?_
      refine A_cVi (q := (RX2, TX2, 2)) (ci := 2) (o := (p1 : Int)) (args := [(0, x4)]) (st := []) (by decide +kernel) cv_m2_isLevel rfl rfl in_m2_isLevel se_m2_isLevel lk_5_41 rfl (by omega) (Nat.le_of_ble_eq_true rfl) h9 (fun r10 M11 _ h12 => ?_)
      refine A_if_eq (off := 21) (tgt := 92) (by decide +kernel) (by omega) (fun b13 => ?_) (fun b13 => ?_)
      · have h14 := h12.1 b13
        refine A_iinc (i := 4) (n := 1) (by decide +kernel) (by decide) rfl (fun w h0 hw => by simp at hw; first | (rw [← hw]; decide) | (rw [← hw]; simp)) ?_
        refine A_goto (off := (-48)) (tgt := 47) (by decide +kernel) (by omega) ?_
        exact A_weak (lsub.keep (lsub.keep (lsub.keep (lsub.drop (lsub.keep lsub.nil))))) h14
      · have h15 := h12.2 b13
        refine A_aload_n (i := 0) (f := 0) (by omega) rfl (by decide +kernel) rfl ?_
        refine A_aload_n (i := 1) (f := 1) (by omega) rfl (by decide +kernel) rfl ?_
        refine A_iload (i := 4) (by decide +kernel) rfl ?_
        refine A_iconst (a := 0) (by decide +kernel) (by unfold in32; omega) ?_
        refine A_cVi (q := (RX2, TX2, 2)) (ci := 2) (o := (p1 : Int)) (args := [(0, x4), (0, 0)]) (st := [(15, (o : Int))]) (by decide +kernel) cv_m2_cell rfl rfl in_m2_cell se_m2_cell lk_5_44 rfl (by omega) (Nat.le_of_ble_eq_true rfl) h15 (fun r16 M17 _ h18 => ?_)
        refine A_aload_n (i := 1) (f := 1) (by omega) rfl (by decide +kernel) rfl ?_
        refine A_iload (i := 4) (by decide +kernel) rfl ?_
        refine A_iconst (a := 1) (by decide +kernel) (by unfold in32; omega) ?_
        refine A_cVi (q := (RX2, TX2, 2)) (ci := 2) (o := (p1 : Int)) (args := [(0, x4), (0, 1)]) (st := [(0, r16), (15, (o : Int))]) (by decide +kernel) cv_m2_cell rfl rfl in_m2_cell se_m2_cell lk_5_44 rfl (by omega) (Nat.le_of_ble_eq_true rfl) h18 (fun r19 M20 _ h21 => ?_)
        refine A_cVd (q := (RX5, TX5, 5)) (ci := 5) (o := (o : Int)) (args := [(0, r16), (0, r19)]) (st := []) (by decide +kernel) cv_m5_makeLevel rfl rfl in_m5_makeLevel se_m5_makeLevel lk_5_48 rfl (by omega) (Nat.le_of_ble_eq_true rfl) h21 (fun M23 h24 => ?_)
        refine A_iinc (i := 4) (n := 1) (by decide +kernel) (by decide) rfl (fun w h0 hw => by simp at hw; first | (rw [← hw]; decide) | (rw [← hw]; simp)) ?_
        refine A_goto (off := (-48)) (tgt := 47) (by decide +kernel) (by omega) ?_
        exact A_weak (lsub.keep (lsub.keep (lsub.keep (lsub.drop (lsub.keep lsub.nil))))) h24
theorem r_5_build_101 {o : Nat} {p1 : Nat} {x2 : Int} {x4 : Int} {M : Mem} {P : Mem → Prop} (h : (((M p1 1) ≤ x4 → (CD m5_goOn 2 [(15, (o : Int))] M (fun M5 => (P M5)))) ∧ (x4 < (M p1 1) → (CI m2_lives 2 [(12, (p1 : Int)), (0, x4)] M (fun r7 M8 => ((r7 = 0 → A m5_build 3 0 101 [(15, (o : Int)), (12, (p1 : Int)), (0, x2), (2, 0), (0, (w32 (x4 + 1)))] [] M8 (Kd P)) ∧ (r7 ≠ 0 → (CI m2_isLevel 2 [(12, (p1 : Int)), (0, x4)] M8 (fun r13 M14 => ((r13 ≠ 0 → A m5_build 3 0 101 [(15, (o : Int)), (12, (p1 : Int)), (0, x2), (2, 0), (0, (w32 (x4 + 1)))] [] M14 (Kd P)) ∧ (r13 = 0 → (CI m2_isOf 2 [(12, (p1 : Int)), (0, x4), (0, x2)] M14 (fun r19 M20 => ((r19 = 0 → A m5_build 3 0 101 [(15, (o : Int)), (12, (p1 : Int)), (0, x2), (2, 0), (0, (w32 (x4 + 1)))] [] M20 (Kd P)) ∧ (r19 ≠ 0 → (CI m2_cell 2 [(12, (p1 : Int)), (0, x4), (0, 0)] M20 (fun r25 M26 => (CI m2_cell 2 [(12, (p1 : Int)), (0, x4), (0, 1)] M26 (fun r28 M29 => (CD m5_putAbove 2 [(15, (o : Int)), (0, r25), (0, r28)] M29 (fun M32 => A m5_build 3 0 101 [(15, (o : Int)), (12, (p1 : Int)), (0, x2), (2, 0), (0, (w32 (x4 + 1)))] [] M32 (Kd P)))))))))))))))))))))) : A m5_build 3 0 101 [(15, (o : Int)), (12, (p1 : Int)), (0, x2), (2, 0), (0, x4)] [] M (Kd P) := by
  refine A_iload (i := 4) (by decide +kernel) rfl ?_
  refine A_aload_n (i := 1) (f := 1) (by omega) rfl (by decide +kernel) rfl ?_
  refine B_getp (v := (M p1 1)) (q := (RX2, TX2, 2)) (ci := 2) (j := 1) (p := 1) (by decide +kernel) rfl (by decide) rfl (Or.inl rfl) fl_5_32 rfl ?_
  refine A_ic_ge (off := 55) (tgt := 162) (by decide +kernel) (by omega) (fun b1 => ?_) (fun b1 => ?_)
  · have h2 := h.1 b1
    refine A_aload_n (i := 0) (f := 0) (by omega) rfl (by decide +kernel) rfl ?_
    refine A_cVd (q := (RX5, TX5, 5)) (ci := 5) (o := (o : Int)) (args := []) (st := []) (by decide +kernel) cv_m5_goOn rfl rfl in_m5_goOn se_m5_goOn lk_5_59 rfl (by omega) (Nat.le_of_ble_eq_true rfl) h2 (fun M5 h6 => ?_)
    exact A_ret ⟨by decide +kernel, rfl⟩ ⟨rfl, h6⟩
  · have h3 := h.2 (Int.not_le.mp b1)
    refine A_aload_n (i := 1) (f := 1) (by omega) rfl (by decide +kernel) rfl ?_
    refine A_iload (i := 4) (by decide +kernel) rfl ?_
    refine A_cVi (q := (RX2, TX2, 2)) (ci := 2) (o := (p1 : Int)) (args := [(0, x4)]) (st := []) (by decide +kernel) cv_m2_lives rfl rfl in_m2_lives se_m2_lives lk_5_37 rfl (by omega) (Nat.le_of_ble_eq_true rfl) h3 (fun r7 M8 _ h9 => ?_)
    refine A_if_eq (off := 40) (tgt := 156) (by decide +kernel) (by omega) (fun b10 => ?_) (fun b10 => ?_)
    · have h11 := h9.1 b10
      refine A_iinc (i := 4) (n := 1) (by decide +kernel) (by decide) rfl (fun w h0 hw => by simp at hw; first | (rw [← hw]; decide) | (rw [← hw]; simp)) ?_
      refine A_goto (off := (-58)) (tgt := 101) (by decide +kernel) (by omega) ?_
      exact A_weak (lsub.keep (lsub.keep (lsub.keep (lsub.drop (lsub.keep lsub.nil))))) h11
    · have h12 := h9.2 b10
      refine A_aload_n (i := 1) (f := 1) (by omega) rfl (by decide +kernel) rfl ?_
      refine A_iload (i := 4) (by decide +kernel) rfl ?_
      refine A_cVi (q := (RX2, TX2, 2)) (ci := 2) (o := (p1 : Int)) (args := [(0, x4)]) (st := []) (by decide +kernel) cv_m2_isLevel rfl rfl in_m2_isLevel se_m2_isLevel lk_5_41 rfl (by omega) (Nat.le_of_ble_eq_true rfl) h12 (fun r13 M14 _ h15 => ?_)
      refine A_if_ne (off := 31) (tgt := 156) (by decide +kernel) (by omega) (fun b16 => ?_) (fun b16 => ?_)
      · have h17 := h15.1 b16
        refine A_iinc (i := 4) (n := 1) (by decide +kernel) (by decide) rfl (fun w h0 hw => by simp at hw; first | (rw [← hw]; decide) | (rw [← hw]; simp)) ?_
        refine A_goto (off := (-58)) (tgt := 101) (by decide +kernel) (by omega) ?_
        exact A_weak (lsub.keep (lsub.keep (lsub.keep (lsub.drop (lsub.keep lsub.nil))))) h17
      · have h18 := h15.2 (Decidable.not_not.mp b16)
        refine A_aload_n (i := 1) (f := 1) (by omega) rfl (by decide +kernel) rfl ?_
        refine A_iload (i := 4) (by decide +kernel) rfl ?_
        refine A_iload_n (i := 2) (f := 2) rfl (by decide +kernel) rfl ?_
        refine A_cVi (q := (RX2, TX2, 2)) (ci := 2) (o := (p1 : Int)) (args := [(0, x4), (0, x2)]) (st := []) (by decide +kernel) cv_m2_isOf rfl rfl in_m2_isOf se_m2_isOf lk_5_52 rfl (by omega) (Nat.le_of_ble_eq_true rfl) h18 (fun r19 M20 _ h21 => ?_)
        refine A_if_eq (off := 21) (tgt := 156) (by decide +kernel) (by omega) (fun b22 => ?_) (fun b22 => ?_)
        · have h23 := h21.1 b22
          refine A_iinc (i := 4) (n := 1) (by decide +kernel) (by decide) rfl (fun w h0 hw => by simp at hw; first | (rw [← hw]; decide) | (rw [← hw]; simp)) ?_
          refine A_goto (off := (-58)) (tgt := 101) (by decide +kernel) (by omega) ?_
          exact A_weak (lsub.keep (lsub.keep (lsub.keep (lsub.drop (lsub.keep lsub.nil))))) h23
        · have h24 := h21.2 b22
          refine A_aload_n (i := 0) (f := 0) (by omega) rfl (by decide +kernel) rfl ?_
          refine A_aload_n (i := 1) (f := 1) (by omega) rfl (by decide +kernel) rfl ?_
          refine A_iload (i := 4) (by decide +kernel) rfl ?_
          refine A_iconst (a := 0) (by decide +kernel) (by unfold in32; omega) ?_
          refine A_cVi (q := (RX2, TX2, 2)) (ci := 2) (o := (p1 : Int)) (args := [(0, x4), (0, 0)]) (st := [(15, (o : Int))]) (by decide +kernel) cv_m2_cell rfl rfl in_m2_cell se_m2_cell lk_5_44 rfl (by omega) (Nat.le_of_ble_eq_true rfl) h24 (fun r25 M26 _ h27 => ?_)
          refine A_aload_n (i := 1) (f := 1) (by omega) rfl (by decide +kernel) rfl ?_
          refine A_iload (i := 4) (by decide +kernel) rfl ?_
          refine A_iconst (a := 1) (by decide +kernel) (by unfold in32; omega) ?_
          refine A_cVi (q := (RX2, TX2, 2)) (ci := 2) (o := (p1 : Int)) (args := [(0, x4), (0, 1)]) (st := [(0, r25), (15, (o : Int))]) (by decide +kernel) cv_m2_cell rfl rfl in_m2_cell se_m2_cell lk_5_44 rfl (by omega) (Nat.le_of_ble_eq_true rfl) h27 (fun r28 M29 _ h30 => ?_)
          refine A_cVd (q := (RX5, TX5, 5)) (ci := 5) (o := (o : Int)) (args := [(0, r25), (0, r28)]) (st := []) (by decide +kernel) cv_m5_putAbove rfl rfl in_m5_putAbove se_m5_putAbove lk_5_56 rfl (by omega) (Nat.le_of_ble_eq_true rfl) h30 (fun M32 h33 => ?_)
          refine A_iinc (i := 4) (n := 1) (by decide +kernel) (by decide) rfl (fun w h0 hw => by simp at hw; first | (rw [← hw]; decide) | (rw [← hw]; simp)) ?_
          refine A_goto (off := (-58)) (tgt := 101) (by decide +kernel) (by omega) ?_
          exact A_weak (lsub.keep (lsub.keep (lsub.keep (lsub.drop (lsub.keep lsub.nil))))) h33
theorem q_5_makeLevel {o : Nat} {x1 : Int} {x2 : Int} {M : Mem} {P : Mem → Prop} (h : (CI m10_at 1 [(30, ((o + 1 : Nat) : Int)), (0, x1)] M (fun r1 M2 => (CI m10_at 1 [(30, ((o + 1 : Nat) : Int)), (0, x2)] M2 (fun r4 M5 => A m5_makeLevel 2 0 21 [(15, (o : Int)), (2, 0), (2, 0), (0, (ior r1 r4)), (0, 0)] [] M5 (Kd P)))))) : CD m5_makeLevel 2 [(15, (o : Int)), (0, x1), (0, x2)] M P := by
  refine CD_of (by decide +kernel) (Nat.le_of_ble_eq_true rfl) ?_
  show A m5_makeLevel 2 0 0 [(15, (o : Int)), (0, x1), (0, x2), (2, 0), (2, 0)] [] M (Kd P)
  refine A_aload_n (i := 0) (f := 0) (by omega) rfl (by decide +kernel) rfl ?_
  refine B_getr (o' := ((o + 1 : Nat) : Int)) (q := (RX5, TX5, 5)) (ci := 5) (j := 0) (by decide +kernel) rfl (by decide) rfl (by omega) fl_5_9 rfl ?_
  refine A_iload_n (i := 1) (f := 1) rfl (by decide +kernel) rfl ?_
  refine A_cSNi (args := [(30, ((o + 1 : Nat) : Int)), (0, x1)]) (st := []) (by decide +kernel) cv_m10_at st_m10_at lk_5_62 rfl (by omega) (Nat.le_of_ble_eq_true rfl) h (fun r1 M2 _ h3 => ?_)
  refine A_aload_n (i := 0) (f := 0) (by omega) rfl (by decide +kernel) rfl ?_
  refine B_getr (o' := ((o + 1 : Nat) : Int)) (q := (RX5, TX5, 5)) (ci := 5) (j := 0) (by decide +kernel) rfl (by decide) rfl (by omega) fl_5_9 rfl ?_
  refine A_iload_n (i := 2) (f := 2) rfl (by decide +kernel) rfl ?_
  refine A_cSNi (args := [(30, ((o + 1 : Nat) : Int)), (0, x2)]) (st := [(0, r1)]) (by decide +kernel) cv_m10_at st_m10_at lk_5_62 rfl (by omega) (Nat.le_of_ble_eq_true rfl) h3 (fun r4 M5 _ h6 => ?_)
  refine A_ior (by decide +kernel) ?_
  refine A_istore_n (i := 3) (f := 3) rfl (by decide +kernel) (by decide) (fun w h0 hw => by simp at hw; first | (rw [← hw]; decide) | (rw [← hw]; simp)) ?_
  refine A_iconst (a := 0) (by decide +kernel) (by unfold in32; omega) ?_
  refine A_istore (i := 4) (by decide +kernel) (by decide) (fun w h0 hw => by simp at hw; first | (rw [← hw]; decide) | (rw [← hw]; simp)) ?_
  exact A_weak (lsub.keep (lsub.drop (lsub.drop (lsub.keep (lsub.keep lsub.nil))))) h6
theorem r_5_makeLevel_21 {o : Nat} {x3 : Int} {x4 : Int} {M : Mem} {P : Mem → Prop} (h : (((M o 4) ≤ x4 → (P M)) ∧ (x4 < (M o 4) → (((iand (ishr x3 x4) 1) ≠ 1 → A m5_makeLevel 2 0 21 [(15, (o : Int)), (2, 0), (2, 0), (0, x3), (0, (w32 (x4 + 1)))] [] M (Kd P)) ∧ ((iand (ishr x3 x4) 1) = 1 → (CD m10_put 1 [(30, ((o + 1 : Nat) : Int)), (0, x4), (0, x3)] M (fun M8 => A m5_makeLevel 2 0 21 [(15, (o : Int)), (2, 0), (2, 0), (0, x3), (0, (w32 (x4 + 1)))] [] M8 (Kd P)))))))) : A m5_makeLevel 2 0 21 [(15, (o : Int)), (2, 0), (2, 0), (0, x3), (0, x4)] [] M (Kd P) := by
  refine A_iload (i := 4) (by decide +kernel) rfl ?_
  refine A_aload_n (i := 0) (f := 0) (by omega) rfl (by decide +kernel) rfl ?_
  refine B_getp (v := (M o 4)) (q := (RX5, TX5, 5)) (ci := 5) (j := 4) (p := 4) (by decide +kernel) rfl (by decide) rfl (Or.inl rfl) fl_5_24 rfl ?_
  refine A_ic_ge (off := 29) (tgt := 56) (by decide +kernel) (by omega) (fun b1 => ?_) (fun b1 => ?_)
  · have h2 := h.1 b1
    exact A_ret ⟨by decide +kernel, rfl⟩ ⟨rfl, h2⟩
  · have h3 := h.2 (Int.not_le.mp b1)
    refine A_iload_n (i := 3) (f := 3) rfl (by decide +kernel) rfl ?_
    refine A_iload (i := 4) (by decide +kernel) rfl ?_
    refine A_ishr (by decide +kernel) ?_
    refine A_iconst (a := 1) (by decide +kernel) (by unfold in32; omega) ?_
    refine A_iand (by decide +kernel) ?_
    refine A_iconst (a := 1) (by decide +kernel) (by unfold in32; omega) ?_
    refine A_ic_ne (off := 13) (tgt := 50) (by decide +kernel) (by omega) (fun b4 => ?_) (fun b4 => ?_)
    · have h5 := h3.1 b4
      refine A_iinc (i := 4) (n := 1) (by decide +kernel) (by decide) rfl (fun w h0 hw => by simp at hw; first | (rw [← hw]; decide) | (rw [← hw]; simp)) ?_
      refine A_goto (off := (-32)) (tgt := 21) (by decide +kernel) (by omega) ?_
      exact A_weak (lsub.keep (lsub.drop (lsub.drop (lsub.keep (lsub.keep lsub.nil))))) h5
    · have h6 := h3.2 (Decidable.not_not.mp b4)
      refine A_aload_n (i := 0) (f := 0) (by omega) rfl (by decide +kernel) rfl ?_
      refine B_getr (o' := ((o + 1 : Nat) : Int)) (q := (RX5, TX5, 5)) (ci := 5) (j := 0) (by decide +kernel) rfl (by decide) rfl (by omega) fl_5_9 rfl ?_
      refine A_iload (i := 4) (by decide +kernel) rfl ?_
      refine A_iload_n (i := 3) (f := 3) rfl (by decide +kernel) rfl ?_
      refine A_cSNd (args := [(30, ((o + 1 : Nat) : Int)), (0, x4), (0, x3)]) (st := []) (by decide +kernel) cv_m10_put st_m10_put lk_5_28 rfl (by omega) (Nat.le_of_ble_eq_true rfl) h6 (fun M8 h9 => ?_)
      refine A_iinc (i := 4) (n := 1) (by decide +kernel) (by decide) rfl (fun w h0 hw => by simp at hw; first | (rw [← hw]; decide) | (rw [← hw]; simp)) ?_
      refine A_goto (off := (-32)) (tgt := 21) (by decide +kernel) (by omega) ?_
      exact A_weak (lsub.keep (lsub.drop (lsub.drop (lsub.keep (lsub.keep lsub.nil))))) h9
theorem q_5_putAbove {o : Nat} {x1 : Int} {x2 : Int} {M : Mem} {P : Mem → Prop} (h : (CI m10_at 1 [(30, ((o + 1 : Nat) : Int)), (0, x1)] M (fun r1 M2 => A m5_putAbove 2 0 12 [(15, (o : Int)), (2, 0), (0, x2), (0, r1), (0, 0)] [] M2 (Kd P)))) : CD m5_putAbove 2 [(15, (o : Int)), (0, x1), (0, x2)] M P := by
  refine CD_of (by decide +kernel) (Nat.le_of_ble_eq_true rfl) ?_
  show A m5_putAbove 2 0 0 [(15, (o : Int)), (0, x1), (0, x2), (2, 0), (2, 0)] [] M (Kd P)
  refine A_aload_n (i := 0) (f := 0) (by omega) rfl (by decide +kernel) rfl ?_
  refine B_getr (o' := ((o + 1 : Nat) : Int)) (q := (RX5, TX5, 5)) (ci := 5) (j := 0) (by decide +kernel) rfl (by decide) rfl (by omega) fl_5_9 rfl ?_
  refine A_iload_n (i := 1) (f := 1) rfl (by decide +kernel) rfl ?_
  refine A_cSNi (args := [(30, ((o + 1 : Nat) : Int)), (0, x1)]) (st := []) (by decide +kernel) cv_m10_at st_m10_at lk_5_62 rfl (by omega) (Nat.le_of_ble_eq_true rfl) h (fun r1 M2 _ h3 => ?_)
  refine A_istore_n (i := 3) (f := 3) rfl (by decide +kernel) (by decide) (fun w h0 hw => by simp at hw; first | (rw [← hw]; decide) | (rw [← hw]; simp)) ?_
  refine A_iconst (a := 0) (by decide +kernel) (by unfold in32; omega) ?_
  refine A_istore (i := 4) (by decide +kernel) (by decide) (fun w h0 hw => by simp at hw; first | (rw [← hw]; decide) | (rw [← hw]; simp)) ?_
  exact A_weak (lsub.keep (lsub.drop (lsub.keep (lsub.keep (lsub.keep lsub.nil))))) h3
theorem r_5_putAbove_12 {o : Nat} {x2 : Int} {x3 : Int} {x4 : Int} {M : Mem} {P : Mem → Prop} (h : (((M o 4) ≤ x4 → (P M)) ∧ (x4 < (M o 4) → (((iand (ishr x3 x4) 1) ≠ 1 → A m5_putAbove 2 0 12 [(15, (o : Int)), (2, 0), (0, x2), (0, x3), (0, (w32 (x4 + 1)))] [] M (Kd P)) ∧ ((iand (ishr x3 x4) 1) = 1 → (CI m10_at 1 [(30, ((o + 2 : Nat) : Int)), (0, x4)] M (fun r7 M8 => (CI m10_at 1 [(30, ((o + 1 : Nat) : Int)), (0, x2)] M8 (fun r10 M11 => (CD m10_put 1 [(30, ((o + 2 : Nat) : Int)), (0, x4), (0, (ior r7 r10))] M11 (fun M14 => A m5_putAbove 2 0 12 [(15, (o : Int)), (2, 0), (0, x2), (0, x3), (0, (w32 (x4 + 1)))] [] M14 (Kd P)))))))))))) : A m5_putAbove 2 0 12 [(15, (o : Int)), (2, 0), (0, x2), (0, x3), (0, x4)] [] M (Kd P) := by
  refine A_iload (i := 4) (by decide +kernel) rfl ?_
  refine A_aload_n (i := 0) (f := 0) (by omega) rfl (by decide +kernel) rfl ?_
  refine B_getp (v := (M o 4)) (q := (RX5, TX5, 5)) (ci := 5) (j := 4) (p := 4) (by decide +kernel) rfl (by decide) rfl (Or.inl rfl) fl_5_24 rfl ?_
  refine A_ic_ge (off := 46) (tgt := 64) (by decide +kernel) (by omega) (fun b1 => ?_) (fun b1 => ?_)
  · have h2 := h.1 b1
    exact A_ret ⟨by decide +kernel, rfl⟩ ⟨rfl, h2⟩
  · have h3 := h.2 (Int.not_le.mp b1)
    refine A_iload_n (i := 3) (f := 3) rfl (by decide +kernel) rfl ?_
    refine A_iload (i := 4) (by decide +kernel) rfl ?_
    refine A_ishr (by decide +kernel) ?_
    refine A_iconst (a := 1) (by decide +kernel) (by unfold in32; omega) ?_
    refine A_iand (by decide +kernel) ?_
    refine A_iconst (a := 1) (by decide +kernel) (by unfold in32; omega) ?_
    refine A_ic_ne (off := 30) (tgt := 58) (by decide +kernel) (by omega) (fun b4 => ?_) (fun b4 => ?_)
    · have h5 := h3.1 b4
      refine A_iinc (i := 4) (n := 1) (by decide +kernel) (by decide) rfl (fun w h0 hw => by simp at hw; first | (rw [← hw]; decide) | (rw [← hw]; simp)) ?_
      refine A_goto (off := (-49)) (tgt := 12) (by decide +kernel) (by omega) ?_
      exact A_weak (lsub.keep (lsub.drop (lsub.keep (lsub.keep (lsub.keep lsub.nil))))) h5
    · have h6 := h3.2 (Decidable.not_not.mp b4)
      refine A_aload_n (i := 0) (f := 0) (by omega) rfl (by decide +kernel) rfl ?_
      refine B_getr (o' := ((o + 2 : Nat) : Int)) (q := (RX5, TX5, 5)) (ci := 5) (j := 1) (by decide +kernel) rfl (by decide) rfl (by omega) fl_5_15 rfl ?_
      refine A_iload (i := 4) (by decide +kernel) rfl ?_
      refine A_aload_n (i := 0) (f := 0) (by omega) rfl (by decide +kernel) rfl ?_
      refine B_getr (o' := ((o + 2 : Nat) : Int)) (q := (RX5, TX5, 5)) (ci := 5) (j := 1) (by decide +kernel) rfl (by decide) rfl (by omega) fl_5_15 rfl ?_
      refine A_iload (i := 4) (by decide +kernel) rfl ?_
      refine A_cSNi (args := [(30, ((o + 2 : Nat) : Int)), (0, x4)]) (st := [(0, x4), (30, ((o + 2 : Nat) : Int))]) (by decide +kernel) cv_m10_at st_m10_at lk_5_62 rfl (by omega) (Nat.le_of_ble_eq_true rfl) h6 (fun r7 M8 _ h9 => ?_)
      refine A_aload_n (i := 0) (f := 0) (by omega) rfl (by decide +kernel) rfl ?_
      refine B_getr (o' := ((o + 1 : Nat) : Int)) (q := (RX5, TX5, 5)) (ci := 5) (j := 0) (by decide +kernel) rfl (by decide) rfl (by omega) fl_5_9 rfl ?_
      refine A_iload_n (i := 2) (f := 2) rfl (by decide +kernel) rfl ?_
      refine A_cSNi (args := [(30, ((o + 1 : Nat) : Int)), (0, x2)]) (st := [(0, r7), (0, x4), (30, ((o + 2 : Nat) : Int))]) (by decide +kernel) cv_m10_at st_m10_at lk_5_62 rfl (by omega) (Nat.le_of_ble_eq_true rfl) h9 (fun r10 M11 _ h12 => ?_)
      refine A_ior (by decide +kernel) ?_
      refine A_cSNd (args := [(30, ((o + 2 : Nat) : Int)), (0, x4), (0, (ior r7 r10))]) (st := []) (by decide +kernel) cv_m10_put st_m10_put lk_5_28 rfl (by omega) (Nat.le_of_ble_eq_true rfl) h12 (fun M14 h15 => ?_)
      refine A_iinc (i := 4) (n := 1) (by decide +kernel) (by decide) rfl (fun w h0 hw => by simp at hw; first | (rw [← hw]; decide) | (rw [← hw]; simp)) ?_
      refine A_goto (off := (-49)) (tgt := 12) (by decide +kernel) (by omega) ?_
      exact A_weak (lsub.keep (lsub.drop (lsub.keep (lsub.keep (lsub.keep lsub.nil))))) h15
theorem q_5_goOn {o : Nat} {M : Mem} {P : Mem → Prop} (h : ((8 ≤ ((aln (o + 2) : Nat) : Int) ∧ 8 ≤ ((aln (o + 3) : Nat) : Int)) ∧ A m5_goOn 2 0 17 [(15, (o : Int)), (0, 0), (2, 0)] [] (mcpy M (o + 2) (o + 3) 8) (Kd P))) : CD m5_goOn 2 [(15, (o : Int))] M P := by
  refine CD_of (by decide +kernel) (Nat.le_of_ble_eq_true rfl) ?_
  show A m5_goOn 2 0 0 [(15, (o : Int)), (2, 0), (2, 0)] [] M (Kd P)
  refine A_aload_n (i := 0) (f := 0) (by omega) rfl (by decide +kernel) rfl ?_
  refine B_getr (o' := ((o + 2 : Nat) : Int)) (q := (RX5, TX5, 5)) (ci := 5) (j := 1) (by decide +kernel) rfl (by decide) rfl (by omega) fl_5_15 rfl ?_
  refine A_iconst (a := 0) (by decide +kernel) (by unfold in32; omega) ?_
  refine A_aload_n (i := 0) (f := 0) (by omega) rfl (by decide +kernel) rfl ?_
  refine B_getr (o' := ((o + 3 : Nat) : Int)) (q := (RX5, TX5, 5)) (ci := 5) (j := 2) (by decide +kernel) rfl (by decide) rfl (by omega) fl_5_18 rfl ?_
  refine A_iconst (a := 0) (by decide +kernel) (by unfold in32; omega) ?_
  refine A_bipush (a := 8) (by decide +kernel) (by unfold in32; omega) (by decide +kernel) ?_
  refine B_copy (M' := (mcpy M (o + 2) (o + 3) 8)) (by decide +kernel) (by omega) (Nat.le_of_ble_eq_true rfl) lk_5_66 jna_copy jst_copy jin_sys ⟨by omega, h.1.1, h.1.2⟩ rfl ?_
  have h1 := h.2
  refine A_iconst (a := 0) (by decide +kernel) (by unfold in32; omega) ?_
  refine A_istore_n (i := 1) (f := 1) rfl (by decide +kernel) (by decide) (fun w h0 hw => by simp at hw; first | (rw [← hw]; decide) | (rw [← hw]; simp)) ?_
  exact A_weak (lsub.keep (lsub.keep (lsub.drop lsub.nil))) h1
theorem r_5_goOn_17 {o : Nat} {x1 : Int} {M : Mem} {P : Mem → Prop} (h : (((M o 4) ≤ x1 → (P M)) ∧ (x1 < (M o 4) → A m5_goOn 2 0 27 [(15, (o : Int)), (0, x1), (0, 0)] [] M (Kd P)))) : A m5_goOn 2 0 17 [(15, (o : Int)), (0, x1), (2, 0)] [] M (Kd P) := by
  refine A_iload_n (i := 1) (f := 1) rfl (by decide +kernel) rfl ?_
  refine A_aload_n (i := 0) (f := 0) (by omega) rfl (by decide +kernel) rfl ?_
  refine B_getp (v := (M o 4)) (q := (RX5, TX5, 5)) (ci := 5) (j := 4) (p := 4) (by decide +kernel) rfl (by decide) rfl (Or.inl rfl) fl_5_24 rfl ?_
  refine A_ic_ge (off := 66) (tgt := 88) (by decide +kernel) (by omega) (fun b1 => ?_) (fun b1 => ?_)
  · have h2 := h.1 b1
    exact A_ret ⟨by decide +kernel, rfl⟩ ⟨rfl, h2⟩
  · have h3 := h.2 (Int.not_le.mp b1)
    refine A_iconst (a := 0) (by decide +kernel) (by unfold in32; omega) ?_
    refine A_istore_n (i := 2) (f := 2) rfl (by decide +kernel) (by decide) (fun w h0 hw => by simp at hw; first | (rw [← hw]; decide) | (rw [← hw]; simp)) ?_
    exact A_weak (lsub.keep (lsub.keep (lsub.keep lsub.nil))) h3
theorem r_5_goOn_27 {o : Nat} {x1 : Int} {x2 : Int} {M : Mem} {P : Mem → Prop} (h : (((M o 4) ≤ x2 → A m5_goOn 2 0 17 [(15, (o : Int)), (0, (w32 (x1 + 1))), (2, 0)] [] M (Kd P)) ∧ (x2 < (M o 4) → (CI m10_at 1 [(30, ((o + 3 : Nat) : Int)), (0, x2)] M (fun r4 M5 => (((iand (ishr r4 x1) 1) ≠ 1 → A m5_goOn 2 0 27 [(15, (o : Int)), (0, x1), (0, (w32 (x2 + 1)))] [] M5 (Kd P)) ∧ ((iand (ishr r4 x1) 1) = 1 → (CI m10_at 1 [(30, ((o + 3 : Nat) : Int)), (0, x2)] M5 (fun r10 M11 => (CI m10_at 1 [(30, ((o + 3 : Nat) : Int)), (0, x1)] M11 (fun r13 M14 => (CD m10_put 1 [(30, ((o + 3 : Nat) : Int)), (0, x2), (0, (ior r10 r13))] M14 (fun M17 => A m5_goOn 2 0 27 [(15, (o : Int)), (0, x1), (0, (w32 (x2 + 1)))] [] M17 (Kd P)))))))))))))) : A m5_goOn 2 0 27 [(15, (o : Int)), (0, x1), (0, x2)] [] M (Kd P) := by
  refine A_iload_n (i := 2) (f := 2) rfl (by decide +kernel) rfl ?_
  refine A_aload_n (i := 0) (f := 0) (by omega) rfl (by decide +kernel) rfl ?_
  refine B_getp (v := (M o 4)) (q := (RX5, TX5, 5)) (ci := 5) (j := 4) (p := 4) (by decide +kernel) rfl (by decide) rfl (Or.inl rfl) fl_5_24 rfl ?_
  refine A_ic_ge (off := 50) (tgt := 82) (by decide +kernel) (by omega) (fun b1 => ?_) (fun b1 => ?_)
  · have h2 := h.1 b1
    refine A_iinc (i := 1) (n := 1) (by decide +kernel) (by decide) rfl (fun w h0 hw => by simp at hw; first | (rw [← hw]; decide) | (rw [← hw]; simp)) ?_
    refine A_goto (off := (-68)) (tgt := 17) (by decide +kernel) (by omega) ?_
    exact A_weak (lsub.keep (lsub.keep (lsub.drop lsub.nil))) h2
  · have h3 := h.2 (Int.not_le.mp b1)
    refine A_aload_n (i := 0) (f := 0) (by omega) rfl (by decide +kernel) rfl ?_
    refine B_getr (o' := ((o + 3 : Nat) : Int)) (q := (RX5, TX5, 5)) (ci := 5) (j := 2) (by decide +kernel) rfl (by decide) rfl (by omega) fl_5_18 rfl ?_
    refine A_iload_n (i := 2) (f := 2) rfl (by decide +kernel) rfl ?_
    refine A_cSNi (args := [(30, ((o + 3 : Nat) : Int)), (0, x2)]) (st := []) (by decide +kernel) cv_m10_at st_m10_at lk_5_62 rfl (by omega) (Nat.le_of_ble_eq_true rfl) h3 (fun r4 M5 _ h6 => ?_)
    refine A_iload_n (i := 1) (f := 1) rfl (by decide +kernel) rfl ?_
    refine A_ishr (by decide +kernel) ?_
    refine A_iconst (a := 1) (by decide +kernel) (by unfold in32; omega) ?_
    refine A_iand (by decide +kernel) ?_
    refine A_iconst (a := 1) (by decide +kernel) (by unfold in32; omega) ?_
    refine A_ic_ne (off := 28) (tgt := 76) (by decide +kernel) (by omega) (fun b7 => ?_) (fun b7 => ?_)
    · have h8 := h6.1 b7
      refine A_iinc (i := 2) (n := 1) (by decide +kernel) (by decide) rfl (fun w h0 hw => by simp at hw; first | (rw [← hw]; decide) | (rw [← hw]; simp)) ?_
      refine A_goto (off := (-52)) (tgt := 27) (by decide +kernel) (by omega) ?_
      exact A_weak (lsub.keep (lsub.keep (lsub.keep lsub.nil))) h8
    · have h9 := h6.2 (Decidable.not_not.mp b7)
      refine A_aload_n (i := 0) (f := 0) (by omega) rfl (by decide +kernel) rfl ?_
      refine B_getr (o' := ((o + 3 : Nat) : Int)) (q := (RX5, TX5, 5)) (ci := 5) (j := 2) (by decide +kernel) rfl (by decide) rfl (by omega) fl_5_18 rfl ?_
      refine A_iload_n (i := 2) (f := 2) rfl (by decide +kernel) rfl ?_
      refine A_aload_n (i := 0) (f := 0) (by omega) rfl (by decide +kernel) rfl ?_
      refine B_getr (o' := ((o + 3 : Nat) : Int)) (q := (RX5, TX5, 5)) (ci := 5) (j := 2) (by decide +kernel) rfl (by decide) rfl (by omega) fl_5_18 rfl ?_
      refine A_iload_n (i := 2) (f := 2) rfl (by decide +kernel) rfl ?_
      refine A_cSNi (args := [(30, ((o + 3 : Nat) : Int)), (0, x2)]) (st := [(0, x2), (30, ((o + 3 : Nat) : Int))]) (by decide +kernel) cv_m10_at st_m10_at lk_5_62 rfl (by omega) (Nat.le_of_ble_eq_true rfl) h9 (fun r10 M11 _ h12 => ?_)
      refine A_aload_n (i := 0) (f := 0) (by omega) rfl (by decide +kernel) rfl ?_
      refine B_getr (o' := ((o + 3 : Nat) : Int)) (q := (RX5, TX5, 5)) (ci := 5) (j := 2) (by decide +kernel) rfl (by decide) rfl (by omega) fl_5_18 rfl ?_
      refine A_iload_n (i := 1) (f := 1) rfl (by decide +kernel) rfl ?_
      refine A_cSNi (args := [(30, ((o + 3 : Nat) : Int)), (0, x1)]) (st := [(0, r10), (0, x2), (30, ((o + 3 : Nat) : Int))]) (by decide +kernel) cv_m10_at st_m10_at lk_5_62 rfl (by omega) (Nat.le_of_ble_eq_true rfl) h12 (fun r13 M14 _ h15 => ?_)
      refine A_ior (by decide +kernel) ?_
      refine A_cSNd (args := [(30, ((o + 3 : Nat) : Int)), (0, x2), (0, (ior r10 r13))]) (st := []) (by decide +kernel) cv_m10_put st_m10_put lk_5_28 rfl (by omega) (Nat.le_of_ble_eq_true rfl) h15 (fun M17 h18 => ?_)
      refine A_iinc (i := 2) (n := 1) (by decide +kernel) (by decide) rfl (fun w h0 hw => by simp at hw; first | (rw [← hw]; decide) | (rw [← hw]; simp)) ?_
      refine A_goto (off := (-52)) (tgt := 27) (by decide +kernel) (by omega) ?_
      exact A_weak (lsub.keep (lsub.keep (lsub.keep lsub.nil))) h18
theorem q_5_isAbove {o : Nat} {x1 : Int} {x2 : Int} {M : Mem} {P : Int → Mem → Prop} (h : (CI m10_at 1 [(30, ((o + 3 : Nat) : Int)), (0, x1)] M (fun r1 M2 => (((iand (ishr r1 x2) 1) ≠ 1 → (P 0 M2)) ∧ ((iand (ishr r1 x2) 1) = 1 → (P 1 M2)))))) : CI m5_isAbove 2 [(15, (o : Int)), (0, x1), (0, x2)] M P := by
  refine CI_of (by decide +kernel) (Nat.le_of_ble_eq_true rfl) ?_
  show A m5_isAbove 2 0 0 [(15, (o : Int)), (0, x1), (0, x2)] [] M (Ki P)
  refine A_aload_n (i := 0) (f := 0) (by omega) rfl (by decide +kernel) rfl ?_
  refine B_getr (o' := ((o + 3 : Nat) : Int)) (q := (RX5, TX5, 5)) (ci := 5) (j := 2) (by decide +kernel) rfl (by decide) rfl (by omega) fl_5_18 rfl ?_
  refine A_iload_n (i := 1) (f := 1) rfl (by decide +kernel) rfl ?_
  refine A_cSNi (args := [(30, ((o + 3 : Nat) : Int)), (0, x1)]) (st := []) (by decide +kernel) cv_m10_at st_m10_at lk_5_62 rfl (by omega) (Nat.le_of_ble_eq_true rfl) h (fun r1 M2 _ h3 => ?_)
  refine A_iload_n (i := 2) (f := 2) rfl (by decide +kernel) rfl ?_
  refine A_ishr (by decide +kernel) ?_
  refine A_iconst (a := 1) (by decide +kernel) (by unfold in32; omega) ?_
  refine A_iand (by decide +kernel) ?_
  refine A_iconst (a := 1) (by decide +kernel) (by unfold in32; omega) ?_
  refine A_ic_ne (off := 7) (tgt := 20) (by decide +kernel) (by omega) (fun b4 => ?_) (fun b4 => ?_)
  · have h5 := h3.1 b4
    refine A_iconst (a := 0) (by decide +kernel) (by unfold in32; omega) ?_
    exact A_ret ⟨by decide +kernel, Or.inr ⟨rfl, by decide⟩⟩ ⟨_, rfl, h5⟩
  · have h6 := h3.2 (Decidable.not_not.mp b4)
    refine A_iconst (a := 1) (by decide +kernel) (by unfold in32; omega) ?_
    refine A_goto (off := 4) (tgt := 21) (by decide +kernel) (by omega) ?_
    exact A_ret ⟨by decide +kernel, Or.inr ⟨rfl, by decide⟩⟩ ⟨_, rfl, h6⟩
theorem q_5_between {o : Nat} {x1 : Int} {x2 : Int} {M : Mem} {P : Int → Mem → Prop} (h : (CI m5_isAbove 2 [(15, (o : Int)), (0, x1), (0, x2)] M (fun r1 M2 => ((r1 = 0 → (CI m5_isAbove 2 [(15, (o : Int)), (0, x2), (0, x1)] M2 (fun r7 M8 => ((r7 = 0 → (P 0 M8)) ∧ (r7 ≠ 0 → (P (-1) M8)))))) ∧ (r1 ≠ 0 → (P 1 M2)))))) : CI m5_between 3 [(15, (o : Int)), (0, x1), (0, x2)] M P := by
  refine CI_of (by decide +kernel) (Nat.le_of_ble_eq_true rfl) ?_
  show A m5_between 3 0 0 [(15, (o : Int)), (0, x1), (0, x2)] [] M (Ki P)
  refine A_aload_n (i := 0) (f := 0) (by omega) rfl (by decide +kernel) rfl ?_
  refine A_iload_n (i := 1) (f := 1) rfl (by decide +kernel) rfl ?_
  refine A_iload_n (i := 2) (f := 2) rfl (by decide +kernel) rfl ?_
  refine A_cVi (q := (RX5, TX5, 5)) (ci := 5) (o := (o : Int)) (args := [(0, x1), (0, x2)]) (st := []) (by decide +kernel) cv_m5_isAbove rfl rfl in_m5_isAbove se_m5_isAbove lk_5_72 rfl (by omega) (Nat.le_of_ble_eq_true rfl) h (fun r1 M2 _ h3 => ?_)
  refine A_if_eq (off := 5) (tgt := 11) (by decide +kernel) (by omega) (fun b4 => ?_) (fun b4 => ?_)
  · have h5 := h3.1 b4
    refine A_aload_n (i := 0) (f := 0) (by omega) rfl (by decide +kernel) rfl ?_
    refine A_iload_n (i := 2) (f := 2) rfl (by decide +kernel) rfl ?_
    refine A_iload_n (i := 1) (f := 1) rfl (by decide +kernel) rfl ?_
    refine A_cVi (q := (RX5, TX5, 5)) (ci := 5) (o := (o : Int)) (args := [(0, x2), (0, x1)]) (st := []) (by decide +kernel) cv_m5_isAbove rfl rfl in_m5_isAbove se_m5_isAbove lk_5_72 rfl (by omega) (Nat.le_of_ble_eq_true rfl) h5 (fun r7 M8 _ h9 => ?_)
    refine A_if_eq (off := 7) (tgt := 24) (by decide +kernel) (by omega) (fun b10 => ?_) (fun b10 => ?_)
    · have h11 := h9.1 b10
      refine A_iconst (a := 0) (by decide +kernel) (by unfold in32; omega) ?_
      exact A_ret ⟨by decide +kernel, Or.inl rfl⟩ ⟨_, rfl, h11⟩
    · have h12 := h9.2 b10
      refine A_iconst (a := (-1)) (by decide +kernel) (by unfold in32; omega) ?_
      refine A_goto (off := 4) (tgt := 25) (by decide +kernel) (by omega) ?_
      exact A_ret ⟨by decide +kernel, Or.inl rfl⟩ ⟨_, rfl, h12⟩
  · have h6 := h3.2 b4
    refine A_iconst (a := 1) (by decide +kernel) (by unfold in32; omega) ?_
    exact A_ret ⟨by decide +kernel, Or.inl rfl⟩ ⟨_, rfl, h6⟩
theorem q_5_belowOf {o : Nat} {x1 : Int} {M : Mem} {P : Int → Mem → Prop} (h : (CI m10_at 1 [(30, ((o + 3 : Nat) : Int)), (0, x1)] M (fun r1 M2 => (P r1 M2)))) : CI m5_belowOf 2 [(15, (o : Int)), (0, x1)] M P := by
  refine CI_of (by decide +kernel) (Nat.le_of_ble_eq_true rfl) ?_
  show A m5_belowOf 2 0 0 [(15, (o : Int)), (0, x1)] [] M (Ki P)
  refine A_aload_n (i := 0) (f := 0) (by omega) rfl (by decide +kernel) rfl ?_
  refine B_getr (o' := ((o + 3 : Nat) : Int)) (q := (RX5, TX5, 5)) (ci := 5) (j := 2) (by decide +kernel) rfl (by decide) rfl (by omega) fl_5_18 rfl ?_
  refine A_iload_n (i := 1) (f := 1) rfl (by decide +kernel) rfl ?_
  refine A_cSNi (args := [(30, ((o + 3 : Nat) : Int)), (0, x1)]) (st := []) (by decide +kernel) cv_m10_at st_m10_at lk_5_62 rfl (by omega) (Nat.le_of_ble_eq_true rfl) h (fun r1 M2 _ h3 => ?_)
  exact A_ret ⟨by decide +kernel, Or.inl rfl⟩ ⟨_, rfl, h3⟩
theorem q_5_levelWith {o : Nat} {x1 : Int} {M : Mem} {P : Int → Mem → Prop} (h : (CI m10_at 1 [(30, ((o + 1 : Nat) : Int)), (0, x1)] M (fun r1 M2 => (P r1 M2)))) : CI m5_levelWith 2 [(15, (o : Int)), (0, x1)] M P := by
  refine CI_of (by decide +kernel) (Nat.le_of_ble_eq_true rfl) ?_
  show A m5_levelWith 2 0 0 [(15, (o : Int)), (0, x1)] [] M (Ki P)
  refine A_aload_n (i := 0) (f := 0) (by omega) rfl (by decide +kernel) rfl ?_
  refine B_getr (o' := ((o + 1 : Nat) : Int)) (q := (RX5, TX5, 5)) (ci := 5) (j := 0) (by decide +kernel) rfl (by decide) rfl (by omega) fl_5_9 rfl ?_
  refine A_iload_n (i := 1) (f := 1) rfl (by decide +kernel) rfl ?_
  refine A_cSNi (args := [(30, ((o + 1 : Nat) : Int)), (0, x1)]) (st := []) (by decide +kernel) cv_m10_at st_m10_at lk_5_62 rfl (by omega) (Nat.le_of_ble_eq_true rfl) h (fun r1 M2 _ h3 => ?_)
  exact A_ret ⟨by decide +kernel, Or.inl rfl⟩ ⟨_, rfl, h3⟩
theorem q_5_countAbove {o : Nat} {x1 : Int} {M : Mem} {P : Int → Mem → Prop} (h : A m5_countAbove 3 0 4 [(15, (o : Int)), (0, x1), (0, 0), (0, 0)] [] M (Ki P)) : CI m5_countAbove 3 [(15, (o : Int)), (0, x1)] M P := by
  refine CI_of (by decide +kernel) (Nat.le_of_ble_eq_true rfl) ?_
  show A m5_countAbove 3 0 0 [(15, (o : Int)), (0, x1), (2, 0), (2, 0)] [] M (Ki P)
  refine A_iconst (a := 0) (by decide +kernel) (by unfold in32; omega) ?_
  refine A_istore_n (i := 2) (f := 2) rfl (by decide +kernel) (by decide) (fun w h0 hw => by simp at hw; first | (rw [← hw]; decide) | (rw [← hw]; simp)) ?_
  refine A_iconst (a := 0) (by decide +kernel) (by unfold in32; omega) ?_
  refine A_istore_n (i := 3) (f := 3) rfl (by decide +kernel) (by decide) (fun w h0 hw => by simp at hw; first | (rw [← hw]; decide) | (rw [← hw]; simp)) ?_
  exact A_weak (lsub.keep (lsub.keep (lsub.keep (lsub.keep lsub.nil)))) h
theorem r_5_countAbove_4 {o : Nat} {x1 : Int} {x2 : Int} {x3 : Int} {M : Mem} {P : Int → Mem → Prop} (h : (((M o 4) ≤ x3 → (P x2 M)) ∧ (x3 < (M o 4) → (CI m5_isAbove 2 [(15, (o : Int)), (0, x3), (0, x1)] M (fun r4 M5 => ((r4 = 0 → A m5_countAbove 3 0 4 [(15, (o : Int)), (0, x1), (0, x2), (0, (w32 (x3 + 1)))] [] M5 (Ki P)) ∧ (r4 ≠ 0 → A m5_countAbove 3 0 4 [(15, (o : Int)), (0, x1), (0, (w32 (x2 + 1))), (0, (w32 (x3 + 1)))] [] M5 (Ki P)))))))) : A m5_countAbove 3 0 4 [(15, (o : Int)), (0, x1), (0, x2), (0, x3)] [] M (Ki P) := by
  refine A_iload_n (i := 3) (f := 3) rfl (by decide +kernel) rfl ?_
  refine A_aload_n (i := 0) (f := 0) (by omega) rfl (by decide +kernel) rfl ?_
  refine B_getp (v := (M o 4)) (q := (RX5, TX5, 5)) (ci := 5) (j := 4) (p := 4) (by decide +kernel) rfl (by decide) rfl (Or.inl rfl) fl_5_24 rfl ?_
  refine A_ic_ge (off := 21) (tgt := 30) (by decide +kernel) (by omega) (fun b1 => ?_) (fun b1 => ?_)
  · have h2 := h.1 b1
    refine A_iload_n (i := 2) (f := 2) rfl (by decide +kernel) rfl ?_
    exact A_ret ⟨by decide +kernel, Or.inl rfl⟩ ⟨_, rfl, h2⟩
  · have h3 := h.2 (Int.not_le.mp b1)
    refine A_aload_n (i := 0) (f := 0) (by omega) rfl (by decide +kernel) rfl ?_
    refine A_iload_n (i := 3) (f := 3) rfl (by decide +kernel) rfl ?_
    refine A_iload_n (i := 1) (f := 1) rfl (by decide +kernel) rfl ?_
    refine A_cVi (q := (RX5, TX5, 5)) (ci := 5) (o := (o : Int)) (args := [(0, x3), (0, x1)]) (st := []) (by decide +kernel) cv_m5_isAbove rfl rfl in_m5_isAbove se_m5_isAbove lk_5_72 rfl (by omega) (Nat.le_of_ble_eq_true rfl) h3 (fun r4 M5 _ h6 => ?_)
    refine A_if_eq (off := 6) (tgt := 24) (by decide +kernel) (by omega) (fun b7 => ?_) (fun b7 => ?_)
    · have h8 := h6.1 b7
      refine A_iinc (i := 3) (n := 1) (by decide +kernel) (by decide) rfl (fun w h0 hw => by simp at hw; first | (rw [← hw]; decide) | (rw [← hw]; simp)) ?_
      refine A_goto (off := (-23)) (tgt := 4) (by decide +kernel) (by omega) ?_
      exact A_weak (lsub.keep (lsub.keep (lsub.keep (lsub.keep lsub.nil)))) h8
    · have h9 := h6.2 b7
      refine A_iinc (i := 2) (n := 1) (by decide +kernel) (by decide) rfl (fun w h0 hw => by simp at hw; first | (rw [← hw]; decide) | (rw [← hw]; simp)) ?_
      refine A_iinc (i := 3) (n := 1) (by decide +kernel) (by decide) rfl (fun w h0 hw => by simp at hw; first | (rw [← hw]; decide) | (rw [← hw]; simp)) ?_
      refine A_goto (off := (-23)) (tgt := 4) (by decide +kernel) (by omega) ?_
      exact A_weak (lsub.keep (lsub.keep (lsub.keep (lsub.keep lsub.nil)))) h9
theorem q_5_bendsInSomeSeason {o : Nat} {p1 : Nat} {x2 : Int} {M : Mem} {P : Int → Mem → Prop} (h : A m5_bendsInSomeSeason 4 0 2 [(15, (o : Int)), (12, (p1 : Int)), (0, x2), (0, 0), (2, 0)] [] M (Ki P)) : CI m5_bendsInSomeSeason 4 [(15, (o : Int)), (12, (p1 : Int)), (0, x2)] M P := by
  refine CI_of (by decide +kernel) (Nat.le_of_ble_eq_true rfl) ?_
  show A m5_bendsInSomeSeason 4 0 0 [(15, (o : Int)), (12, (p1 : Int)), (0, x2), (2, 0), (2, 0)] [] M (Ki P)
  refine A_iconst (a := 0) (by decide +kernel) (by unfold in32; omega) ?_
  refine A_istore_n (i := 3) (f := 3) rfl (by decide +kernel) (by decide) (fun w h0 hw => by simp at hw; first | (rw [← hw]; decide) | (rw [← hw]; simp)) ?_
  exact A_weak (lsub.keep (lsub.keep (lsub.keep (lsub.keep (lsub.drop lsub.nil))))) h
theorem r_5_bendsInSomeSeason_2 {o : Nat} {p1 : Nat} {x2 : Int} {x3 : Int} {M : Mem} {P : Int → Mem → Prop} (h : ((4 ≤ x3 → (P 0 M)) ∧ (x3 < 4 → (CD m5_build 3 [(15, (o : Int)), (12, (p1 : Int)), (0, x3), (0, x2)] M (fun M5 => A m5_bendsInSomeSeason 4 0 17 [(15, (o : Int)), (12, (p1 : Int)), (0, x2), (0, x3), (0, 0)] [] M5 (Ki P)))))) : A m5_bendsInSomeSeason 4 0 2 [(15, (o : Int)), (12, (p1 : Int)), (0, x2), (0, x3), (2, 0)] [] M (Ki P) := by
  refine A_iload_n (i := 3) (f := 3) rfl (by decide +kernel) rfl ?_
  refine A_iconst (a := 4) (by decide +kernel) (by unfold in32; omega) ?_
  refine A_ic_ge (off := 44) (tgt := 48) (by decide +kernel) (by omega) (fun b1 => ?_) (fun b1 => ?_)
  · have h2 := h.1 b1
    refine A_iconst (a := 0) (by decide +kernel) (by unfold in32; omega) ?_
    exact A_ret ⟨by decide +kernel, Or.inr ⟨rfl, by decide⟩⟩ ⟨_, rfl, h2⟩
  · have h3 := h.2 (Int.not_le.mp b1)
    refine A_aload_n (i := 0) (f := 0) (by omega) rfl (by decide +kernel) rfl ?_
    refine A_aload_n (i := 1) (f := 1) (by omega) rfl (by decide +kernel) rfl ?_
    refine A_iload_n (i := 3) (f := 3) rfl (by decide +kernel) rfl ?_
    refine A_iload_n (i := 2) (f := 2) rfl (by decide +kernel) rfl ?_
    refine A_cVd (q := (RX5, TX5, 5)) (ci := 5) (o := (o : Int)) (args := [(12, (p1 : Int)), (0, x3), (0, x2)]) (st := []) (by decide +kernel) cv_m5_build rfl rfl in_m5_build se_m5_build lk_5_75 rfl (by omega) (Nat.le_of_ble_eq_true rfl) h3 (fun M5 h6 => ?_)
    refine A_iconst (a := 0) (by decide +kernel) (by unfold in32; omega) ?_
    refine A_istore (i := 4) (by decide +kernel) (by decide) (fun w h0 hw => by simp at hw; first | (rw [← hw]; decide) | (rw [← hw]; simp)) ?_
    exact A_weak (lsub.keep (lsub.keep (lsub.keep (lsub.keep (lsub.keep lsub.nil))))) h6
theorem r_5_bendsInSomeSeason_17 {o : Nat} {p1 : Nat} {x2 : Int} {x3 : Int} {x4 : Int} {M : Mem} {P : Int → Mem → Prop} (h : ((x2 ≤ x4 → A m5_bendsInSomeSeason 4 0 2 [(15, (o : Int)), (12, (p1 : Int)), (0, x2), (0, (w32 (x3 + 1))), (2, 0)] [] M (Ki P)) ∧ (x4 < x2 → (CI m5_isAbove 2 [(15, (o : Int)), (0, x4), (0, x4)] M (fun r4 M5 => ((r4 = 0 → A m5_bendsInSomeSeason 4 0 17 [(15, (o : Int)), (12, (p1 : Int)), (0, x2), (0, x3), (0, (w32 (x4 + 1)))] [] M5 (Ki P)) ∧ (r4 ≠ 0 → (P 1 M5)))))))) : A m5_bendsInSomeSeason 4 0 17 [(15, (o : Int)), (12, (p1 : Int)), (0, x2), (0, x3), (0, x4)] [] M (Ki P) := by
  refine A_iload (i := 4) (by decide +kernel) rfl ?_
  refine A_iload_n (i := 2) (f := 2) rfl (by decide +kernel) rfl ?_
  refine A_ic_ge (off := 22) (tgt := 42) (by decide +kernel) (by omega) (fun b1 => ?_) (fun b1 => ?_)
  · have h2 := h.1 b1
    refine A_iinc (i := 3) (n := 1) (by decide +kernel) (by decide) rfl (fun w h0 hw => by simp at hw; first | (rw [← hw]; decide) | (rw [← hw]; simp)) ?_
    refine A_goto (off := (-43)) (tgt := 2) (by decide +kernel) (by omega) ?_
    exact A_weak (lsub.keep (lsub.keep (lsub.keep (lsub.keep (lsub.drop lsub.nil))))) h2
  · have h3 := h.2 (Int.not_le.mp b1)
    refine A_aload_n (i := 0) (f := 0) (by omega) rfl (by decide +kernel) rfl ?_
    refine A_iload (i := 4) (by decide +kernel) rfl ?_
    refine A_iload (i := 4) (by decide +kernel) rfl ?_
    refine A_cVi (q := (RX5, TX5, 5)) (ci := 5) (o := (o : Int)) (args := [(0, x4), (0, x4)]) (st := []) (by decide +kernel) cv_m5_isAbove rfl rfl in_m5_isAbove se_m5_isAbove lk_5_72 rfl (by omega) (Nat.le_of_ble_eq_true rfl) h3 (fun r4 M5 _ h6 => ?_)
    refine A_if_eq (off := 5) (tgt := 36) (by decide +kernel) (by omega) (fun b7 => ?_) (fun b7 => ?_)
    · have h8 := h6.1 b7
      refine A_iinc (i := 4) (n := 1) (by decide +kernel) (by decide) rfl (fun w h0 hw => by simp at hw; first | (rw [← hw]; decide) | (rw [← hw]; simp)) ?_
      refine A_goto (off := (-22)) (tgt := 17) (by decide +kernel) (by omega) ?_
      exact A_weak (lsub.keep (lsub.keep (lsub.keep (lsub.keep (lsub.keep lsub.nil))))) h8
    · have h9 := h6.2 b7
      refine A_iconst (a := 1) (by decide +kernel) (by unfold in32; omega) ?_
      exact A_ret ⟨by decide +kernel, Or.inr ⟨rfl, by decide⟩⟩ ⟨_, rfl, h9⟩
theorem q_5_stepsDown {o : Nat} {x1 : Int} {x2 : Int} {M : Mem} {P : Int → Mem → Prop} (h : A m5_stepsDown 3 0 2 [(15, (o : Int)), (0, x1), (0, x2), (0, 0), (2, 0)] [] M (Ki P)) : CI m5_stepsDown 3 [(15, (o : Int)), (0, x1), (0, x2)] M P := by
  refine CI_of (by decide +kernel) (Nat.le_of_ble_eq_true rfl) ?_
  show A m5_stepsDown 3 0 0 [(15, (o : Int)), (0, x1), (0, x2), (2, 0), (2, 0)] [] M (Ki P)
  refine A_iconst (a := 0) (by decide +kernel) (by unfold in32; omega) ?_
  refine A_istore_n (i := 3) (f := 3) rfl (by decide +kernel) (by decide) (fun w h0 hw => by simp at hw; first | (rw [← hw]; decide) | (rw [← hw]; simp)) ?_
  exact A_weak (lsub.keep (lsub.keep (lsub.keep (lsub.keep (lsub.drop lsub.nil))))) h
theorem r_5_stepsDown_2 {o : Nat} {x1 : Int} {x2 : Int} {x3 : Int} {M : Mem} {P : Int → Mem → Prop} (h : ((8 ≤ x3 → A m5_stepsDown 3 0 34 [(15, (o : Int)), (0, x1), (2, 0), (0, 1), (2, 0)] [] M (Ki P)) ∧ (x3 < 8 → ((x3 ≠ x2 → (CD m10_put 1 [(30, ((o + 4 : Nat) : Int)), (0, x3), (0, (-1))] M (fun M8 => A m5_stepsDown 3 0 2 [(15, (o : Int)), (0, x1), (0, x2), (0, (w32 (x3 + 1))), (2, 0)] [] M8 (Ki P)))) ∧ (x3 = x2 → (CD m10_put 1 [(30, ((o + 4 : Nat) : Int)), (0, x3), (0, 0)] M (fun M11 => A m5_stepsDown 3 0 2 [(15, (o : Int)), (0, x1), (0, x2), (0, (w32 (x3 + 1))), (2, 0)] [] M11 (Ki P)))))))) : A m5_stepsDown 3 0 2 [(15, (o : Int)), (0, x1), (0, x2), (0, x3), (2, 0)] [] M (Ki P) := by
  refine A_iload_n (i := 3) (f := 3) rfl (by decide +kernel) rfl ?_
  refine A_bipush (a := 8) (by decide +kernel) (by unfold in32; omega) (by decide +kernel) ?_
  refine A_ic_ge (off := 27) (tgt := 32) (by decide +kernel) (by omega) (fun b1 => ?_) (fun b1 => ?_)
  · have h2 := h.1 b1
    refine A_iconst (a := 1) (by decide +kernel) (by unfold in32; omega) ?_
    refine A_istore_n (i := 3) (f := 3) rfl (by decide +kernel) (by decide) (fun w h0 hw => by simp at hw; first | (rw [← hw]; decide) | (rw [← hw]; simp)) ?_
    exact A_weak (lsub.keep (lsub.keep (lsub.drop (lsub.keep (lsub.drop lsub.nil))))) h2
  · have h3 := h.2 (Int.not_le.mp b1)
    refine A_aload_n (i := 0) (f := 0) (by omega) rfl (by decide +kernel) rfl ?_
    refine B_getr (o' := ((o + 4 : Nat) : Int)) (q := (RX5, TX5, 5)) (ci := 5) (j := 3) (by decide +kernel) rfl (by decide) rfl (by omega) fl_5_21 rfl ?_
    refine A_iload_n (i := 3) (f := 3) rfl (by decide +kernel) rfl ?_
    refine A_iload_n (i := 3) (f := 3) rfl (by decide +kernel) rfl ?_
    refine A_iload_n (i := 2) (f := 2) rfl (by decide +kernel) rfl ?_
    refine A_ic_ne (off := 7) (tgt := 22) (by decide +kernel) (by omega) (fun b4 => ?_) (fun b4 => ?_)
    · have h5 := h3.1 b4
      refine A_iconst (a := (-1)) (by decide +kernel) (by unfold in32; omega) ?_
      refine A_cSNd (args := [(30, ((o + 4 : Nat) : Int)), (0, x3), (0, (-1))]) (st := []) (by decide +kernel) cv_m10_put st_m10_put lk_5_28 rfl (by omega) (Nat.le_of_ble_eq_true rfl) h5 (fun M8 h9 => ?_)
      refine A_iinc (i := 3) (n := 1) (by decide +kernel) (by decide) rfl (fun w h0 hw => by simp at hw; first | (rw [← hw]; decide) | (rw [← hw]; simp)) ?_
      refine A_goto (off := (-27)) (tgt := 2) (by decide +kernel) (by omega) ?_
      exact A_weak (lsub.keep (lsub.keep (lsub.keep (lsub.keep (lsub.drop lsub.nil))))) h9
    · have h6 := h3.2 (Decidable.not_not.mp b4)
      refine A_iconst (a := 0) (by decide +kernel) (by unfold in32; omega) ?_
      refine A_goto (off := 4) (tgt := 23) (by decide +kernel) (by omega) ?_
      refine A_cSNd (args := [(30, ((o + 4 : Nat) : Int)), (0, x3), (0, 0)]) (st := []) (by decide +kernel) cv_m10_put st_m10_put lk_5_28 rfl (by omega) (Nat.le_of_ble_eq_true rfl) h6 (fun M11 h12 => ?_)
      refine A_iinc (i := 3) (n := 1) (by decide +kernel) (by decide) rfl (fun w h0 hw => by simp at hw; first | (rw [← hw]; decide) | (rw [← hw]; simp)) ?_
      refine A_goto (off := (-27)) (tgt := 2) (by decide +kernel) (by omega) ?_
      exact A_weak (lsub.keep (lsub.keep (lsub.keep (lsub.keep (lsub.drop lsub.nil))))) h12
theorem r_5_stepsDown_34 {o : Nat} {x1 : Int} {x3 : Int} {M : Mem} {P : Int → Mem → Prop} (h : (((M o 4) ≤ x3 → (CI m10_at 1 [(30, ((o + 4 : Nat) : Int)), (0, x1)] M (fun r4 M5 => (P r4 M5)))) ∧ (x3 < (M o 4) → A m5_stepsDown 3 0 45 [(15, (o : Int)), (0, x1), (2, 0), (0, x3), (0, 0)] [] M (Ki P)))) : A m5_stepsDown 3 0 34 [(15, (o : Int)), (0, x1), (2, 0), (0, x3), (2, 0)] [] M (Ki P) := by
  refine A_iload_n (i := 3) (f := 3) rfl (by decide +kernel) rfl ?_
  refine A_aload_n (i := 0) (f := 0) (by omega) rfl (by decide +kernel) rfl ?_
  refine B_getp (v := (M o 4)) (q := (RX5, TX5, 5)) (ci := 5) (j := 4) (p := 4) (by decide +kernel) rfl (by decide) rfl (Or.inl rfl) fl_5_24 rfl ?_
  refine A_ic_ge (off := 63) (tgt := 102) (by decide +kernel) (by omega) (fun b1 => ?_) (fun b1 => ?_)
  · have h2 := h.1 b1
    refine A_aload_n (i := 0) (f := 0) (by omega) rfl (by decide +kernel) rfl ?_
    refine B_getr (o' := ((o + 4 : Nat) : Int)) (q := (RX5, TX5, 5)) (ci := 5) (j := 3) (by decide +kernel) rfl (by decide) rfl (by omega) fl_5_21 rfl ?_
    refine A_iload_n (i := 1) (f := 1) rfl (by decide +kernel) rfl ?_
    refine A_cSNi (args := [(30, ((o + 4 : Nat) : Int)), (0, x1)]) (st := []) (by decide +kernel) cv_m10_at st_m10_at lk_5_62 rfl (by omega) (Nat.le_of_ble_eq_true rfl) h2 (fun r4 M5 _ h6 => ?_)
    exact A_ret ⟨by decide +kernel, Or.inl rfl⟩ ⟨_, rfl, h6⟩
  · have h3 := h.2 (Int.not_le.mp b1)
    refine A_iconst (a := 0) (by decide +kernel) (by unfold in32; omega) ?_
    refine A_istore (i := 4) (by decide +kernel) (by decide) (fun w h0 hw => by simp at hw; first | (rw [← hw]; decide) | (rw [← hw]; simp)) ?_
    exact A_weak (lsub.keep (lsub.keep (lsub.drop (lsub.keep (lsub.keep lsub.nil))))) h3
theorem r_5_stepsDown_45 {o : Nat} {x1 : Int} {x3 : Int} {x4 : Int} {M : Mem} {P : Int → Mem → Prop} (h : (((M o 4) ≤ x4 → A m5_stepsDown 3 0 34 [(15, (o : Int)), (0, x1), (2, 0), (0, (w32 (x3 + 1))), (2, 0)] [] M (Ki P)) ∧ (x4 < (M o 4) → (CI m10_at 1 [(30, ((o + 4 : Nat) : Int)), (0, x4)] M (fun r4 M5 => ((r4 ≠ (-1) → A m5_stepsDown 3 0 45 [(15, (o : Int)), (0, x1), (2, 0), (0, x3), (0, (w32 (x4 + 1)))] [] M5 (Ki P)) ∧ (r4 = (-1) → (CI m5_firstBelowAt 2 [(15, (o : Int)), (0, x4), (0, (w32 (x3 - 1)))] M5 (fun r10 M11 => ((r10 = (-1) → A m5_stepsDown 3 0 45 [(15, (o : Int)), (0, x1), (2, 0), (0, x3), (0, (w32 (x4 + 1)))] [] M11 (Ki P)) ∧ (r10 ≠ (-1) → (CD m10_put 1 [(30, ((o + 4 : Nat) : Int)), (0, x4), (0, x3)] M11 (fun M17 => A m5_stepsDown 3 0 45 [(15, (o : Int)), (0, x1), (2, 0), (0, x3), (0, (w32 (x4 + 1)))] [] M17 (Ki P)))))))))))))) : A m5_stepsDown 3 0 45 [(15, (o : Int)), (0, x1), (2, 0), (0, x3), (0, x4)] [] M (Ki P) := by
  refine A_iload (i := 4) (by decide +kernel) rfl ?_
  refine A_aload_n (i := 0) (f := 0) (by omega) rfl (by decide +kernel) rfl ?_
  refine B_getp (v := (M o 4)) (q := (RX5, TX5, 5)) (ci := 5) (j := 4) (p := 4) (by decide +kernel) rfl (by decide) rfl (Or.inl rfl) fl_5_24 rfl ?_
  refine A_ic_ge (off := 45) (tgt := 96) (by decide +kernel) (by omega) (fun b1 => ?_) (fun b1 => ?_)
  · have h2 := h.1 b1
    refine A_iinc (i := 3) (n := 1) (by decide +kernel) (by decide) rfl (fun w h0 hw => by simp at hw; first | (rw [← hw]; decide) | (rw [← hw]; simp)) ?_
    refine A_goto (off := (-65)) (tgt := 34) (by decide +kernel) (by omega) ?_
    exact A_weak (lsub.keep (lsub.keep (lsub.drop (lsub.keep (lsub.drop lsub.nil))))) h2
  · have h3 := h.2 (Int.not_le.mp b1)
    refine A_aload_n (i := 0) (f := 0) (by omega) rfl (by decide +kernel) rfl ?_
    refine B_getr (o' := ((o + 4 : Nat) : Int)) (q := (RX5, TX5, 5)) (ci := 5) (j := 3) (by decide +kernel) rfl (by decide) rfl (by omega) fl_5_21 rfl ?_
    refine A_iload (i := 4) (by decide +kernel) rfl ?_
    refine A_cSNi (args := [(30, ((o + 4 : Nat) : Int)), (0, x4)]) (st := []) (by decide +kernel) cv_m10_at st_m10_at lk_5_62 rfl (by omega) (Nat.le_of_ble_eq_true rfl) h3 (fun r4 M5 _ h6 => ?_)
    refine A_iconst (a := (-1)) (by decide +kernel) (by unfold in32; omega) ?_
    refine A_ic_ne (off := 26) (tgt := 90) (by decide +kernel) (by omega) (fun b7 => ?_) (fun b7 => ?_)
    · have h8 := h6.1 b7
      refine A_iinc (i := 4) (n := 1) (by decide +kernel) (by decide) rfl (fun w h0 hw => by simp at hw; first | (rw [← hw]; decide) | (rw [← hw]; simp)) ?_
      refine A_goto (off := (-48)) (tgt := 45) (by decide +kernel) (by omega) ?_
      exact A_weak (lsub.keep (lsub.keep (lsub.drop (lsub.keep (lsub.keep lsub.nil))))) h8
    · have h9 := h6.2 (Decidable.not_not.mp b7)
      refine A_aload_n (i := 0) (f := 0) (by omega) rfl (by decide +kernel) rfl ?_
      refine A_iload (i := 4) (by decide +kernel) rfl ?_
      refine A_iload_n (i := 3) (f := 3) rfl (by decide +kernel) rfl ?_
      refine A_iconst (a := 1) (by decide +kernel) (by unfold in32; omega) ?_
      refine A_isub (by decide +kernel) ?_
      refine A_cVi (q := (RX5, TX5, 5)) (ci := 5) (o := (o : Int)) (args := [(0, x4), (0, (w32 (x3 - 1)))]) (st := []) (by decide +kernel) cv_m5_firstBelowAt rfl rfl in_m5_firstBelowAt se_m5_firstBelowAt lk_5_79 rfl (by omega) (Nat.le_of_ble_eq_true rfl) h9 (fun r10 M11 _ h12 => ?_)
      refine A_iconst (a := (-1)) (by decide +kernel) (by unfold in32; omega) ?_
      refine A_ic_eq (off := 13) (tgt := 90) (by decide +kernel) (by omega) (fun b13 => ?_) (fun b13 => ?_)
      · have h14 := h12.1 b13
        refine A_iinc (i := 4) (n := 1) (by decide +kernel) (by decide) rfl (fun w h0 hw => by simp at hw; first | (rw [← hw]; decide) | (rw [← hw]; simp)) ?_
        refine A_goto (off := (-48)) (tgt := 45) (by decide +kernel) (by omega) ?_
        exact A_weak (lsub.keep (lsub.keep (lsub.drop (lsub.keep (lsub.keep lsub.nil))))) h14
      · have h15 := h12.2 b13
        refine A_aload_n (i := 0) (f := 0) (by omega) rfl (by decide +kernel) rfl ?_
        refine B_getr (o' := ((o + 4 : Nat) : Int)) (q := (RX5, TX5, 5)) (ci := 5) (j := 3) (by decide +kernel) rfl (by decide) rfl (by omega) fl_5_21 rfl ?_
        refine A_iload (i := 4) (by decide +kernel) rfl ?_
        refine A_iload_n (i := 3) (f := 3) rfl (by decide +kernel) rfl ?_
        refine A_cSNd (args := [(30, ((o + 4 : Nat) : Int)), (0, x4), (0, x3)]) (st := []) (by decide +kernel) cv_m10_put st_m10_put lk_5_28 rfl (by omega) (Nat.le_of_ble_eq_true rfl) h15 (fun M17 h18 => ?_)
        refine A_iinc (i := 4) (n := 1) (by decide +kernel) (by decide) rfl (fun w h0 hw => by simp at hw; first | (rw [← hw]; decide) | (rw [← hw]; simp)) ?_
        refine A_goto (off := (-48)) (tgt := 45) (by decide +kernel) (by omega) ?_
        exact A_weak (lsub.keep (lsub.keep (lsub.drop (lsub.keep (lsub.keep lsub.nil))))) h18
theorem q_5_firstBelowAt {o : Nat} {x1 : Int} {x2 : Int} {M : Mem} {P : Int → Mem → Prop} (h : A m5_firstBelowAt 2 0 2 [(15, (o : Int)), (0, x1), (0, x2), (0, 0)] [] M (Ki P)) : CI m5_firstBelowAt 2 [(15, (o : Int)), (0, x1), (0, x2)] M P := by
  refine CI_of (by decide +kernel) (Nat.le_of_ble_eq_true rfl) ?_
  show A m5_firstBelowAt 2 0 0 [(15, (o : Int)), (0, x1), (0, x2), (2, 0)] [] M (Ki P)
  refine A_iconst (a := 0) (by decide +kernel) (by unfold in32; omega) ?_
  refine A_istore_n (i := 3) (f := 3) rfl (by decide +kernel) (by decide) (fun w h0 hw => by simp at hw; first | (rw [← hw]; decide) | (rw [← hw]; simp)) ?_
  exact A_weak (lsub.keep (lsub.keep (lsub.keep (lsub.keep lsub.nil)))) h
theorem r_5_firstBelowAt_2 {o : Nat} {x1 : Int} {x2 : Int} {x3 : Int} {M : Mem} {P : Int → Mem → Prop} (h : (((M o 4) ≤ x3 → (P (-1) M)) ∧ (x3 < (M o 4) → (CI m10_at 1 [(30, ((o + 2 : Nat) : Int)), (0, x1)] M (fun r4 M5 => (((iand (ishr r4 x3) 1) ≠ 1 → A m5_firstBelowAt 2 0 2 [(15, (o : Int)), (0, x1), (0, x2), (0, (w32 (x3 + 1)))] [] M5 (Ki P)) ∧ ((iand (ishr r4 x3) 1) = 1 → (CI m10_at 1 [(30, ((o + 4 : Nat) : Int)), (0, x3)] M5 (fun r10 M11 => ((r10 ≠ x2 → A m5_firstBelowAt 2 0 2 [(15, (o : Int)), (0, x1), (0, x2), (0, (w32 (x3 + 1)))] [] M11 (Ki P)) ∧ (r10 = x2 → (P x3 M11)))))))))))) : A m5_firstBelowAt 2 0 2 [(15, (o : Int)), (0, x1), (0, x2), (0, x3)] [] M (Ki P) := by
  refine A_iload_n (i := 3) (f := 3) rfl (by decide +kernel) rfl ?_
  refine A_aload_n (i := 0) (f := 0) (by omega) rfl (by decide +kernel) rfl ?_
  refine B_getp (v := (M o 4)) (q := (RX5, TX5, 5)) (ci := 5) (j := 4) (p := 4) (by decide +kernel) rfl (by decide) rfl (Or.inl rfl) fl_5_24 rfl ?_
  refine A_ic_ge (off := 39) (tgt := 46) (by decide +kernel) (by omega) (fun b1 => ?_) (fun b1 => ?_)
  · have h2 := h.1 b1
    refine A_iconst (a := (-1)) (by decide +kernel) (by unfold in32; omega) ?_
    exact A_ret ⟨by decide +kernel, Or.inl rfl⟩ ⟨_, rfl, h2⟩
  · have h3 := h.2 (Int.not_le.mp b1)
    refine A_aload_n (i := 0) (f := 0) (by omega) rfl (by decide +kernel) rfl ?_
    refine B_getr (o' := ((o + 2 : Nat) : Int)) (q := (RX5, TX5, 5)) (ci := 5) (j := 1) (by decide +kernel) rfl (by decide) rfl (by omega) fl_5_15 rfl ?_
    refine A_iload_n (i := 1) (f := 1) rfl (by decide +kernel) rfl ?_
    refine A_cSNi (args := [(30, ((o + 2 : Nat) : Int)), (0, x1)]) (st := []) (by decide +kernel) cv_m10_at st_m10_at lk_5_62 rfl (by omega) (Nat.le_of_ble_eq_true rfl) h3 (fun r4 M5 _ h6 => ?_)
    refine A_iload_n (i := 3) (f := 3) rfl (by decide +kernel) rfl ?_
    refine A_ishr (by decide +kernel) ?_
    refine A_iconst (a := 1) (by decide +kernel) (by unfold in32; omega) ?_
    refine A_iand (by decide +kernel) ?_
    refine A_iconst (a := 1) (by decide +kernel) (by unfold in32; omega) ?_
    refine A_ic_ne (off := 17) (tgt := 40) (by decide +kernel) (by omega) (fun b7 => ?_) (fun b7 => ?_)
    · have h8 := h6.1 b7
      refine A_iinc (i := 3) (n := 1) (by decide +kernel) (by decide) rfl (fun w h0 hw => by simp at hw; first | (rw [← hw]; decide) | (rw [← hw]; simp)) ?_
      refine A_goto (off := (-41)) (tgt := 2) (by decide +kernel) (by omega) ?_
      exact A_weak (lsub.keep (lsub.keep (lsub.keep (lsub.keep lsub.nil)))) h8
    · have h9 := h6.2 (Decidable.not_not.mp b7)
      refine A_aload_n (i := 0) (f := 0) (by omega) rfl (by decide +kernel) rfl ?_
      refine B_getr (o' := ((o + 4 : Nat) : Int)) (q := (RX5, TX5, 5)) (ci := 5) (j := 3) (by decide +kernel) rfl (by decide) rfl (by omega) fl_5_21 rfl ?_
      refine A_iload_n (i := 3) (f := 3) rfl (by decide +kernel) rfl ?_
      refine A_cSNi (args := [(30, ((o + 4 : Nat) : Int)), (0, x3)]) (st := []) (by decide +kernel) cv_m10_at st_m10_at lk_5_62 rfl (by omega) (Nat.le_of_ble_eq_true rfl) h9 (fun r10 M11 _ h12 => ?_)
      refine A_iload_n (i := 2) (f := 2) rfl (by decide +kernel) rfl ?_
      refine A_ic_ne (off := 5) (tgt := 40) (by decide +kernel) (by omega) (fun b13 => ?_) (fun b13 => ?_)
      · have h14 := h12.1 b13
        refine A_iinc (i := 3) (n := 1) (by decide +kernel) (by decide) rfl (fun w h0 hw => by simp at hw; first | (rw [← hw]; decide) | (rw [← hw]; simp)) ?_
        refine A_goto (off := (-41)) (tgt := 2) (by decide +kernel) (by omega) ?_
        exact A_weak (lsub.keep (lsub.keep (lsub.keep (lsub.keep lsub.nil)))) h14
      · have h15 := h12.2 (Decidable.not_not.mp b13)
        refine A_iload_n (i := 3) (f := 3) rfl (by decide +kernel) rfl ?_
        exact A_ret ⟨by decide +kernel, Or.inl rfl⟩ ⟨_, rfl, h15⟩
theorem q_5_onTheWay {o : Nat} {x1 : Int} {x2 : Int} {x3 : Int} {M : Mem} {P : Int → Mem → Prop} (h : A m5_onTheWay 3 0 6 [(15, (o : Int)), (2, 0), (0, x2), (0, x3), (0, x1), (0, 0)] [] M (Ki P)) : CI m5_onTheWay 3 [(15, (o : Int)), (0, x1), (0, x2), (0, x3)] M P := by
  refine CI_of (by decide +kernel) (Nat.le_of_ble_eq_true rfl) ?_
  show A m5_onTheWay 3 0 0 [(15, (o : Int)), (0, x1), (0, x2), (0, x3), (2, 0), (2, 0)] [] M (Ki P)
  refine A_iload_n (i := 1) (f := 1) rfl (by decide +kernel) rfl ?_
  refine A_istore (i := 4) (by decide +kernel) (by decide) (fun w h0 hw => by simp at hw; first | (rw [← hw]; decide) | (rw [← hw]; simp)) ?_
  refine A_iconst (a := 0) (by decide +kernel) (by unfold in32; omega) ?_
  refine A_istore (i := 5) (by decide +kernel) (by decide) (fun w h0 hw => by simp at hw; first | (rw [← hw]; decide) | (rw [← hw]; simp)) ?_
  exact A_weak (lsub.keep (lsub.drop (lsub.keep (lsub.keep (lsub.keep (lsub.keep lsub.nil)))))) h
theorem r_5_onTheWay_6 {o : Nat} {x2 : Int} {x3 : Int} {x4 : Int} {x5 : Int} {M : Mem} {P : Int → Mem → Prop} (h : ((x3 ≤ x5 → (P x4 M)) ∧ (x5 < x3 → ((x4 = x2 → (P x4 M)) ∧ (x4 ≠ x2 → ((x4 = (-1) → (P x4 M)) ∧ (x4 ≠ (-1) → (CI m10_at 1 [(30, ((o + 4 : Nat) : Int)), (0, x4)] M (fun r10 M11 => (CI m5_firstBelowAt 2 [(15, (o : Int)), (0, x4), (0, (w32 (r10 - 1)))] M11 (fun r13 M14 => A m5_onTheWay 3 0 6 [(15, (o : Int)), (2, 0), (0, x2), (0, x3), (0, r13), (0, (w32 (x5 + 1)))] [] M14 (Ki P)))))))))))) : A m5_onTheWay 3 0 6 [(15, (o : Int)), (2, 0), (0, x2), (0, x3), (0, x4), (0, x5)] [] M (Ki P) := by
  refine A_iload (i := 5) (by decide +kernel) rfl ?_
  refine A_iload_n (i := 3) (f := 3) rfl (by decide +kernel) rfl ?_
  refine A_ic_ge (off := 40) (tgt := 49) (by decide +kernel) (by omega) (fun b1 => ?_) (fun b1 => ?_)
  · have h2 := h.1 b1
    refine A_iload (i := 4) (by decide +kernel) rfl ?_
    exact A_ret ⟨by decide +kernel, Or.inl rfl⟩ ⟨_, rfl, h2⟩
  · have h3 := h.2 (Int.not_le.mp b1)
    refine A_iload (i := 4) (by decide +kernel) rfl ?_
    refine A_iload_n (i := 2) (f := 2) rfl (by decide +kernel) rfl ?_
    refine A_ic_eq (off := 34) (tgt := 49) (by decide +kernel) (by omega) (fun b4 => ?_) (fun b4 => ?_)
    · have h5 := h3.1 b4
      refine A_iload (i := 4) (by decide +kernel) rfl ?_
      exact A_ret ⟨by decide +kernel, Or.inl rfl⟩ ⟨_, rfl, h5⟩
    · have h6 := h3.2 b4
      refine A_iload (i := 4) (by decide +kernel) rfl ?_
      refine A_iconst (a := (-1)) (by decide +kernel) (by unfold in32; omega) ?_
      refine A_ic_eq (off := 28) (tgt := 49) (by decide +kernel) (by omega) (fun b7 => ?_) (fun b7 => ?_)
      · have h8 := h6.1 b7
        refine A_iload (i := 4) (by decide +kernel) rfl ?_
        exact A_ret ⟨by decide +kernel, Or.inl rfl⟩ ⟨_, rfl, h8⟩
      · have h9 := h6.2 b7
        refine A_aload_n (i := 0) (f := 0) (by omega) rfl (by decide +kernel) rfl ?_
        refine A_iload (i := 4) (by decide +kernel) rfl ?_
        refine A_aload_n (i := 0) (f := 0) (by omega) rfl (by decide +kernel) rfl ?_
        refine B_getr (o' := ((o + 4 : Nat) : Int)) (q := (RX5, TX5, 5)) (ci := 5) (j := 3) (by decide +kernel) rfl (by decide) rfl (by omega) fl_5_21 rfl ?_
        refine A_iload (i := 4) (by decide +kernel) rfl ?_
        refine A_cSNi (args := [(30, ((o + 4 : Nat) : Int)), (0, x4)]) (st := [(0, x4), (15, (o : Int))]) (by decide +kernel) cv_m10_at st_m10_at lk_5_62 rfl (by omega) (Nat.le_of_ble_eq_true rfl) h9 (fun r10 M11 _ h12 => ?_)
        refine A_iconst (a := 1) (by decide +kernel) (by unfold in32; omega) ?_
        refine A_isub (by decide +kernel) ?_
        refine A_cVi (q := (RX5, TX5, 5)) (ci := 5) (o := (o : Int)) (args := [(0, x4), (0, (w32 (r10 - 1)))]) (st := []) (by decide +kernel) cv_m5_firstBelowAt rfl rfl in_m5_firstBelowAt se_m5_firstBelowAt lk_5_79 rfl (by omega) (Nat.le_of_ble_eq_true rfl) h12 (fun r13 M14 _ h15 => ?_)
        refine A_istore (i := 4) (by decide +kernel) (by decide) (fun w h0 hw => by simp at hw; first | (rw [← hw]; decide) | (rw [← hw]; simp)) ?_
        refine A_iinc (i := 5) (n := 1) (by decide +kernel) (by decide) rfl (fun w h0 hw => by simp at hw; first | (rw [← hw]; decide) | (rw [← hw]; simp)) ?_
        refine A_goto (off := (-40)) (tgt := 6) (by decide +kernel) (by omega) ?_
        exact A_weak (lsub.keep (lsub.drop (lsub.keep (lsub.keep (lsub.keep (lsub.keep lsub.nil)))))) h15
