/-! CourtTongue$Facts: its regions (made by wip/whole/gall.py) -/
theorem q_2_clear {o : Nat} {M : Mem} {P : Mem → Prop} (h : (P (mset M o 1 0))) : CD m2_clear 1 [(12, (o : Int))] M P := by
  refine CD_of (by decide +kernel) (Nat.le_of_ble_eq_true rfl) ?_
  show A m2_clear 1 0 0 [(12, (o : Int))] [] M (Kd P)
  refine A_aload_n (i := 0) (f := 0) (by omega) rfl (by decide +kernel) rfl ?_
  refine A_iconst (a := 0) (by decide +kernel) (by unfold in32; omega) ?_
  refine B_putp (M' := (mset M o 1 0)) (q := (RX2, TX2, 2)) (ci := 2) (j := 1) (p := 1) (by decide +kernel) rfl (by decide) rfl (Or.inl ⟨rfl, rfl⟩) rfl fl_2_15 rfl ?_
  exact A_ret ⟨by decide +kernel, rfl⟩ ⟨rfl, h⟩
theorem q_2_take {o : Nat} {p1 : Nat} {M : Mem} {P : Mem → Prop} (h : ((120 ≤ ((aln (p1 + 1) : Nat) : Int) ∧ 120 ≤ ((aln (o + 1) : Nat) : Int)) ∧ (P (mset (mcpy M (p1 + 1) (o + 1) 120) o 1 ((mcpy M (p1 + 1) (o + 1) 120) p1 1))))) : CD m2_take 2 [(12, (o : Int)), (12, (p1 : Int))] M P := by
  refine CD_of (by decide +kernel) (Nat.le_of_ble_eq_true rfl) ?_
  show A m2_take 2 0 0 [(12, (o : Int)), (12, (p1 : Int))] [] M (Kd P)
  refine A_aload_n (i := 1) (f := 1) (by omega) rfl (by decide +kernel) rfl ?_
  refine B_getr (o' := ((p1 + 1 : Nat) : Int)) (q := (RX2, TX2, 2)) (ci := 2) (j := 0) (by decide +kernel) rfl (by decide) rfl (by omega) fl_2_11 rfl ?_
  refine A_iconst (a := 0) (by decide +kernel) (by unfold in32; omega) ?_
  refine A_aload_n (i := 0) (f := 0) (by omega) rfl (by decide +kernel) rfl ?_
  refine B_getr (o' := ((o + 1 : Nat) : Int)) (q := (RX2, TX2, 2)) (ci := 2) (j := 0) (by decide +kernel) rfl (by decide) rfl (by omega) fl_2_11 rfl ?_
  refine A_iconst (a := 0) (by decide +kernel) (by unfold in32; omega) ?_
  refine A_bipush (a := 120) (by decide +kernel) (by unfold in32; omega) (by decide +kernel) ?_
  refine B_copy (M' := (mcpy M (p1 + 1) (o + 1) 120)) (by decide +kernel) (by omega) (Nat.le_of_ble_eq_true rfl) lk_2_19 jna_copy jst_copy jin_sys ⟨by omega, h.1.1, h.1.2⟩ rfl ?_
  have h1 := h.2
  refine A_aload_n (i := 0) (f := 0) (by omega) rfl (by decide +kernel) rfl ?_
  refine A_aload_n (i := 1) (f := 1) (by omega) rfl (by decide +kernel) rfl ?_
  refine B_getp (v := ((mcpy M (p1 + 1) (o + 1) 120) p1 1)) (q := (RX2, TX2, 2)) (ci := 2) (j := 1) (p := 1) (by decide +kernel) rfl (by decide) rfl (Or.inl rfl) fl_2_15 rfl ?_
  refine B_putp (M' := (mset (mcpy M (p1 + 1) (o + 1) 120) o 1 ((mcpy M (p1 + 1) (o + 1) 120) p1 1))) (q := (RX2, TX2, 2)) (ci := 2) (j := 1) (p := 1) (by decide +kernel) rfl (by decide) rfl (Or.inl ⟨rfl, rfl⟩) rfl fl_2_15 rfl ?_
  exact A_ret ⟨by decide +kernel, rfl⟩ ⟨rfl, h1⟩
theorem q_2_cell {o : Nat} {x1 : Int} {x2 : Int} {M : Mem} {P : Int → Mem → Prop} (h : (CI m10_at 1 [(30, ((o + 1 : Nat) : Int)), (0, (w32 ((w32 (x1 * 5)) + x2)))] M (fun r1 M2 => (P r1 M2)))) : CI m2_cell 2 [(12, (o : Int)), (0, x1), (0, x2)] M P := by
  refine CI_of (by decide +kernel) (Nat.le_of_ble_eq_true rfl) ?_
  show A m2_cell 2 0 0 [(12, (o : Int)), (0, x1), (0, x2)] [] M (Ki P)
  refine A_aload_n (i := 0) (f := 0) (by omega) rfl (by decide +kernel) rfl ?_
  refine B_getr (o' := ((o + 1 : Nat) : Int)) (q := (RX2, TX2, 2)) (ci := 2) (j := 0) (by decide +kernel) rfl (by decide) rfl (by omega) fl_2_11 rfl ?_
  refine A_iload_n (i := 1) (f := 1) rfl (by decide +kernel) rfl ?_
  refine A_iconst (a := 5) (by decide +kernel) (by unfold in32; omega) ?_
  refine A_imul (by decide +kernel) ?_
  refine A_iload_n (i := 2) (f := 2) rfl (by decide +kernel) rfl ?_
  refine A_iadd (by decide +kernel) ?_
  refine A_cSNi (args := [(30, ((o + 1 : Nat) : Int)), (0, (w32 ((w32 (x1 * 5)) + x2)))]) (st := []) (by decide +kernel) cv_m10_at st_m10_at lk_2_25 rfl (by omega) (Nat.le_of_ble_eq_true rfl) h (fun r1 M2 _ h3 => ?_)
  exact A_ret ⟨by decide +kernel, Or.inl rfl⟩ ⟨_, rfl, h3⟩
theorem q_2_add {o : Nat} {x1 : Int} {x2 : Int} {x3 : Int} {x4 : Int} {M : Mem} {P : Mem → Prop} (h : (CD m10_put 1 [(30, ((o + 1 : Nat) : Int)), (0, (w32 ((M o 1) * 5))), (0, x1)] M (fun M2 => (CD m10_put 1 [(30, ((o + 1 : Nat) : Int)), (0, (w32 ((w32 ((M o 1) * 5)) + 1))), (0, x2)] M2 (fun M5 => (CD m10_put 1 [(30, ((o + 1 : Nat) : Int)), (0, (w32 ((w32 ((M o 1) * 5)) + 2))), (0, x3)] M5 (fun M8 => (CD m10_put 1 [(30, ((o + 1 : Nat) : Int)), (0, (w32 ((w32 ((M o 1) * 5)) + 3))), (0, x4)] M8 (fun M11 => (CD m10_put 1 [(30, ((o + 1 : Nat) : Int)), (0, (w32 ((w32 ((M o 1) * 5)) + 4))), (0, 0)] M11 (fun M14 => (P (mset M14 o 1 (w32 ((M14 o 1) + 1))))))))))))))) : CD m2_add 2 [(12, (o : Int)), (0, x1), (0, x2), (0, x3), (0, x4)] M P := by
  refine CD_of (by decide +kernel) (Nat.le_of_ble_eq_true rfl) ?_
  show A m2_add 2 0 0 [(12, (o : Int)), (0, x1), (0, x2), (0, x3), (0, x4), (2, 0)] [] M (Kd P)
  refine A_aload_n (i := 0) (f := 0) (by omega) rfl (by decide +kernel) rfl ?_
  refine B_getp (v := (M o 1)) (q := (RX2, TX2, 2)) (ci := 2) (j := 1) (p := 1) (by decide +kernel) rfl (by decide) rfl (Or.inl rfl) fl_2_15 rfl ?_
  refine A_iconst (a := 5) (by decide +kernel) (by unfold in32; omega) ?_
  refine A_imul (by decide +kernel) ?_
  refine A_istore (i := 5) (by decide +kernel) (by decide) (fun w h0 hw => by simp at hw; first | (rw [← hw]; decide) | (rw [← hw]; simp)) ?_
  refine A_aload_n (i := 0) (f := 0) (by omega) rfl (by decide +kernel) rfl ?_
  refine B_getr (o' := ((o + 1 : Nat) : Int)) (q := (RX2, TX2, 2)) (ci := 2) (j := 0) (by decide +kernel) rfl (by decide) rfl (by omega) fl_2_11 rfl ?_
  refine A_iload (i := 5) (by decide +kernel) rfl ?_
  refine A_iload_n (i := 1) (f := 1) rfl (by decide +kernel) rfl ?_
  refine A_cSNd (args := [(30, ((o + 1 : Nat) : Int)), (0, (w32 ((M o 1) * 5))), (0, x1)]) (st := []) (by decide +kernel) cv_m10_put st_m10_put lk_2_29 rfl (by omega) (Nat.le_of_ble_eq_true rfl) h (fun M2 h3 => ?_)
  refine A_aload_n (i := 0) (f := 0) (by omega) rfl (by decide +kernel) rfl ?_
  refine B_getr (o' := ((o + 1 : Nat) : Int)) (q := (RX2, TX2, 2)) (ci := 2) (j := 0) (by decide +kernel) rfl (by decide) rfl (by omega) fl_2_11 rfl ?_
  refine A_iload (i := 5) (by decide +kernel) rfl ?_
  refine A_iconst (a := 1) (by decide +kernel) (by unfold in32; omega) ?_
  refine A_iadd (by decide +kernel) ?_
  refine A_iload_n (i := 2) (f := 2) rfl (by decide +kernel) rfl ?_
  refine A_cSNd (args := [(30, ((o + 1 : Nat) : Int)), (0, (w32 ((w32 ((M o 1) * 5)) + 1))), (0, x2)]) (st := []) (by decide +kernel) cv_m10_put st_m10_put lk_2_29 rfl (by omega) (Nat.le_of_ble_eq_true rfl) h3 (fun M5 h6 => ?_)
  refine A_aload_n (i := 0) (f := 0) (by omega) rfl (by decide +kernel) rfl ?_
  refine B_getr (o' := ((o + 1 : Nat) : Int)) (q := (RX2, TX2, 2)) (ci := 2) (j := 0) (by decide +kernel) rfl (by decide) rfl (by omega) fl_2_11 rfl ?_
  refine A_iload (i := 5) (by decide +kernel) rfl ?_
  refine A_iconst (a := 2) (by decide +kernel) (by unfold in32; omega) ?_
  refine A_iadd (by decide +kernel) ?_
  refine A_iload_n (i := 3) (f := 3) rfl (by decide +kernel) rfl ?_
  refine A_cSNd (args := [(30, ((o + 1 : Nat) : Int)), (0, (w32 ((w32 ((M o 1) * 5)) + 2))), (0, x3)]) (st := []) (by decide +kernel) cv_m10_put st_m10_put lk_2_29 rfl (by omega) (Nat.le_of_ble_eq_true rfl) h6 (fun M8 h9 => ?_)
  refine A_aload_n (i := 0) (f := 0) (by omega) rfl (by decide +kernel) rfl ?_
  refine B_getr (o' := ((o + 1 : Nat) : Int)) (q := (RX2, TX2, 2)) (ci := 2) (j := 0) (by decide +kernel) rfl (by decide) rfl (by omega) fl_2_11 rfl ?_
  refine A_iload (i := 5) (by decide +kernel) rfl ?_
  refine A_iconst (a := 3) (by decide +kernel) (by unfold in32; omega) ?_
  refine A_iadd (by decide +kernel) ?_
  refine A_iload (i := 4) (by decide +kernel) rfl ?_
  refine A_cSNd (args := [(30, ((o + 1 : Nat) : Int)), (0, (w32 ((w32 ((M o 1) * 5)) + 3))), (0, x4)]) (st := []) (by decide +kernel) cv_m10_put st_m10_put lk_2_29 rfl (by omega) (Nat.le_of_ble_eq_true rfl) h9 (fun M11 h12 => ?_)
  refine A_aload_n (i := 0) (f := 0) (by omega) rfl (by decide +kernel) rfl ?_
  refine B_getr (o' := ((o + 1 : Nat) : Int)) (q := (RX2, TX2, 2)) (ci := 2) (j := 0) (by decide +kernel) rfl (by decide) rfl (by omega) fl_2_11 rfl ?_
  refine A_iload (i := 5) (by decide +kernel) rfl ?_
  refine A_iconst (a := 4) (by decide +kernel) (by unfold in32; omega) ?_
  refine A_iadd (by decide +kernel) ?_
  refine A_iconst (a := 0) (by decide +kernel) (by unfold in32; omega) ?_
  refine A_cSNd (args := [(30, ((o + 1 : Nat) : Int)), (0, (w32 ((w32 ((M o 1) * 5)) + 4))), (0, 0)]) (st := []) (by decide +kernel) cv_m10_put st_m10_put lk_2_29 rfl (by omega) (Nat.le_of_ble_eq_true rfl) h12 (fun M14 h15 => ?_)
  refine A_aload_n (i := 0) (f := 0) (by omega) rfl (by decide +kernel) rfl ?_
  refine A_dup (by decide +kernel) (by simp) ?_
  refine B_getp (v := (M14 o 1)) (q := (RX2, TX2, 2)) (ci := 2) (j := 1) (p := 1) (by decide +kernel) rfl (by decide) rfl (Or.inl rfl) fl_2_15 rfl ?_
  refine A_iconst (a := 1) (by decide +kernel) (by unfold in32; omega) ?_
  refine A_iadd (by decide +kernel) ?_
  refine B_putp (M' := (mset M14 o 1 (w32 ((M14 o 1) + 1)))) (q := (RX2, TX2, 2)) (ci := 2) (j := 1) (p := 1) (by decide +kernel) rfl (by decide) rfl (Or.inl ⟨rfl, rfl⟩) rfl fl_2_15 rfl ?_
  exact A_ret ⟨by decide +kernel, rfl⟩ ⟨rfl, h15⟩
theorem q_2_dropLast {o : Nat} {M : Mem} {P : Mem → Prop} (h : (P (mset M o 1 (w32 ((M o 1) - 1))))) : CD m2_dropLast 1 [(12, (o : Int))] M P := by
  refine CD_of (by decide +kernel) (Nat.le_of_ble_eq_true rfl) ?_
  show A m2_dropLast 1 0 0 [(12, (o : Int))] [] M (Kd P)
  refine A_aload_n (i := 0) (f := 0) (by omega) rfl (by decide +kernel) rfl ?_
  refine A_dup (by decide +kernel) (by simp) ?_
  refine B_getp (v := (M o 1)) (q := (RX2, TX2, 2)) (ci := 2) (j := 1) (p := 1) (by decide +kernel) rfl (by decide) rfl (Or.inl rfl) fl_2_15 rfl ?_
  refine A_iconst (a := 1) (by decide +kernel) (by unfold in32; omega) ?_
  refine A_isub (by decide +kernel) ?_
  refine B_putp (M' := (mset M o 1 (w32 ((M o 1) - 1)))) (q := (RX2, TX2, 2)) (ci := 2) (j := 1) (p := 1) (by decide +kernel) rfl (by decide) rfl (Or.inl ⟨rfl, rfl⟩) rfl fl_2_15 rfl ?_
  exact A_ret ⟨by decide +kernel, rfl⟩ ⟨rfl, h⟩
theorem q_2_lives {o : Nat} {x1 : Int} {M : Mem} {P : Int → Mem → Prop} (h : ((x1 < 0 → (P 0 M)) ∧ (0 ≤ x1 → (((M o 1) ≤ x1 → (P 0 M)) ∧ (x1 < (M o 1) → (CI m10_at 1 [(30, ((o + 1 : Nat) : Int)), (0, (w32 ((w32 (x1 * 5)) + 4)))] M (fun r7 M8 => ((r7 ≠ 0 → (P 0 M8)) ∧ (r7 = 0 → (P 1 M8)))))))))) : CI m2_lives 2 [(12, (o : Int)), (0, x1)] M P := by
  refine CI_of (by decide +kernel) (Nat.le_of_ble_eq_true rfl) ?_
  show A m2_lives 2 0 0 [(12, (o : Int)), (0, x1)] [] M (Ki P)
  refine A_iload_n (i := 1) (f := 1) rfl (by decide +kernel) rfl ?_
  refine A_if_lt (off := 30) (tgt := 31) (by decide +kernel) (by omega) (fun b1 => ?_) (fun b1 => ?_)
  · have h2 := h.1 b1
    refine A_iconst (a := 0) (by decide +kernel) (by unfold in32; omega) ?_
    exact A_ret ⟨by decide +kernel, Or.inr ⟨rfl, by decide⟩⟩ ⟨_, rfl, h2⟩
  · have h3 := h.2 (Int.not_lt.mp b1)
    refine A_iload_n (i := 1) (f := 1) rfl (by decide +kernel) rfl ?_
    refine A_aload_n (i := 0) (f := 0) (by omega) rfl (by decide +kernel) rfl ?_
    refine B_getp (v := (M o 1)) (q := (RX2, TX2, 2)) (ci := 2) (j := 1) (p := 1) (by decide +kernel) rfl (by decide) rfl (Or.inl rfl) fl_2_15 rfl ?_
    refine A_ic_ge (off := 22) (tgt := 31) (by decide +kernel) (by omega) (fun b4 => ?_) (fun b4 => ?_)
    · have h5 := h3.1 b4
      refine A_iconst (a := 0) (by decide +kernel) (by unfold in32; omega) ?_
      exact A_ret ⟨by decide +kernel, Or.inr ⟨rfl, by decide⟩⟩ ⟨_, rfl, h5⟩
    · have h6 := h3.2 (Int.not_le.mp b4)
      refine A_aload_n (i := 0) (f := 0) (by omega) rfl (by decide +kernel) rfl ?_
      refine B_getr (o' := ((o + 1 : Nat) : Int)) (q := (RX2, TX2, 2)) (ci := 2) (j := 0) (by decide +kernel) rfl (by decide) rfl (by omega) fl_2_11 rfl ?_
      refine A_iload_n (i := 1) (f := 1) rfl (by decide +kernel) rfl ?_
      refine A_iconst (a := 5) (by decide +kernel) (by unfold in32; omega) ?_
      refine A_imul (by decide +kernel) ?_
      refine A_iconst (a := 4) (by decide +kernel) (by unfold in32; omega) ?_
      refine A_iadd (by decide +kernel) ?_
      refine A_cSNi (args := [(30, ((o + 1 : Nat) : Int)), (0, (w32 ((w32 (x1 * 5)) + 4)))]) (st := []) (by decide +kernel) cv_m10_at st_m10_at lk_2_25 rfl (by omega) (Nat.le_of_ble_eq_true rfl) h6 (fun r7 M8 _ h9 => ?_)
      refine A_if_ne (off := 7) (tgt := 31) (by decide +kernel) (by omega) (fun b10 => ?_) (fun b10 => ?_)
      · have h11 := h9.1 b10
        refine A_iconst (a := 0) (by decide +kernel) (by unfold in32; omega) ?_
        exact A_ret ⟨by decide +kernel, Or.inr ⟨rfl, by decide⟩⟩ ⟨_, rfl, h11⟩
      · have h12 := h9.2 (Decidable.not_not.mp b10)
        refine A_iconst (a := 1) (by decide +kernel) (by unfold in32; omega) ?_
        refine A_goto (off := 4) (tgt := 32) (by decide +kernel) (by omega) ?_
        exact A_ret ⟨by decide +kernel, Or.inr ⟨rfl, by decide⟩⟩ ⟨_, rfl, h12⟩
theorem q_2_strikeOut {o : Nat} {x1 : Int} {M : Mem} {P : Mem → Prop} (h : (CD m10_put 1 [(30, ((o + 1 : Nat) : Int)), (0, (w32 ((w32 (x1 * 5)) + 4))), (0, 1)] M (fun M2 => (P M2)))) : CD m2_strikeOut 2 [(12, (o : Int)), (0, x1)] M P := by
  refine CD_of (by decide +kernel) (Nat.le_of_ble_eq_true rfl) ?_
  show A m2_strikeOut 2 0 0 [(12, (o : Int)), (0, x1)] [] M (Kd P)
  refine A_aload_n (i := 0) (f := 0) (by omega) rfl (by decide +kernel) rfl ?_
  refine B_getr (o' := ((o + 1 : Nat) : Int)) (q := (RX2, TX2, 2)) (ci := 2) (j := 0) (by decide +kernel) rfl (by decide) rfl (by omega) fl_2_11 rfl ?_
  refine A_iload_n (i := 1) (f := 1) rfl (by decide +kernel) rfl ?_
  refine A_iconst (a := 5) (by decide +kernel) (by unfold in32; omega) ?_
  refine A_imul (by decide +kernel) ?_
  refine A_iconst (a := 4) (by decide +kernel) (by unfold in32; omega) ?_
  refine A_iadd (by decide +kernel) ?_
  refine A_iconst (a := 1) (by decide +kernel) (by unfold in32; omega) ?_
  refine A_cSNd (args := [(30, ((o + 1 : Nat) : Int)), (0, (w32 ((w32 (x1 * 5)) + 4))), (0, 1)]) (st := []) (by decide +kernel) cv_m10_put st_m10_put lk_2_29 rfl (by omega) (Nat.le_of_ble_eq_true rfl) h (fun M2 h3 => ?_)
  exact A_ret ⟨by decide +kernel, rfl⟩ ⟨rfl, h3⟩
theorem q_2_isLevel {o : Nat} {x1 : Int} {M : Mem} {P : Int → Mem → Prop} (h : (CI m10_at 1 [(30, ((o + 1 : Nat) : Int)), (0, (w32 ((w32 (x1 * 5)) + 2)))] M (fun r1 M2 => ((r1 ≠ 1 → (P 0 M2)) ∧ (r1 = 1 → (P 1 M2)))))) : CI m2_isLevel 2 [(12, (o : Int)), (0, x1)] M P := by
  refine CI_of (by decide +kernel) (Nat.le_of_ble_eq_true rfl) ?_
  show A m2_isLevel 2 0 0 [(12, (o : Int)), (0, x1)] [] M (Ki P)
  refine A_aload_n (i := 0) (f := 0) (by omega) rfl (by decide +kernel) rfl ?_
  refine B_getr (o' := ((o + 1 : Nat) : Int)) (q := (RX2, TX2, 2)) (ci := 2) (j := 0) (by decide +kernel) rfl (by decide) rfl (by omega) fl_2_11 rfl ?_
  refine A_iload_n (i := 1) (f := 1) rfl (by decide +kernel) rfl ?_
  refine A_iconst (a := 5) (by decide +kernel) (by unfold in32; omega) ?_
  refine A_imul (by decide +kernel) ?_
  refine A_iconst (a := 2) (by decide +kernel) (by unfold in32; omega) ?_
  refine A_iadd (by decide +kernel) ?_
  refine A_cSNi (args := [(30, ((o + 1 : Nat) : Int)), (0, (w32 ((w32 (x1 * 5)) + 2)))]) (st := []) (by decide +kernel) cv_m10_at st_m10_at lk_2_25 rfl (by omega) (Nat.le_of_ble_eq_true rfl) h (fun r1 M2 _ h3 => ?_)
  refine A_iconst (a := 1) (by decide +kernel) (by unfold in32; omega) ?_
  refine A_ic_ne (off := 7) (tgt := 20) (by decide +kernel) (by omega) (fun b4 => ?_) (fun b4 => ?_)
  · have h5 := h3.1 b4
    refine A_iconst (a := 0) (by decide +kernel) (by unfold in32; omega) ?_
    exact A_ret ⟨by decide +kernel, Or.inr ⟨rfl, by decide⟩⟩ ⟨_, rfl, h5⟩
  · have h6 := h3.2 (Decidable.not_not.mp b4)
    refine A_iconst (a := 1) (by decide +kernel) (by unfold in32; omega) ?_
    refine A_goto (off := 4) (tgt := 21) (by decide +kernel) (by omega) ?_
    exact A_ret ⟨by decide +kernel, Or.inr ⟨rfl, by decide⟩⟩ ⟨_, rfl, h6⟩
theorem q_2_isOf {o : Nat} {x1 : Int} {x2 : Int} {M : Mem} {P : Int → Mem → Prop} (h : (CI m10_at 1 [(30, ((o + 1 : Nat) : Int)), (0, (w32 ((w32 (x1 * 5)) + 3)))] M (fun r1 M2 => ((r1 = (-1) → (P 1 M2)) ∧ (r1 ≠ (-1) → ((r1 ≠ x2 → (P 0 M2)) ∧ (r1 = x2 → (P 1 M2)))))))) : CI m2_isOf 2 [(12, (o : Int)), (0, x1), (0, x2)] M P := by
  refine CI_of (by decide +kernel) (Nat.le_of_ble_eq_true rfl) ?_
  show A m2_isOf 2 0 0 [(12, (o : Int)), (0, x1), (0, x2), (2, 0)] [] M (Ki P)
  refine A_aload_n (i := 0) (f := 0) (by omega) rfl (by decide +kernel) rfl ?_
  refine B_getr (o' := ((o + 1 : Nat) : Int)) (q := (RX2, TX2, 2)) (ci := 2) (j := 0) (by decide +kernel) rfl (by decide) rfl (by omega) fl_2_11 rfl ?_
  refine A_iload_n (i := 1) (f := 1) rfl (by decide +kernel) rfl ?_
  refine A_iconst (a := 5) (by decide +kernel) (by unfold in32; omega) ?_
  refine A_imul (by decide +kernel) ?_
  refine A_iconst (a := 3) (by decide +kernel) (by unfold in32; omega) ?_
  refine A_iadd (by decide +kernel) ?_
  refine A_cSNi (args := [(30, ((o + 1 : Nat) : Int)), (0, (w32 ((w32 (x1 * 5)) + 3)))]) (st := []) (by decide +kernel) cv_m10_at st_m10_at lk_2_25 rfl (by omega) (Nat.le_of_ble_eq_true rfl) h (fun r1 M2 _ h3 => ?_)
  refine A_istore_n (i := 3) (f := 3) rfl (by decide +kernel) (by decide) (fun w h0 hw => by simp at hw; first | (rw [← hw]; decide) | (rw [← hw]; simp)) ?_
  refine A_iload_n (i := 3) (f := 3) rfl (by decide +kernel) rfl ?_
  refine A_iconst (a := (-1)) (by decide +kernel) (by unfold in32; omega) ?_
  refine A_ic_eq (off := 8) (tgt := 23) (by decide +kernel) (by omega) (fun b4 => ?_) (fun b4 => ?_)
  · have h5 := h3.1 b4
    refine A_iconst (a := 1) (by decide +kernel) (by unfold in32; omega) ?_
    refine A_goto (off := 4) (tgt := 28) (by decide +kernel) (by omega) ?_
    exact A_ret ⟨by decide +kernel, Or.inr ⟨rfl, by decide⟩⟩ ⟨_, rfl, h5⟩
  · have h6 := h3.2 b4
    refine A_iload_n (i := 3) (f := 3) rfl (by decide +kernel) rfl ?_
    refine A_iload_n (i := 2) (f := 2) rfl (by decide +kernel) rfl ?_
    refine A_ic_ne (off := 7) (tgt := 27) (by decide +kernel) (by omega) (fun b7 => ?_) (fun b7 => ?_)
    · have h8 := h6.1 b7
      refine A_iconst (a := 0) (by decide +kernel) (by unfold in32; omega) ?_
      exact A_ret ⟨by decide +kernel, Or.inr ⟨rfl, by decide⟩⟩ ⟨_, rfl, h8⟩
    · have h9 := h6.2 (Decidable.not_not.mp b7)
      refine A_iconst (a := 1) (by decide +kernel) (by unfold in32; omega) ?_
      refine A_goto (off := 4) (tgt := 28) (by decide +kernel) (by omega) ?_
      exact A_ret ⟨by decide +kernel, Or.inr ⟨rfl, by decide⟩⟩ ⟨_, rfl, h9⟩
theorem q_2_countLiving {o : Nat} {M : Mem} {P : Int → Mem → Prop} (h : A m2_countLiving 3 0 4 [(12, (o : Int)), (0, 0), (0, 0)] [] M (Ki P)) : CI m2_countLiving 3 [(12, (o : Int))] M P := by
  refine CI_of (by decide +kernel) (Nat.le_of_ble_eq_true rfl) ?_
  show A m2_countLiving 3 0 0 [(12, (o : Int)), (2, 0), (2, 0)] [] M (Ki P)
  refine A_iconst (a := 0) (by decide +kernel) (by unfold in32; omega) ?_
  refine A_istore_n (i := 1) (f := 1) rfl (by decide +kernel) (by decide) (fun w h0 hw => by simp at hw; first | (rw [← hw]; decide) | (rw [← hw]; simp)) ?_
  refine A_iconst (a := 0) (by decide +kernel) (by unfold in32; omega) ?_
  refine A_istore_n (i := 2) (f := 2) rfl (by decide +kernel) (by decide) (fun w h0 hw => by simp at hw; first | (rw [← hw]; decide) | (rw [← hw]; simp)) ?_
  exact A_weak (lsub.keep (lsub.keep (lsub.keep lsub.nil))) h
theorem r_2_countLiving_4 {o : Nat} {x1 : Int} {x2 : Int} {M : Mem} {P : Int → Mem → Prop} (h : (((M o 1) ≤ x2 → (P x1 M)) ∧ (x2 < (M o 1) → (CI m2_lives 2 [(12, (o : Int)), (0, x2)] M (fun r4 M5 => ((r4 = 0 → A m2_countLiving 3 0 4 [(12, (o : Int)), (0, x1), (0, (w32 (x2 + 1)))] [] M5 (Ki P)) ∧ (r4 ≠ 0 → A m2_countLiving 3 0 4 [(12, (o : Int)), (0, (w32 (x1 + 1))), (0, (w32 (x2 + 1)))] [] M5 (Ki P)))))))) : A m2_countLiving 3 0 4 [(12, (o : Int)), (0, x1), (0, x2)] [] M (Ki P) := by
  refine A_iload_n (i := 2) (f := 2) rfl (by decide +kernel) rfl ?_
  refine A_aload_n (i := 0) (f := 0) (by omega) rfl (by decide +kernel) rfl ?_
  refine B_getp (v := (M o 1)) (q := (RX2, TX2, 2)) (ci := 2) (j := 1) (p := 1) (by decide +kernel) rfl (by decide) rfl (Or.inl rfl) fl_2_15 rfl ?_
  refine A_ic_ge (off := 20) (tgt := 29) (by decide +kernel) (by omega) (fun b1 => ?_) (fun b1 => ?_)
  · have h2 := h.1 b1
    refine A_iload_n (i := 1) (f := 1) rfl (by decide +kernel) rfl ?_
    exact A_ret ⟨by decide +kernel, Or.inl rfl⟩ ⟨_, rfl, h2⟩
  · have h3 := h.2 (Int.not_le.mp b1)
    refine A_aload_n (i := 0) (f := 0) (by omega) rfl (by decide +kernel) rfl ?_
    refine A_iload_n (i := 2) (f := 2) rfl (by decide +kernel) rfl ?_
    refine A_cVi (q := (RX2, TX2, 2)) (ci := 2) (o := (o : Int)) (args := [(0, x2)]) (st := []) (by decide +kernel) cv_m2_lives rfl rfl in_m2_lives se_m2_lives lk_2_33 rfl (by omega) (Nat.le_of_ble_eq_true rfl) h3 (fun r4 M5 _ h6 => ?_)
    refine A_if_eq (off := 6) (tgt := 23) (by decide +kernel) (by omega) (fun b7 => ?_) (fun b7 => ?_)
    · have h8 := h6.1 b7
      refine A_iinc (i := 2) (n := 1) (by decide +kernel) (by decide) rfl (fun w h0 hw => by simp at hw; first | (rw [← hw]; decide) | (rw [← hw]; simp)) ?_
      refine A_goto (off := (-22)) (tgt := 4) (by decide +kernel) (by omega) ?_
      exact A_weak (lsub.keep (lsub.keep (lsub.keep lsub.nil))) h8
    · have h9 := h6.2 b7
      refine A_iinc (i := 1) (n := 1) (by decide +kernel) (by decide) rfl (fun w h0 hw => by simp at hw; first | (rw [← hw]; decide) | (rw [← hw]; simp)) ?_
      refine A_iinc (i := 2) (n := 1) (by decide +kernel) (by decide) rfl (fun w h0 hw => by simp at hw; first | (rw [← hw]; decide) | (rw [← hw]; simp)) ?_
      refine A_goto (off := (-22)) (tgt := 4) (by decide +kernel) (by omega) ?_
      exact A_weak (lsub.keep (lsub.keep (lsub.keep lsub.nil))) h9
theorem q_2_tells {o : Nat} {x1 : Int} {x2 : Int} {x3 : Int} {x4 : Int} {M : Mem} {P : Int → Mem → Prop} (h : A m2_tells 4 0 3 [(12, (o : Int)), (0, x1), (0, x2), (0, x3), (0, x4), (0, 0)] [] M (Ki P)) : CI m2_tells 4 [(12, (o : Int)), (0, x1), (0, x2), (0, x3), (0, x4)] M P := by
  refine CI_of (by decide +kernel) (Nat.le_of_ble_eq_true rfl) ?_
  show A m2_tells 4 0 0 [(12, (o : Int)), (0, x1), (0, x2), (0, x3), (0, x4), (2, 0)] [] M (Ki P)
  refine A_iconst (a := 0) (by decide +kernel) (by unfold in32; omega) ?_
  refine A_istore (i := 5) (by decide +kernel) (by decide) (fun w h0 hw => by simp at hw; first | (rw [← hw]; decide) | (rw [← hw]; simp)) ?_
  exact A_weak (lsub.keep (lsub.keep (lsub.keep (lsub.keep (lsub.keep (lsub.keep lsub.nil)))))) h
theorem r_2_tells_3 {o : Nat} {x1 : Int} {x2 : Int} {x3 : Int} {x4 : Int} {x5 : Int} {M : Mem} {P : Int → Mem → Prop} (h : (((M o 1) ≤ x5 → (P 0 M)) ∧ (x5 < (M o 1) → (CI m2_lives 2 [(12, (o : Int)), (0, x5)] M (fun r4 M5 => ((r4 = 0 → A m2_tells 4 0 3 [(12, (o : Int)), (0, x1), (0, x2), (0, x3), (0, x4), (0, (w32 (x5 + 1)))] [] M5 (Ki P)) ∧ (r4 ≠ 0 → (CI m2_cell 2 [(12, (o : Int)), (0, x5), (0, 2)] M5 (fun r10 M11 => ((r10 ≠ x3 → A m2_tells 4 0 3 [(12, (o : Int)), (0, x1), (0, x2), (0, x3), (0, x4), (0, (w32 (x5 + 1)))] [] M11 (Ki P)) ∧ (r10 = x3 → (CI m2_cell 2 [(12, (o : Int)), (0, x5), (0, 3)] M11 (fun r16 M17 => ((r16 ≠ x4 → A m2_tells 4 0 3 [(12, (o : Int)), (0, x1), (0, x2), (0, x3), (0, x4), (0, (w32 (x5 + 1)))] [] M17 (Ki P)) ∧ (r16 = x4 → (CI m2_isOfTwo 3 [(12, (o : Int)), (0, x5), (0, x1), (0, x2)] M17 (fun r22 M23 => ((r22 = 0 → A m2_tells 4 0 3 [(12, (o : Int)), (0, x1), (0, x2), (0, x3), (0, x4), (0, (w32 (x5 + 1)))] [] M23 (Ki P)) ∧ (r22 ≠ 0 → (P 1 M23)))))))))))))))))))) : A m2_tells 4 0 3 [(12, (o : Int)), (0, x1), (0, x2), (0, x3), (0, x4), (0, x5)] [] M (Ki P) := by
  refine A_iload (i := 5) (by decide +kernel) rfl ?_
  refine A_aload_n (i := 0) (f := 0) (by omega) rfl (by decide +kernel) rfl ?_
  refine B_getp (v := (M o 1)) (q := (RX2, TX2, 2)) (ci := 2) (j := 1) (p := 1) (by decide +kernel) rfl (by decide) rfl (Or.inl rfl) fl_2_15 rfl ?_
  refine A_ic_ge (off := 54) (tgt := 63) (by decide +kernel) (by omega) (fun b1 => ?_) (fun b1 => ?_)
  · have h2 := h.1 b1
    refine A_iconst (a := 0) (by decide +kernel) (by unfold in32; omega) ?_
    exact A_ret ⟨by decide +kernel, Or.inr ⟨rfl, by decide⟩⟩ ⟨_, rfl, h2⟩
  · have h3 := h.2 (Int.not_le.mp b1)
    refine A_aload_n (i := 0) (f := 0) (by omega) rfl (by decide +kernel) rfl ?_
    refine A_iload (i := 5) (by decide +kernel) rfl ?_
    refine A_cVi (q := (RX2, TX2, 2)) (ci := 2) (o := (o : Int)) (args := [(0, x5)]) (st := []) (by decide +kernel) cv_m2_lives rfl rfl in_m2_lives se_m2_lives lk_2_33 rfl (by omega) (Nat.le_of_ble_eq_true rfl) h3 (fun r4 M5 _ h6 => ?_)
    refine A_if_eq (off := 39) (tgt := 57) (by decide +kernel) (by omega) (fun b7 => ?_) (fun b7 => ?_)
    · have h8 := h6.1 b7
      refine A_iinc (i := 5) (n := 1) (by decide +kernel) (by decide) rfl (fun w h0 hw => by simp at hw; first | (rw [← hw]; decide) | (rw [← hw]; simp)) ?_
      refine A_goto (off := (-57)) (tgt := 3) (by decide +kernel) (by omega) ?_
      exact A_weak (lsub.keep (lsub.keep (lsub.keep (lsub.keep (lsub.keep (lsub.keep lsub.nil)))))) h8
    · have h9 := h6.2 b7
      refine A_aload_n (i := 0) (f := 0) (by omega) rfl (by decide +kernel) rfl ?_
      refine A_iload (i := 5) (by decide +kernel) rfl ?_
      refine A_iconst (a := 2) (by decide +kernel) (by unfold in32; omega) ?_
      refine A_cVi (q := (RX2, TX2, 2)) (ci := 2) (o := (o : Int)) (args := [(0, x5), (0, 2)]) (st := []) (by decide +kernel) cv_m2_cell rfl rfl in_m2_cell se_m2_cell lk_2_37 rfl (by omega) (Nat.le_of_ble_eq_true rfl) h9 (fun r10 M11 _ h12 => ?_)
      refine A_iload_n (i := 3) (f := 3) rfl (by decide +kernel) rfl ?_
      refine A_ic_ne (off := 28) (tgt := 57) (by decide +kernel) (by omega) (fun b13 => ?_) (fun b13 => ?_)
      · have h14 := h12.1 b13
        refine A_iinc (i := 5) (n := 1) (by decide +kernel) (by decide) rfl (fun w h0 hw => by simp at hw; first | (rw [← hw]; decide) | (rw [← hw]; simp)) ?_
        refine A_goto (off := (-57)) (tgt := 3) (by decide +kernel) (by omega) ?_
        exact A_weak (lsub.keep (lsub.keep (lsub.keep (lsub.keep (lsub.keep (lsub.keep lsub.nil)))))) h14
      · have h15 := h12.2 (Decidable.not_not.mp b13)
        refine A_aload_n (i := 0) (f := 0) (by omega) rfl (by decide +kernel) rfl ?_
        refine A_iload (i := 5) (by decide +kernel) rfl ?_
        refine A_iconst (a := 3) (by decide +kernel) (by unfold in32; omega) ?_
        refine A_cVi (q := (RX2, TX2, 2)) (ci := 2) (o := (o : Int)) (args := [(0, x5), (0, 3)]) (st := []) (by decide +kernel) cv_m2_cell rfl rfl in_m2_cell se_m2_cell lk_2_37 rfl (by omega) (Nat.le_of_ble_eq_true rfl) h15 (fun r16 M17 _ h18 => ?_)
        refine A_iload (i := 4) (by decide +kernel) rfl ?_
        refine A_ic_ne (off := 16) (tgt := 57) (by decide +kernel) (by omega) (fun b19 => ?_) (fun b19 => ?_)
        · have h20 := h18.1 b19
          refine A_iinc (i := 5) (n := 1) (by decide +kernel) (by decide) rfl (fun w h0 hw => by simp at hw; first | (rw [← hw]; decide) | (rw [← hw]; simp)) ?_
          refine A_goto (off := (-57)) (tgt := 3) (by decide +kernel) (by omega) ?_
          exact A_weak (lsub.keep (lsub.keep (lsub.keep (lsub.keep (lsub.keep (lsub.keep lsub.nil)))))) h20
        · have h21 := h18.2 (Decidable.not_not.mp b19)
          refine A_aload_n (i := 0) (f := 0) (by omega) rfl (by decide +kernel) rfl ?_
          refine A_iload (i := 5) (by decide +kernel) rfl ?_
          refine A_iload_n (i := 1) (f := 1) rfl (by decide +kernel) rfl ?_
          refine A_iload_n (i := 2) (f := 2) rfl (by decide +kernel) rfl ?_
          refine A_cVi (q := (RX2, TX2, 2)) (ci := 2) (o := (o : Int)) (args := [(0, x5), (0, x1), (0, x2)]) (st := []) (by decide +kernel) cv_m2_isOfTwo rfl rfl in_m2_isOfTwo se_m2_isOfTwo lk_2_41 rfl (by omega) (Nat.le_of_ble_eq_true rfl) h21 (fun r22 M23 _ h24 => ?_)
          refine A_if_eq (off := 5) (tgt := 57) (by decide +kernel) (by omega) (fun b25 => ?_) (fun b25 => ?_)
          · have h26 := h24.1 b25
            refine A_iinc (i := 5) (n := 1) (by decide +kernel) (by decide) rfl (fun w h0 hw => by simp at hw; first | (rw [← hw]; decide) | (rw [← hw]; simp)) ?_
            refine A_goto (off := (-57)) (tgt := 3) (by decide +kernel) (by omega) ?_
            exact A_weak (lsub.keep (lsub.keep (lsub.keep (lsub.keep (lsub.keep (lsub.keep lsub.nil)))))) h26
          · have h27 := h24.2 b25
            refine A_iconst (a := 1) (by decide +kernel) (by unfold in32; omega) ?_
            exact A_ret ⟨by decide +kernel, Or.inr ⟨rfl, by decide⟩⟩ ⟨_, rfl, h27⟩
theorem q_2_isOfTwo {o : Nat} {x1 : Int} {x2 : Int} {x3 : Int} {M : Mem} {P : Int → Mem → Prop} (h : (CI m2_cell 2 [(12, (o : Int)), (0, x1), (0, 0)] M (fun r1 M2 => ((r1 ≠ x2 → (CI m2_isLevel 2 [(12, (o : Int)), (0, x1)] M2 (fun r7 M8 => ((r7 = 0 → (P 0 M8)) ∧ (r7 ≠ 0 → (CI m2_cell 2 [(12, (o : Int)), (0, x1), (0, 0)] M8 (fun r13 M14 => ((r13 ≠ x3 → (P 0 M14)) ∧ (r13 = x3 → (CI m2_cell 2 [(12, (o : Int)), (0, x1), (0, 1)] M14 (fun r19 M20 => ((r19 ≠ x2 → (P 0 M20)) ∧ (r19 = x2 → (P 1 M20)))))))))))))) ∧ (r1 = x2 → (CI m2_cell 2 [(12, (o : Int)), (0, x1), (0, 1)] M2 (fun r25 M26 => ((r25 ≠ x3 → (CI m2_isLevel 2 [(12, (o : Int)), (0, x1)] M26 (fun r31 M32 => ((r31 = 0 → (P 0 M32)) ∧ (r31 ≠ 0 → (CI m2_cell 2 [(12, (o : Int)), (0, x1), (0, 0)] M32 (fun r37 M38 => ((r37 ≠ x3 → (P 0 M38)) ∧ (r37 = x3 → (CI m2_cell 2 [(12, (o : Int)), (0, x1), (0, 1)] M38 (fun r43 M44 => ((r43 ≠ x2 → (P 0 M44)) ∧ (r43 = x2 → (P 1 M44)))))))))))))) ∧ (r25 = x3 → (P 1 M26)))))))))) : CI m2_isOfTwo 3 [(12, (o : Int)), (0, x1), (0, x2), (0, x3)] M P := by
  refine CI_of (by decide +kernel) (Nat.le_of_ble_eq_true rfl) ?_
  show A m2_isOfTwo 3 0 0 [(12, (o : Int)), (0, x1), (0, x2), (0, x3)] [] M (Ki P)
  refine A_aload_n (i := 0) (f := 0) (by omega) rfl (by decide +kernel) rfl ?_
  refine A_iload_n (i := 1) (f := 1) rfl (by decide +kernel) rfl ?_
  refine A_iconst (a := 0) (by decide +kernel) (by unfold in32; omega) ?_
  refine A_cVi (q := (RX2, TX2, 2)) (ci := 2) (o := (o : Int)) (args := [(0, x1), (0, 0)]) (st := []) (by decide +kernel) cv_m2_cell rfl rfl in_m2_cell se_m2_cell lk_2_37 rfl (by omega) (Nat.le_of_ble_eq_true rfl) h (fun r1 M2 _ h3 => ?_)
  refine A_iload_n (i := 2) (f := 2) rfl (by decide +kernel) rfl ?_
  refine A_ic_ne (off := 15) (tgt := 22) (by decide +kernel) (by omega) (fun b4 => ?_) (fun b4 => ?_)
  · have h5 := h3.1 b4
    refine A_aload_n (i := 0) (f := 0) (by omega) rfl (by decide +kernel) rfl ?_
    refine A_iload_n (i := 1) (f := 1) rfl (by decide +kernel) rfl ?_
    refine A_cVi (q := (RX2, TX2, 2)) (ci := 2) (o := (o : Int)) (args := [(0, x1)]) (st := []) (by decide +kernel) cv_m2_isLevel rfl rfl in_m2_isLevel se_m2_isLevel lk_2_45 rfl (by omega) (Nat.le_of_ble_eq_true rfl) h5 (fun r7 M8 _ h9 => ?_)
    refine A_if_eq (off := 27) (tgt := 54) (by decide +kernel) (by omega) (fun b10 => ?_) (fun b10 => ?_)
    · have h11 := h9.1 b10
      refine A_iconst (a := 0) (by decide +kernel) (by unfold in32; omega) ?_
      exact A_ret ⟨by decide +kernel, Or.inr ⟨rfl, by decide⟩⟩ ⟨_, rfl, h11⟩
    · have h12 := h9.2 b10
      refine A_aload_n (i := 0) (f := 0) (by omega) rfl (by decide +kernel) rfl ?_
      refine A_iload_n (i := 1) (f := 1) rfl (by decide +kernel) rfl ?_
      refine A_iconst (a := 0) (by decide +kernel) (by unfold in32; omega) ?_
      refine A_cVi (q := (RX2, TX2, 2)) (ci := 2) (o := (o : Int)) (args := [(0, x1), (0, 0)]) (st := []) (by decide +kernel) cv_m2_cell rfl rfl in_m2_cell se_m2_cell lk_2_37 rfl (by omega) (Nat.le_of_ble_eq_true rfl) h12 (fun r13 M14 _ h15 => ?_)
      refine A_iload_n (i := 3) (f := 3) rfl (by decide +kernel) rfl ?_
      refine A_ic_ne (off := 17) (tgt := 54) (by decide +kernel) (by omega) (fun b16 => ?_) (fun b16 => ?_)
      · have h17 := h15.1 b16
        refine A_iconst (a := 0) (by decide +kernel) (by unfold in32; omega) ?_
        exact A_ret ⟨by decide +kernel, Or.inr ⟨rfl, by decide⟩⟩ ⟨_, rfl, h17⟩
      · have h18 := h15.2 (Decidable.not_not.mp b16)
        refine A_aload_n (i := 0) (f := 0) (by omega) rfl (by decide +kernel) rfl ?_
        refine A_iload_n (i := 1) (f := 1) rfl (by decide +kernel) rfl ?_
        refine A_iconst (a := 1) (by decide +kernel) (by unfold in32; omega) ?_
        refine A_cVi (q := (RX2, TX2, 2)) (ci := 2) (o := (o : Int)) (args := [(0, x1), (0, 1)]) (st := []) (by decide +kernel) cv_m2_cell rfl rfl in_m2_cell se_m2_cell lk_2_37 rfl (by omega) (Nat.le_of_ble_eq_true rfl) h18 (fun r19 M20 _ h21 => ?_)
        refine A_iload_n (i := 2) (f := 2) rfl (by decide +kernel) rfl ?_
        refine A_ic_ne (off := 7) (tgt := 54) (by decide +kernel) (by omega) (fun b22 => ?_) (fun b22 => ?_)
        · have h23 := h21.1 b22
          refine A_iconst (a := 0) (by decide +kernel) (by unfold in32; omega) ?_
          exact A_ret ⟨by decide +kernel, Or.inr ⟨rfl, by decide⟩⟩ ⟨_, rfl, h23⟩
        · have h24 := h21.2 (Decidable.not_not.mp b22)
          refine A_iconst (a := 1) (by decide +kernel) (by unfold in32; omega) ?_
          refine A_goto (off := 4) (tgt := 55) (by decide +kernel) (by omega) ?_
          exact A_ret ⟨by decide +kernel, Or.inr ⟨rfl, by decide⟩⟩ ⟨_, rfl, h24⟩
  · have h6 := h3.2 (Decidable.not_not.mp b4)
    refine A_aload_n (i := 0) (f := 0) (by omega) rfl (by decide +kernel) rfl ?_
    refine A_iload_n (i := 1) (f := 1) rfl (by decide +kernel) rfl ?_
    refine A_iconst (a := 1) (by decide +kernel) (by unfold in32; omega) ?_
    refine A_cVi (q := (RX2, TX2, 2)) (ci := 2) (o := (o : Int)) (args := [(0, x1), (0, 1)]) (st := []) (by decide +kernel) cv_m2_cell rfl rfl in_m2_cell se_m2_cell lk_2_37 rfl (by omega) (Nat.le_of_ble_eq_true rfl) h6 (fun r25 M26 _ h27 => ?_)
    refine A_iload_n (i := 3) (f := 3) rfl (by decide +kernel) rfl ?_
    refine A_ic_ne (off := 5) (tgt := 22) (by decide +kernel) (by omega) (fun b28 => ?_) (fun b28 => ?_)
    · have h29 := h27.1 b28
      refine A_aload_n (i := 0) (f := 0) (by omega) rfl (by decide +kernel) rfl ?_
      refine A_iload_n (i := 1) (f := 1) rfl (by decide +kernel) rfl ?_
      refine A_cVi (q := (RX2, TX2, 2)) (ci := 2) (o := (o : Int)) (args := [(0, x1)]) (st := []) (by decide +kernel) cv_m2_isLevel rfl rfl in_m2_isLevel se_m2_isLevel lk_2_45 rfl (by omega) (Nat.le_of_ble_eq_true rfl) h29 (fun r31 M32 _ h33 => ?_)
      refine A_if_eq (off := 27) (tgt := 54) (by decide +kernel) (by omega) (fun b34 => ?_) (fun b34 => ?_)
      · have h35 := h33.1 b34
        refine A_iconst (a := 0) (by decide +kernel) (by unfold in32; omega) ?_
        exact A_ret ⟨by decide +kernel, Or.inr ⟨rfl, by decide⟩⟩ ⟨_, rfl, h35⟩
      · have h36 := h33.2 b34
        refine A_aload_n (i := 0) (f := 0) (by omega) rfl (by decide +kernel) rfl ?_
        refine A_iload_n (i := 1) (f := 1) rfl (by decide +kernel) rfl ?_
        refine A_iconst (a := 0) (by decide +kernel) (by unfold in32; omega) ?_
        refine A_cVi (q := (RX2, TX2, 2)) (ci := 2) (o := (o : Int)) (args := [(0, x1), (0, 0)]) (st := []) (by decide +kernel) cv_m2_cell rfl rfl in_m2_cell se_m2_cell lk_2_37 rfl (by omega) (Nat.le_of_ble_eq_true rfl) h36 (fun r37 M38 _ h39 => ?_)
        refine A_iload_n (i := 3) (f := 3) rfl (by decide +kernel) rfl ?_
        refine A_ic_ne (off := 17) (tgt := 54) (by decide +kernel) (by omega) (fun b40 => ?_) (fun b40 => ?_)
        · have h41 := h39.1 b40
          refine A_iconst (a := 0) (by decide +kernel) (by unfold in32; omega) ?_
          exact A_ret ⟨by decide +kernel, Or.inr ⟨rfl, by decide⟩⟩ ⟨_, rfl, h41⟩
        · have h42 := h39.2 (Decidable.not_not.mp b40)
          refine A_aload_n (i := 0) (f := 0) (by omega) rfl (by decide +kernel) rfl ?_
          refine A_iload_n (i := 1) (f := 1) rfl (by decide +kernel) rfl ?_
          refine A_iconst (a := 1) (by decide +kernel) (by unfold in32; omega) ?_
          refine A_cVi (q := (RX2, TX2, 2)) (ci := 2) (o := (o : Int)) (args := [(0, x1), (0, 1)]) (st := []) (by decide +kernel) cv_m2_cell rfl rfl in_m2_cell se_m2_cell lk_2_37 rfl (by omega) (Nat.le_of_ble_eq_true rfl) h42 (fun r43 M44 _ h45 => ?_)
          refine A_iload_n (i := 2) (f := 2) rfl (by decide +kernel) rfl ?_
          refine A_ic_ne (off := 7) (tgt := 54) (by decide +kernel) (by omega) (fun b46 => ?_) (fun b46 => ?_)
          · have h47 := h45.1 b46
            refine A_iconst (a := 0) (by decide +kernel) (by unfold in32; omega) ?_
            exact A_ret ⟨by decide +kernel, Or.inr ⟨rfl, by decide⟩⟩ ⟨_, rfl, h47⟩
          · have h48 := h45.2 (Decidable.not_not.mp b46)
            refine A_iconst (a := 1) (by decide +kernel) (by unfold in32; omega) ?_
            refine A_goto (off := 4) (tgt := 55) (by decide +kernel) (by omega) ?_
            exact A_ret ⟨by decide +kernel, Or.inr ⟨rfl, by decide⟩⟩ ⟨_, rfl, h48⟩
    · have h30 := h27.2 (Decidable.not_not.mp b28)
      refine A_iconst (a := 1) (by decide +kernel) (by unfold in32; omega) ?_
      exact A_ret ⟨by decide +kernel, Or.inr ⟨rfl, by decide⟩⟩ ⟨_, rfl, h30⟩
