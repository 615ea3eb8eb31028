/-! CourtTongueModel: its regions (made by wip/whole/gall.py) -/
theorem q_11_puts {x1 : Int} {x2 : Int} {M : Mem} {P : Mem → Prop} (h : (((M 59 23) = 0 → (CI m11_fresher 1 [(20, ((59 : Nat) : Int)), (0, 4)] M (fun r4 M5 => ((0 ≤ (w32 (64 + r4)) ∧ (w32 (64 + r4)) < 128) ∧ (CI m11_fresher 1 [(20, ((59 : Nat) : Int)), (0, 4)] (mset M5 67 ((w32 (64 + r4))).toNat x1) (fun r8 M9 => ((0 ≤ (w32 (64 + r8)) ∧ (w32 (64 + r8)) < 128) ∧ (CD m11_oneMore 1 [(20, ((59 : Nat) : Int)), (0, 4)] (mset M9 68 ((w32 (64 + r8))).toNat x2) (fun M13 => (P M13)))))))))) ∧ ((M 59 23) ≠ 0 → (P M)))) : CD m11_puts 2 [(20, ((59 : Nat) : Int)), (0, x1), (0, x2)] M P := by
  refine CD_of (by decide +kernel) (Nat.le_of_ble_eq_true rfl) ?_
  show A m11_puts 2 0 0 [(20, ((59 : Nat) : Int)), (0, x1), (0, x2)] [] M (Kd P)
  refine A_aload_n (i := 0) (f := 0) (by omega) rfl (by decide +kernel) rfl ?_
  refine B_getp (v := (M 59 23)) (q := (RX11, TX11, 59)) (ci := 10) (j := 23) (p := 23) (by decide +kernel) rfl (by decide) rfl (Or.inl rfl) fl_11_175 rfl ?_
  refine A_if_eq (off := 4) (tgt := 8) (by decide +kernel) (by omega) (fun b1 => ?_) (fun b1 => ?_)
  · have h2 := h.1 b1
    refine A_aload_n (i := 0) (f := 0) (by omega) rfl (by decide +kernel) rfl ?_
    refine B_getr (o' := ((67 : Nat) : Int)) (q := (RX11, TX11, 59)) (ci := 10) (j := 9) (by decide +kernel) rfl (by decide) rfl (by omega) fl_11_31 rfl ?_
    refine A_bipush (a := 64) (by decide +kernel) (by unfold in32; omega) (by decide +kernel) ?_
    refine A_aload_n (i := 0) (f := 0) (by omega) rfl (by decide +kernel) rfl ?_
    refine A_iconst (a := 4) (by decide +kernel) (by unfold in32; omega) ?_
    refine A_cVi (q := (RX11, TX11, 59)) (ci := 10) (o := ((59 : Nat) : Int)) (args := [(0, 4)]) (st := [(0, 64), (30, ((67 : Nat) : Int))]) (by decide +kernel) cv_m11_fresher rfl rfl in_m11_fresher se_m11_fresher lk_11_191 rfl (by omega) (Nat.le_of_ble_eq_true rfl) h2 (fun r4 M5 _ h6 => ?_)
    refine A_iadd (by decide +kernel) ?_
    refine A_iload_n (i := 1) (f := 1) rfl (by decide +kernel) rfl ?_
    refine B_iast (M' := (mset M5 67 ((w32 (64 + r4))).toNat x1)) (by decide +kernel) h6.1 rfl ?_
    have h7 := h6.2
    refine A_aload_n (i := 0) (f := 0) (by omega) rfl (by decide +kernel) rfl ?_
    refine B_getr (o' := ((68 : Nat) : Int)) (q := (RX11, TX11, 59)) (ci := 10) (j := 10) (by decide +kernel) rfl (by decide) rfl (by omega) fl_11_34 rfl ?_
    refine A_bipush (a := 64) (by decide +kernel) (by unfold in32; omega) (by decide +kernel) ?_
    refine A_aload_n (i := 0) (f := 0) (by omega) rfl (by decide +kernel) rfl ?_
    refine A_iconst (a := 4) (by decide +kernel) (by unfold in32; omega) ?_
    refine A_cVi (q := (RX11, TX11, 59)) (ci := 10) (o := ((59 : Nat) : Int)) (args := [(0, 4)]) (st := [(0, 64), (30, ((68 : Nat) : Int))]) (by decide +kernel) cv_m11_fresher rfl rfl in_m11_fresher se_m11_fresher lk_11_191 rfl (by omega) (Nat.le_of_ble_eq_true rfl) h7 (fun r8 M9 _ h10 => ?_)
    refine A_iadd (by decide +kernel) ?_
    refine A_iload_n (i := 2) (f := 2) rfl (by decide +kernel) rfl ?_
    refine B_iast (M' := (mset M9 68 ((w32 (64 + r8))).toNat x2)) (by decide +kernel) h10.1 rfl ?_
    have h11 := h10.2
    refine A_aload_n (i := 0) (f := 0) (by omega) rfl (by decide +kernel) rfl ?_
    refine A_iconst (a := 4) (by decide +kernel) (by unfold in32; omega) ?_
    refine A_cVd (q := (RX11, TX11, 59)) (ci := 10) (o := ((59 : Nat) : Int)) (args := [(0, 4)]) (st := []) (by decide +kernel) cv_m11_oneMore rfl rfl in_m11_oneMore se_m11_oneMore lk_11_206 rfl (by omega) (Nat.le_of_ble_eq_true rfl) h11 (fun M13 h14 => ?_)
    exact A_ret ⟨by decide +kernel, rfl⟩ ⟨rfl, h14⟩
  · have h3 := h.2 b1
    exact A_ret ⟨by decide +kernel, rfl⟩ ⟨rfl, h3⟩
theorem q_11_knot  {M : Mem} {P : Mem → Prop} (h : (((M 59 23) = 0 → (((M 59 28) ≠ 64 → (P (mset M 59 28 (w32 ((M 59 28) + 1))))) ∧ ((M 59 28) = 64 → (CD m11_wrong 2 [(20, ((59 : Nat) : Int)), (0, 2)] M (fun M8 => (P M8)))))) ∧ ((M 59 23) ≠ 0 → (P M)))) : CD m11_knot 3 [(20, ((59 : Nat) : Int))] M P := by
  refine CD_of (by decide +kernel) (Nat.le_of_ble_eq_true rfl) ?_
  show A m11_knot 3 0 0 [(20, ((59 : Nat) : Int))] [] M (Kd P)
  refine A_aload_n (i := 0) (f := 0) (by omega) rfl (by decide +kernel) rfl ?_
  refine B_getp (v := (M 59 23)) (q := (RX11, TX11, 59)) (ci := 10) (j := 23) (p := 23) (by decide +kernel) rfl (by decide) rfl (Or.inl rfl) fl_11_175 rfl ?_
  refine A_if_eq (off := 4) (tgt := 8) (by decide +kernel) (by omega) (fun b1 => ?_) (fun b1 => ?_)
  · have h2 := h.1 b1
    refine A_aload_n (i := 0) (f := 0) (by omega) rfl (by decide +kernel) rfl ?_
    refine B_getp (v := (M 59 28)) (q := (RX11, TX11, 59)) (ci := 10) (j := 28) (p := 28) (by decide +kernel) rfl (by decide) rfl (Or.inl rfl) fl_11_253 rfl ?_
    refine A_bipush (a := 64) (by decide +kernel) (by unfold in32; omega) (by decide +kernel) ?_
    refine A_ic_ne (off := 11) (tgt := 25) (by decide +kernel) (by omega) (fun b4 => ?_) (fun b4 => ?_)
    · have h5 := h2.1 b4
      refine A_aload_n (i := 0) (f := 0) (by omega) rfl (by decide +kernel) rfl ?_
      refine A_dup (by decide +kernel) (by simp) ?_
      refine B_getp (v := (M 59 28)) (q := (RX11, TX11, 59)) (ci := 10) (j := 28) (p := 28) (by decide +kernel) rfl (by decide) rfl (Or.inl rfl) fl_11_253 rfl ?_
      refine A_iconst (a := 1) (by decide +kernel) (by unfold in32; omega) ?_
      refine A_iadd (by decide +kernel) ?_
      refine B_putp (M' := (mset M 59 28 (w32 ((M 59 28) + 1)))) (q := (RX11, TX11, 59)) (ci := 10) (j := 28) (p := 28) (by decide +kernel) rfl (by decide) rfl (Or.inl ⟨rfl, rfl⟩) rfl fl_11_253 rfl ?_
      exact A_ret ⟨by decide +kernel, rfl⟩ ⟨rfl, h5⟩
    · have h6 := h2.2 (Decidable.not_not.mp b4)
      refine A_aload_n (i := 0) (f := 0) (by omega) rfl (by decide +kernel) rfl ?_
      refine A_iconst (a := 2) (by decide +kernel) (by unfold in32; omega) ?_
      refine A_cVd (q := (RX11, TX11, 59)) (ci := 10) (o := ((59 : Nat) : Int)) (args := [(0, 2)]) (st := []) (by decide +kernel) cv_m11_wrong rfl rfl in_m11_wrong se_m11_wrong lk_11_184 rfl (by omega) (Nat.le_of_ble_eq_true rfl) h6 (fun M8 h9 => ?_)
      refine A_goto (off := 13) (tgt := 35) (by decide +kernel) (by omega) ?_
      exact A_ret ⟨by decide +kernel, rfl⟩ ⟨rfl, h9⟩
  · have h3 := h.2 b1
    exact A_ret ⟨by decide +kernel, rfl⟩ ⟨rfl, h3⟩
theorem q_11_half {p0 : Nat} {M : Mem} {P : Mem → Prop} (h : A m11_half 1 0 7 [(30, (p0 : Int)), (0, (w32 (Int.tdiv ((aln p0 : Nat) : Int) 2))), (0, 0)] [] M (Kd P)) : CD m11_half 1 [(30, (p0 : Int))] M P := by
  refine CD_of (by decide +kernel) (Nat.le_of_ble_eq_true rfl) ?_
  show A m11_half 1 0 0 [(30, (p0 : Int)), (2, 0), (2, 0)] [] M (Kd P)
  refine A_aload_n (i := 0) (f := 0) (by omega) rfl (by decide +kernel) rfl ?_
  refine B_alen (v := ((aln p0 : Nat) : Int)) (by decide +kernel) (by decide) rfl ?_
  refine A_iconst (a := 2) (by decide +kernel) (by unfold in32; omega) ?_
  refine A_idiv (by decide +kernel) (by omega) ?_
  refine A_istore_n (i := 1) (f := 1) rfl (by decide +kernel) (by decide) (fun w h0 hw => by simp at hw; first | (rw [← hw]; decide) | (rw [← hw]; simp)) ?_
  refine A_iconst (a := 0) (by decide +kernel) (by unfold in32; omega) ?_
  refine A_istore_n (i := 2) (f := 2) rfl (by decide +kernel) (by decide) (fun w h0 hw => by simp at hw; first | (rw [← hw]; decide) | (rw [← hw]; simp)) ?_
  exact A_weak (lsub.keep (lsub.keep (lsub.keep lsub.nil))) h
theorem r_11_half_7 {p0 : Nat} {x1 : Int} {x2 : Int} {M : Mem} {P : Mem → Prop} (h : ((x1 ≤ x2 → (P M)) ∧ (x2 < x1 → ((0 ≤ (w32 (x1 + x2)) ∧ (w32 (x1 + x2)) < ((aln p0 : Nat) : Int)) ∧ ((0 ≤ x2 ∧ x2 < ((aln p0 : Nat) : Int)) ∧ A m11_half 1 0 7 [(30, (p0 : Int)), (0, x1), (0, (w32 (x2 + 1)))] [] (mset M p0 (x2).toNat (M p0 ((w32 (x1 + x2))).toNat)) (Kd P)))))) : A m11_half 1 0 7 [(30, (p0 : Int)), (0, x1), (0, x2)] [] M (Kd P) := by
  refine A_iload_n (i := 2) (f := 2) rfl (by decide +kernel) rfl ?_
  refine A_iload_n (i := 1) (f := 1) rfl (by decide +kernel) rfl ?_
  refine A_ic_ge (off := 17) (tgt := 26) (by decide +kernel) (by omega) (fun b1 => ?_) (fun b1 => ?_)
  · have h2 := h.1 b1
    exact A_ret ⟨by decide +kernel, rfl⟩ ⟨rfl, h2⟩
  · have h3 := h.2 (Int.not_le.mp b1)
    refine A_aload_n (i := 0) (f := 0) (by omega) rfl (by decide +kernel) rfl ?_
    refine A_iload_n (i := 2) (f := 2) rfl (by decide +kernel) rfl ?_
    refine A_aload_n (i := 0) (f := 0) (by omega) rfl (by decide +kernel) rfl ?_
    refine A_iload_n (i := 1) (f := 1) rfl (by decide +kernel) rfl ?_
    refine A_iload_n (i := 2) (f := 2) rfl (by decide +kernel) rfl ?_
    refine A_iadd (by decide +kernel) ?_
    refine B_iald (v := (M p0 ((w32 (x1 + x2))).toNat)) (by decide +kernel) h3.1 rfl ?_
    have h4 := h3.2
    refine B_iast (M' := (mset M p0 (x2).toNat (M p0 ((w32 (x1 + x2))).toNat))) (by decide +kernel) h4.1 rfl ?_
    have h5 := h4.2
    refine A_iinc (i := 2) (n := 1) (by decide +kernel) (by decide) rfl (fun w h0 hw => by simp at hw; first | (rw [← hw]; decide) | (rw [← hw]; simp)) ?_
    refine A_goto (off := (-16)) (tgt := 7) (by decide +kernel) (by omega) ?_
    exact A_weak (lsub.keep (lsub.keep (lsub.keep lsub.nil))) h5
theorem q_11_copyFacts {x1 : Int} {x2 : Int} {x3 : Int} {M : Mem} {P : Mem → Prop} (h : A m11_copyFacts 2 0 3 [(20, ((59 : Nat) : Int)), (0, x1), (0, x2), (0, x3), (0, 0)] [] M (Kd P)) : CD m11_copyFacts 2 [(20, ((59 : Nat) : Int)), (0, x1), (0, x2), (0, x3)] M P := by
  refine CD_of (by decide +kernel) (Nat.le_of_ble_eq_true rfl) ?_
  show A m11_copyFacts 2 0 0 [(20, ((59 : Nat) : Int)), (0, x1), (0, x2), (0, x3), (2, 0)] [] M (Kd P)
  refine A_iconst (a := 0) (by decide +kernel) (by unfold in32; omega) ?_
  refine A_istore (i := 4) (by decide +kernel) (by decide) (fun w h0 hw => by simp at hw; first | (rw [← hw]; decide) | (rw [← hw]; simp)) ?_
  exact A_weak (lsub.keep (lsub.keep (lsub.keep (lsub.keep (lsub.keep lsub.nil))))) h
theorem r_11_copyFacts_3 {x1 : Int} {x2 : Int} {x3 : Int} {x4 : Int} {M : Mem} {P : Mem → Prop} (h : ((x3 ≤ x4 → (P M)) ∧ (x4 < x3 → ((0 ≤ (w32 (x2 + x4)) ∧ (w32 (x2 + x4)) < 72) ∧ ((0 ≤ (w32 (x2 + x4)) ∧ (w32 (x2 + x4)) < 72) ∧ ((0 ≤ (w32 (x2 + x4)) ∧ (w32 (x2 + x4)) < 72) ∧ ((0 ≤ (w32 (x2 + x4)) ∧ (w32 (x2 + x4)) < 72) ∧ (CD m11_lays 1 [(20, ((59 : Nat) : Int)), (0, (w32 (x1 + x4))), (0, (M 69 ((w32 (x2 + x4))).toNat)), (0, (M 70 ((w32 (x2 + x4))).toNat)), (0, (M 71 ((w32 (x2 + x4))).toNat)), (0, (M 72 ((w32 (x2 + x4))).toNat))] M (fun M9 => ((0 ≤ (w32 (x2 + x4)) ∧ (w32 (x2 + x4)) < 72) ∧ ((0 ≤ (w32 (x1 + x4)) ∧ (w32 (x1 + x4)) < 72) ∧ ((((M9 73 ((w32 (x2 + x4))).toNat) = 0 ∨ (M9 73 ((w32 (x2 + x4))).toNat) = 1)) ∧ A m11_copyFacts 2 0 3 [(20, ((59 : Nat) : Int)), (0, x1), (0, x2), (0, x3), (0, (w32 (x4 + 1)))] [] (mset M9 73 ((w32 (x1 + x4))).toNat (M9 73 ((w32 (x2 + x4))).toNat)) (Kd P))))))))))))) : A m11_copyFacts 2 0 3 [(20, ((59 : Nat) : Int)), (0, x1), (0, x2), (0, x3), (0, x4)] [] M (Kd P) := by
  refine A_iload (i := 4) (by decide +kernel) rfl ?_
  refine A_iload_n (i := 3) (f := 3) rfl (by decide +kernel) rfl ?_
  refine A_ic_ge (off := 71) (tgt := 77) (by decide +kernel) (by omega) (fun b1 => ?_) (fun b1 => ?_)
  · have h2 := h.1 b1
    exact A_ret ⟨by decide +kernel, rfl⟩ ⟨rfl, h2⟩
  · have h3 := h.2 (Int.not_le.mp b1)
    refine A_aload_n (i := 0) (f := 0) (by omega) rfl (by decide +kernel) rfl ?_
    refine A_iload_n (i := 1) (f := 1) rfl (by decide +kernel) rfl ?_
    refine A_iload (i := 4) (by decide +kernel) rfl ?_
    refine A_iadd (by decide +kernel) ?_
    refine A_aload_n (i := 0) (f := 0) (by omega) rfl (by decide +kernel) rfl ?_
    refine B_getr (o' := ((69 : Nat) : Int)) (q := (RX11, TX11, 59)) (ci := 10) (j := 11) (by decide +kernel) rfl (by decide) rfl (by omega) fl_11_37 rfl ?_
    refine A_iload_n (i := 2) (f := 2) rfl (by decide +kernel) rfl ?_
    refine A_iload (i := 4) (by decide +kernel) rfl ?_
    refine A_iadd (by decide +kernel) ?_
    refine B_iald (v := (M 69 ((w32 (x2 + x4))).toNat)) (by decide +kernel) h3.1 rfl ?_
    have h4 := h3.2
    refine A_aload_n (i := 0) (f := 0) (by omega) rfl (by decide +kernel) rfl ?_
    refine B_getr (o' := ((70 : Nat) : Int)) (q := (RX11, TX11, 59)) (ci := 10) (j := 12) (by decide +kernel) rfl (by decide) rfl (by omega) fl_11_40 rfl ?_
    refine A_iload_n (i := 2) (f := 2) rfl (by decide +kernel) rfl ?_
    refine A_iload (i := 4) (by decide +kernel) rfl ?_
    refine A_iadd (by decide +kernel) ?_
    refine B_iald (v := (M 70 ((w32 (x2 + x4))).toNat)) (by decide +kernel) h4.1 rfl ?_
    have h5 := h4.2
    refine A_aload_n (i := 0) (f := 0) (by omega) rfl (by decide +kernel) rfl ?_
    refine B_getr (o' := ((71 : Nat) : Int)) (q := (RX11, TX11, 59)) (ci := 10) (j := 13) (by decide +kernel) rfl (by decide) rfl (by omega) fl_11_43 rfl ?_
    refine A_iload_n (i := 2) (f := 2) rfl (by decide +kernel) rfl ?_
    refine A_iload (i := 4) (by decide +kernel) rfl ?_
    refine A_iadd (by decide +kernel) ?_
    refine B_iald (v := (M 71 ((w32 (x2 + x4))).toNat)) (by decide +kernel) h5.1 rfl ?_
    have h6 := h5.2
    refine A_aload_n (i := 0) (f := 0) (by omega) rfl (by decide +kernel) rfl ?_
    refine B_getr (o' := ((72 : Nat) : Int)) (q := (RX11, TX11, 59)) (ci := 10) (j := 14) (by decide +kernel) rfl (by decide) rfl (by omega) fl_11_46 rfl ?_
    refine A_iload_n (i := 2) (f := 2) rfl (by decide +kernel) rfl ?_
    refine A_iload (i := 4) (by decide +kernel) rfl ?_
    refine A_iadd (by decide +kernel) ?_
    refine B_iald (v := (M 72 ((w32 (x2 + x4))).toNat)) (by decide +kernel) h6.1 rfl ?_
    have h7 := h6.2
    refine A_cVd (q := (RX11, TX11, 59)) (ci := 10) (o := ((59 : Nat) : Int)) (args := [(0, (w32 (x1 + x4))), (0, (M 69 ((w32 (x2 + x4))).toNat)), (0, (M 70 ((w32 (x2 + x4))).toNat)), (0, (M 71 ((w32 (x2 + x4))).toNat)), (0, (M 72 ((w32 (x2 + x4))).toNat))]) (st := []) (by decide +kernel) cv_m11_lays rfl rfl in_m11_lays se_m11_lays lk_11_234 rfl (by omega) (Nat.le_of_ble_eq_true rfl) h7 (fun M9 h10 => ?_)
    refine A_aload_n (i := 0) (f := 0) (by omega) rfl (by decide +kernel) rfl ?_
    refine B_getr (o' := ((73 : Nat) : Int)) (q := (RX11, TX11, 59)) (ci := 10) (j := 15) (by decide +kernel) rfl (by decide) rfl (by omega) fl_11_49 rfl ?_
    refine A_iload_n (i := 1) (f := 1) rfl (by decide +kernel) rfl ?_
    refine A_iload (i := 4) (by decide +kernel) rfl ?_
    refine A_iadd (by decide +kernel) ?_
    refine A_aload_n (i := 0) (f := 0) (by omega) rfl (by decide +kernel) rfl ?_
    refine B_getr (o' := ((73 : Nat) : Int)) (q := (RX11, TX11, 59)) (ci := 10) (j := 15) (by decide +kernel) rfl (by decide) rfl (by omega) fl_11_49 rfl ?_
    refine A_iload_n (i := 2) (f := 2) rfl (by decide +kernel) rfl ?_
    refine A_iload (i := 4) (by decide +kernel) rfl ?_
    refine A_iadd (by decide +kernel) ?_
    refine B_zald (v := (M9 73 ((w32 (x2 + x4))).toNat)) (by decide +kernel) h10.1 rfl ?_
    have h11 := h10.2
    refine B_zast (M' := (mset M9 73 ((w32 (x1 + x4))).toNat (M9 73 ((w32 (x2 + x4))).toNat))) (by decide +kernel) h11.1 h11.2.1 rfl ?_
    have h12 := h11.2.2
    refine A_iinc (i := 4) (n := 1) (by decide +kernel) (by decide) rfl (fun w h0 hw => by simp at hw; first | (rw [← hw]; decide) | (rw [← hw]; simp)) ?_
    refine A_goto (off := (-71)) (tgt := 3) (by decide +kernel) (by omega) ?_
    exact A_weak (lsub.keep (lsub.keep (lsub.keep (lsub.keep (lsub.keep lsub.nil))))) h12
theorem q_11_fault {x1 : Int} {M : Mem} {P : Int → Mem → Prop} (h : ((x1 ≠ 0 → ((x1 ≠ 1 → (P (-1) (mset M 59 0 0))) ∧ (x1 = 1 → (P ((mset M 59 0 0) 59 26) (mset M 59 0 0))))) ∧ (x1 = 0 → (P ((mset M 59 0 0) 59 25) (mset M 59 0 0))))) : CI m11_fault 1 [(20, ((59 : Nat) : Int)), (0, x1)] M P := by
  refine CI_of (by decide +kernel) (Nat.le_of_ble_eq_true rfl) ?_
  show A m11_fault 1 0 0 [(20, ((59 : Nat) : Int)), (0, x1)] [] M (Ki P)
  refine A_aload_n (i := 0) (f := 0) (by omega) rfl (by decide +kernel) rfl ?_
  refine A_iconst (a := 0) (by decide +kernel) (by unfold in32; omega) ?_
  refine B_putp (M' := (mset M 59 0 0)) (q := (RX11, TX11, 59)) (ci := 10) (j := 0) (p := 0) (by decide +kernel) rfl (by decide) rfl (Or.inl ⟨rfl, rfl⟩) rfl fl_11_118 rfl ?_
  refine A_iload_n (i := 1) (f := 1) rfl (by decide +kernel) rfl ?_
  refine A_if_ne (off := 10) (tgt := 16) (by decide +kernel) (by omega) (fun b1 => ?_) (fun b1 => ?_)
  · have h2 := h.1 b1
    refine A_iload_n (i := 1) (f := 1) rfl (by decide +kernel) rfl ?_
    refine A_iconst (a := 1) (by decide +kernel) (by unfold in32; omega) ?_
    refine A_ic_ne (off := 10) (tgt := 28) (by decide +kernel) (by omega) (fun b4 => ?_) (fun b4 => ?_)
    · have h5 := h2.1 b4
      refine A_iconst (a := (-1)) (by decide +kernel) (by unfold in32; omega) ?_
      exact A_ret ⟨by decide +kernel, Or.inl rfl⟩ ⟨_, rfl, h5⟩
    · have h6 := h2.2 (Decidable.not_not.mp b4)
      refine A_aload_n (i := 0) (f := 0) (by omega) rfl (by decide +kernel) rfl ?_
      refine B_getp (v := ((mset M 59 0 0) 59 26)) (q := (RX11, TX11, 59)) (ci := 10) (j := 26) (p := 26) (by decide +kernel) rfl (by decide) rfl (Or.inl rfl) fl_11_53 rfl ?_
      refine A_goto (off := 4) (tgt := 29) (by decide +kernel) (by omega) ?_
      exact A_ret ⟨by decide +kernel, Or.inl rfl⟩ ⟨_, rfl, h6⟩
  · have h3 := h.2 (Decidable.not_not.mp b1)
    refine A_aload_n (i := 0) (f := 0) (by omega) rfl (by decide +kernel) rfl ?_
    refine B_getp (v := ((mset M 59 0 0) 59 25)) (q := (RX11, TX11, 59)) (ci := 10) (j := 25) (p := 25) (by decide +kernel) rfl (by decide) rfl (Or.inl rfl) fl_11_282 rfl ?_
    refine A_goto (off := 16) (tgt := 29) (by decide +kernel) (by omega) ?_
    exact A_ret ⟨by decide +kernel, Or.inl rfl⟩ ⟨_, rfl, h3⟩
theorem q_11_named {x1 : Int} {x2 : Int} {M : Mem} {P : Int → Mem → Prop} (h : ((x1 ≠ 0 → ((x1 ≠ 1 → (P (-1) (mset M 59 0 0))) ∧ (x1 = 1 → (CI m11_found 1 [(30, ((64 : Nat) : Int)), (0, 0), (0, ((mset M 59 0 0) 61 2)), (0, x2)] (mset M 59 0 0) (fun r7 M8 => (P r7 M8)))))) ∧ (x1 = 0 → (CI m11_found 1 [(30, ((62 : Nat) : Int)), (0, 0), (0, ((mset M 59 0 0) 61 0)), (0, x2)] (mset M 59 0 0) (fun r10 M11 => (P r10 M11)))))) : CI m11_named 2 [(20, ((59 : Nat) : Int)), (0, x1), (0, x2)] M P := by
  refine CI_of (by decide +kernel) (Nat.le_of_ble_eq_true rfl) ?_
  show A m11_named 2 0 0 [(20, ((59 : Nat) : Int)), (0, x1), (0, x2)] [] M (Ki P)
  refine A_aload_n (i := 0) (f := 0) (by omega) rfl (by decide +kernel) rfl ?_
  refine A_iconst (a := 0) (by decide +kernel) (by unfold in32; omega) ?_
  refine B_putp (M' := (mset M 59 0 0)) (q := (RX11, TX11, 59)) (ci := 10) (j := 0) (p := 0) (by decide +kernel) rfl (by decide) rfl (Or.inl ⟨rfl, rfl⟩) rfl fl_11_118 rfl ?_
  refine A_iload_n (i := 1) (f := 1) rfl (by decide +kernel) rfl ?_
  refine A_if_ne (off := 21) (tgt := 27) (by decide +kernel) (by omega) (fun b1 => ?_) (fun b1 => ?_)
  · have h2 := h.1 b1
    refine A_iload_n (i := 1) (f := 1) rfl (by decide +kernel) rfl ?_
    refine A_iconst (a := 1) (by decide +kernel) (by unfold in32; omega) ?_
    refine A_ic_ne (off := 21) (tgt := 50) (by decide +kernel) (by omega) (fun b4 => ?_) (fun b4 => ?_)
    · have h5 := h2.1 b4
      refine A_iconst (a := (-1)) (by decide +kernel) (by unfold in32; omega) ?_
      exact A_ret ⟨by decide +kernel, Or.inl rfl⟩ ⟨_, rfl, h5⟩
    · have h6 := h2.2 (Decidable.not_not.mp b4)
      refine A_aload_n (i := 0) (f := 0) (by omega) rfl (by decide +kernel) rfl ?_
      refine B_getr (o' := ((64 : Nat) : Int)) (q := (RX11, TX11, 59)) (ci := 10) (j := 6) (by decide +kernel) rfl (by decide) rfl (by omega) fl_11_22 rfl ?_
      refine A_iconst (a := 0) (by decide +kernel) (by unfold in32; omega) ?_
      refine A_aload_n (i := 0) (f := 0) (by omega) rfl (by decide +kernel) rfl ?_
      refine B_getr (o' := ((61 : Nat) : Int)) (q := (RX11, TX11, 59)) (ci := 10) (j := 3) (by decide +kernel) rfl (by decide) rfl (by omega) fl_11_13 rfl ?_
      refine A_iconst (a := 2) (by decide +kernel) (by unfold in32; omega) ?_
      refine B_iald (v := ((mset M 59 0 0) 61 2)) (by decide +kernel) (by decide) rfl ?_
      refine A_iload_n (i := 2) (f := 2) rfl (by decide +kernel) rfl ?_
      refine A_cSi (args := [(30, ((64 : Nat) : Int)), (0, 0), (0, ((mset M 59 0 0) 61 2)), (0, x2)]) (st := []) (by decide +kernel) cv_m11_found st_m11_found lk_11_187 rfl (by omega) (Nat.le_of_ble_eq_true rfl) h6 (fun r7 M8 _ h9 => ?_)
      refine A_goto (off := 4) (tgt := 51) (by decide +kernel) (by omega) ?_
      exact A_ret ⟨by decide +kernel, Or.inl rfl⟩ ⟨_, rfl, h9⟩
  · have h3 := h.2 (Decidable.not_not.mp b1)
    refine A_aload_n (i := 0) (f := 0) (by omega) rfl (by decide +kernel) rfl ?_
    refine B_getr (o' := ((62 : Nat) : Int)) (q := (RX11, TX11, 59)) (ci := 10) (j := 4) (by decide +kernel) rfl (by decide) rfl (by omega) fl_11_16 rfl ?_
    refine A_iconst (a := 0) (by decide +kernel) (by unfold in32; omega) ?_
    refine A_aload_n (i := 0) (f := 0) (by omega) rfl (by decide +kernel) rfl ?_
    refine B_getr (o' := ((61 : Nat) : Int)) (q := (RX11, TX11, 59)) (ci := 10) (j := 3) (by decide +kernel) rfl (by decide) rfl (by omega) fl_11_13 rfl ?_
    refine A_iconst (a := 0) (by decide +kernel) (by unfold in32; omega) ?_
    refine B_iald (v := ((mset M 59 0 0) 61 0)) (by decide +kernel) (by decide) rfl ?_
    refine A_iload_n (i := 2) (f := 2) rfl (by decide +kernel) rfl ?_
    refine A_cSi (args := [(30, ((62 : Nat) : Int)), (0, 0), (0, ((mset M 59 0 0) 61 0)), (0, x2)]) (st := []) (by decide +kernel) cv_m11_found st_m11_found lk_11_187 rfl (by omega) (Nat.le_of_ble_eq_true rfl) h3 (fun r10 M11 _ h12 => ?_)
    refine A_goto (off := 27) (tgt := 51) (by decide +kernel) (by omega) ?_
    exact A_ret ⟨by decide +kernel, Or.inl rfl⟩ ⟨_, rfl, h12⟩
theorem q_11_isPerson {x1 : Int} {M : Mem} {P : Int → Mem → Prop} (h : ((x1 < 0 → (P 0 M)) ∧ (0 ≤ x1 → (((M 61 0) ≤ x1 → (P 0 M)) ∧ (x1 < (M 61 0) → (P 1 M)))))) : CI m11_isPerson 1 [(20, ((59 : Nat) : Int)), (0, x1)] M P := by
  refine CI_of (by decide +kernel) (Nat.le_of_ble_eq_true rfl) ?_
  show A m11_isPerson 1 0 0 [(20, ((59 : Nat) : Int)), (0, x1)] [] M (Ki P)
  refine A_iload_n (i := 1) (f := 1) rfl (by decide +kernel) rfl ?_
  refine A_if_lt (off := 17) (tgt := 18) (by decide +kernel) (by omega) (fun b1 => ?_) (fun b1 => ?_)
  · have h2 := h.1 b1
    refine A_iconst (a := 0) (by decide +kernel) (by unfold in32; omega) ?_
    exact A_ret ⟨by decide +kernel, Or.inr ⟨rfl, by decide⟩⟩ ⟨_, rfl, h2⟩
  · have h3 := h.2 (Int.not_lt.mp b1)
    refine A_iload_n (i := 1) (f := 1) rfl (by decide +kernel) rfl ?_
    refine A_aload_n (i := 0) (f := 0) (by omega) rfl (by decide +kernel) rfl ?_
    refine B_getr (o' := ((61 : Nat) : Int)) (q := (RX11, TX11, 59)) (ci := 10) (j := 3) (by decide +kernel) rfl (by decide) rfl (by omega) fl_11_13 rfl ?_
    refine A_iconst (a := 0) (by decide +kernel) (by unfold in32; omega) ?_
    refine B_iald (v := (M 61 0)) (by decide +kernel) (by decide) rfl ?_
    refine A_ic_ge (off := 7) (tgt := 18) (by decide +kernel) (by omega) (fun b4 => ?_) (fun b4 => ?_)
    · have h5 := h3.1 b4
      refine A_iconst (a := 0) (by decide +kernel) (by unfold in32; omega) ?_
      exact A_ret ⟨by decide +kernel, Or.inr ⟨rfl, by decide⟩⟩ ⟨_, rfl, h5⟩
    · have h6 := h3.2 (Int.not_le.mp b4)
      refine A_iconst (a := 1) (by decide +kernel) (by unfold in32; omega) ?_
      refine A_goto (off := 4) (tgt := 19) (by decide +kernel) (by omega) ?_
      exact A_ret ⟨by decide +kernel, Or.inr ⟨rfl, by decide⟩⟩ ⟨_, rfl, h6⟩
theorem q_11_layNow {x1 : Int} {M : Mem} {P : Mem → Prop} (h : (CD m11_layOrder 2 [(20, ((59 : Nat) : Int)), (0, 0), (0, (M 59 31)), (0, (M 61 0)), (0, x1)] M (fun M2 => (P M2)))) : CD m11_layNow 3 [(20, ((59 : Nat) : Int)), (0, x1)] M P := by
  refine CD_of (by decide +kernel) (Nat.le_of_ble_eq_true rfl) ?_
  show A m11_layNow 3 0 0 [(20, ((59 : Nat) : Int)), (0, x1)] [] M (Kd P)
  refine A_aload_n (i := 0) (f := 0) (by omega) rfl (by decide +kernel) rfl ?_
  refine A_iconst (a := 0) (by decide +kernel) (by unfold in32; omega) ?_
  refine A_aload_n (i := 0) (f := 0) (by omega) rfl (by decide +kernel) rfl ?_
  refine B_getp (v := (M 59 31)) (q := (RX11, TX11, 59)) (ci := 10) (j := 31) (p := 31) (by decide +kernel) rfl (by decide) rfl (Or.inl rfl) fl_11_289 rfl ?_
  refine A_aload_n (i := 0) (f := 0) (by omega) rfl (by decide +kernel) rfl ?_
  refine B_getr (o' := ((61 : Nat) : Int)) (q := (RX11, TX11, 59)) (ci := 10) (j := 3) (by decide +kernel) rfl (by decide) rfl (by omega) fl_11_13 rfl ?_
  refine A_iconst (a := 0) (by decide +kernel) (by unfold in32; omega) ?_
  refine B_iald (v := (M 61 0)) (by decide +kernel) (by decide) rfl ?_
  refine A_iload_n (i := 1) (f := 1) rfl (by decide +kernel) rfl ?_
  refine A_cVd (q := (RX11, TX11, 59)) (ci := 10) (o := ((59 : Nat) : Int)) (args := [(0, 0), (0, (M 59 31)), (0, (M 61 0)), (0, x1)]) (st := []) (by decide +kernel) cv_m11_layOrder rfl rfl in_m11_layOrder se_m11_layOrder lk_11_249 rfl (by omega) (Nat.le_of_ble_eq_true rfl) h (fun M2 h3 => ?_)
  exact A_ret ⟨by decide +kernel, rfl⟩ ⟨rfl, h3⟩
theorem q_11_look {x1 : Int} {x2 : Int} {M : Mem} {P : Int → Mem → Prop} (h : (CI m11_isPerson 1 [(20, ((59 : Nat) : Int)), (0, x1)] M (fun r1 M2 => ((r1 ≠ 0 → ((x2 < 0 → ((((mset M2 59 0 2) 59 0) = 0 → ((x2 ≠ 0 → (CD m11_layNow 3 [(20, ((59 : Nat) : Int)), (0, ((mset M2 59 0 2) 59 32))] (mset M2 59 0 2) (fun M17 => A m11_look 4 0 63 [(20, ((59 : Nat) : Int)), (0, x1), (0, x2), (0, 0), (0, 0), (2, 0)] [] M17 (Ki P)))) ∧ (x2 = 0 → ((0 ≤ x1 ∧ x1 < 10) ∧ (P ((mset M2 59 0 2) 63 (x1).toNat) (mset M2 59 0 2)))))) ∧ (((mset M2 59 0 2) 59 0) ≠ 0 → (P 0 (mset M2 59 0 2))))) ∧ (0 ≤ x2 → ((x2 ≤ 3 → ((((mset M2 59 0 0) 59 0) = 0 → ((x2 ≠ 0 → (CD m11_layNow 3 [(20, ((59 : Nat) : Int)), (0, ((mset M2 59 0 0) 59 32))] (mset M2 59 0 0) (fun M30 => A m11_look 4 0 63 [(20, ((59 : Nat) : Int)), (0, x1), (0, x2), (0, 0), (0, 0), (2, 0)] [] M30 (Ki P)))) ∧ (x2 = 0 → ((0 ≤ x1 ∧ x1 < 10) ∧ (P ((mset M2 59 0 0) 63 (x1).toNat) (mset M2 59 0 0)))))) ∧ (((mset M2 59 0 0) 59 0) ≠ 0 → (P 0 (mset M2 59 0 0))))) ∧ (3 < x2 → ((((mset M2 59 0 2) 59 0) = 0 → ((x2 ≠ 0 → (CD m11_layNow 3 [(20, ((59 : Nat) : Int)), (0, ((mset M2 59 0 2) 59 32))] (mset M2 59 0 2) (fun M40 => A m11_look 4 0 63 [(20, ((59 : Nat) : Int)), (0, x1), (0, x2), (0, 0), (0, 0), (2, 0)] [] M40 (Ki P)))) ∧ (x2 = 0 → ((0 ≤ x1 ∧ x1 < 10) ∧ (P ((mset M2 59 0 2) 63 (x1).toNat) (mset M2 59 0 2)))))) ∧ (((mset M2 59 0 2) 59 0) ≠ 0 → (P 0 (mset M2 59 0 2))))))))) ∧ (r1 = 0 → ((((mset M2 59 0 1) 59 0) = 0 → ((x2 ≠ 0 → (CD m11_layNow 3 [(20, ((59 : Nat) : Int)), (0, ((mset M2 59 0 1) 59 32))] (mset M2 59 0 1) (fun M50 => A m11_look 4 0 63 [(20, ((59 : Nat) : Int)), (0, x1), (0, x2), (0, 0), (0, 0), (2, 0)] [] M50 (Ki P)))) ∧ (x2 = 0 → ((0 ≤ x1 ∧ x1 < 10) ∧ (P ((mset M2 59 0 1) 63 (x1).toNat) (mset M2 59 0 1)))))) ∧ (((mset M2 59 0 1) 59 0) ≠ 0 → (P 0 (mset M2 59 0 1))))))))) : CI m11_look 4 [(20, ((59 : Nat) : Int)), (0, x1), (0, x2)] M P := by
  refine CI_of (by decide +kernel) (Nat.le_of_ble_eq_true rfl) ?_
  show A m11_look 4 0 0 [(20, ((59 : Nat) : Int)), (0, x1), (0, x2), (2, 0), (2, 0), (2, 0)] [] M (Ki P)
  refine A_aload_n (i := 0) (f := 0) (by omega) rfl (by decide +kernel) rfl ?_
  refine A_aload_n (i := 0) (f := 0) (by omega) rfl (by decide +kernel) rfl ?_
  refine A_iload_n (i := 1) (f := 1) rfl (by decide +kernel) rfl ?_
  refine A_cVi (q := (RX11, TX11, 59)) (ci := 10) (o := ((59 : Nat) : Int)) (args := [(0, x1)]) (st := [(20, ((59 : Nat) : Int))]) (by decide +kernel) cv_m11_isPerson rfl rfl in_m11_isPerson se_m11_isPerson lk_11_306 rfl (by omega) (Nat.le_of_ble_eq_true rfl) h (fun r1 M2 _ h3 => ?_)
  refine A_if_ne (off := 7) (tgt := 13) (by decide +kernel) (by omega) (fun b4 => ?_) (fun b4 => ?_)
  · have h5 := h3.1 b4
    refine A_iload_n (i := 2) (f := 2) rfl (by decide +kernel) rfl ?_
    refine A_if_lt (off := 8) (tgt := 22) (by decide +kernel) (by omega) (fun b7 => ?_) (fun b7 => ?_)
    · have h8 := h5.1 b7
      refine A_iconst (a := 2) (by decide +kernel) (by unfold in32; omega) ?_
      refine A_goto (off := 4) (tgt := 27) (by decide +kernel) (by omega) ?_
      refine B_putp (M' := (mset M2 59 0 2)) (q := (RX11, TX11, 59)) (ci := 10) (j := 0) (p := 0) (by decide +kernel) rfl (by decide) rfl (Or.inl ⟨rfl, rfl⟩) rfl fl_11_118 rfl ?_
      refine A_aload_n (i := 0) (f := 0) (by omega) rfl (by decide +kernel) rfl ?_
      refine B_getp (v := ((mset M2 59 0 2) 59 0)) (q := (RX11, TX11, 59)) (ci := 10) (j := 0) (p := 0) (by decide +kernel) rfl (by decide) rfl (Or.inl rfl) fl_11_118 rfl ?_
      refine A_if_eq (off := 5) (tgt := 39) (by decide +kernel) (by omega) (fun b10 => ?_) (fun b10 => ?_)
      · have h11 := h8.1 b10
        refine A_iload_n (i := 2) (f := 2) rfl (by decide +kernel) rfl ?_
        refine A_if_ne (off := 10) (tgt := 50) (by decide +kernel) (by omega) (fun b13 => ?_) (fun b13 => ?_)
        · have h14 := h11.1 b13
          refine A_aload_n (i := 0) (f := 0) (by omega) rfl (by decide +kernel) rfl ?_
          refine A_aload_n (i := 0) (f := 0) (by omega) rfl (by decide +kernel) rfl ?_
          refine B_getp (v := ((mset M2 59 0 2) 59 32)) (q := (RX11, TX11, 59)) (ci := 10) (j := 32) (p := 32) (by decide +kernel) rfl (by decide) rfl (Or.inl rfl) fl_11_296 rfl ?_
          refine A_cVd (q := (RX11, TX11, 59)) (ci := 10) (o := ((59 : Nat) : Int)) (args := [(0, ((mset M2 59 0 2) 59 32))]) (st := []) (by decide +kernel) cv_m11_layNow rfl rfl in_m11_layNow se_m11_layNow lk_11_309 rfl (by omega) (Nat.le_of_ble_eq_true rfl) h14 (fun M17 h18 => ?_)
          refine A_iconst (a := 0) (by decide +kernel) (by unfold in32; omega) ?_
          refine A_istore_n (i := 3) (f := 3) rfl (by decide +kernel) (by decide) (fun w h0 hw => by simp at hw; first | (rw [← hw]; decide) | (rw [← hw]; simp)) ?_
          refine A_iconst (a := 0) (by decide +kernel) (by unfold in32; omega) ?_
          refine A_istore (i := 4) (by decide +kernel) (by decide) (fun w h0 hw => by simp at hw; first | (rw [← hw]; decide) | (rw [← hw]; simp)) ?_
          exact A_weak (lsub.keep (lsub.keep (lsub.keep (lsub.keep (lsub.keep (lsub.drop lsub.nil)))))) h18
        · have h15 := h11.2 (Decidable.not_not.mp b13)
          refine A_aload_n (i := 0) (f := 0) (by omega) rfl (by decide +kernel) rfl ?_
          refine B_getr (o' := ((63 : Nat) : Int)) (q := (RX11, TX11, 59)) (ci := 10) (j := 5) (by decide +kernel) rfl (by decide) rfl (by omega) fl_11_19 rfl ?_
          refine A_iload_n (i := 1) (f := 1) rfl (by decide +kernel) rfl ?_
          refine B_iald (v := ((mset M2 59 0 2) 63 (x1).toNat)) (by decide +kernel) h15.1 rfl ?_
          have h19 := h15.2
          exact A_ret ⟨by decide +kernel, Or.inl rfl⟩ ⟨_, rfl, h19⟩
      · have h12 := h8.2 b10
        refine A_iconst (a := 0) (by decide +kernel) (by unfold in32; omega) ?_
        exact A_ret ⟨by decide +kernel, Or.inl rfl⟩ ⟨_, rfl, h12⟩
    · have h9 := h5.2 (Int.not_lt.mp b7)
      refine A_iload_n (i := 2) (f := 2) rfl (by decide +kernel) rfl ?_
      refine A_iconst (a := 3) (by decide +kernel) (by unfold in32; omega) ?_
      refine A_ic_le (off := 7) (tgt := 26) (by decide +kernel) (by omega) (fun b20 => ?_) (fun b20 => ?_)
      · have h21 := h9.1 b20
        refine A_iconst (a := 0) (by decide +kernel) (by unfold in32; omega) ?_
        refine B_putp (M' := (mset M2 59 0 0)) (q := (RX11, TX11, 59)) (ci := 10) (j := 0) (p := 0) (by decide +kernel) rfl (by decide) rfl (Or.inl ⟨rfl, rfl⟩) rfl fl_11_118 rfl ?_
        refine A_aload_n (i := 0) (f := 0) (by omega) rfl (by decide +kernel) rfl ?_
        refine B_getp (v := ((mset M2 59 0 0) 59 0)) (q := (RX11, TX11, 59)) (ci := 10) (j := 0) (p := 0) (by decide +kernel) rfl (by decide) rfl (Or.inl rfl) fl_11_118 rfl ?_
        refine A_if_eq (off := 5) (tgt := 39) (by decide +kernel) (by omega) (fun b23 => ?_) (fun b23 => ?_)
        · have h24 := h21.1 b23
          refine A_iload_n (i := 2) (f := 2) rfl (by decide +kernel) rfl ?_
          refine A_if_ne (off := 10) (tgt := 50) (by decide +kernel) (by omega) (fun b26 => ?_) (fun b26 => ?_)
          · have h27 := h24.1 b26
            refine A_aload_n (i := 0) (f := 0) (by omega) rfl (by decide +kernel) rfl ?_
            refine A_aload_n (i := 0) (f := 0) (by omega) rfl (by decide +kernel) rfl ?_
            refine B_getp (v := ((mset M2 59 0 0) 59 32)) (q := (RX11, TX11, 59)) (ci := 10) (j := 32) (p := 32) (by decide +kernel) rfl (by decide) rfl (Or.inl rfl) fl_11_296 rfl ?_
            refine A_cVd (q := (RX11, TX11, 59)) (ci := 10) (o := ((59 : Nat) : Int)) (args := [(0, ((mset M2 59 0 0) 59 32))]) (st := []) (by decide +kernel) cv_m11_layNow rfl rfl in_m11_layNow se_m11_layNow lk_11_309 rfl (by omega) (Nat.le_of_ble_eq_true rfl) h27 (fun M30 h31 => ?_)
            refine A_iconst (a := 0) (by decide +kernel) (by unfold in32; omega) ?_
            refine A_istore_n (i := 3) (f := 3) rfl (by decide +kernel) (by decide) (fun w h0 hw => by simp at hw; first | (rw [← hw]; decide) | (rw [← hw]; simp)) ?_
            refine A_iconst (a := 0) (by decide +kernel) (by unfold in32; omega) ?_
            refine A_istore (i := 4) (by decide +kernel) (by decide) (fun w h0 hw => by simp at hw; first | (rw [← hw]; decide) | (rw [← hw]; simp)) ?_
            exact A_weak (lsub.keep (lsub.keep (lsub.keep (lsub.keep (lsub.keep (lsub.drop lsub.nil)))))) h31
          · have h28 := h24.2 (Decidable.not_not.mp b26)
            refine A_aload_n (i := 0) (f := 0) (by omega) rfl (by decide +kernel) rfl ?_
            refine B_getr (o' := ((63 : Nat) : Int)) (q := (RX11, TX11, 59)) (ci := 10) (j := 5) (by decide +kernel) rfl (by decide) rfl (by omega) fl_11_19 rfl ?_
            refine A_iload_n (i := 1) (f := 1) rfl (by decide +kernel) rfl ?_
            refine B_iald (v := ((mset M2 59 0 0) 63 (x1).toNat)) (by decide +kernel) h28.1 rfl ?_
            have h32 := h28.2
            exact A_ret ⟨by decide +kernel, Or.inl rfl⟩ ⟨_, rfl, h32⟩
        · have h25 := h21.2 b23
          refine A_iconst (a := 0) (by decide +kernel) (by unfold in32; omega) ?_
          exact A_ret ⟨by decide +kernel, Or.inl rfl⟩ ⟨_, rfl, h25⟩
      · have h22 := h9.2 (Int.not_le.mp b20)
        refine A_iconst (a := 2) (by decide +kernel) (by unfold in32; omega) ?_
        refine A_goto (off := 4) (tgt := 27) (by decide +kernel) (by omega) ?_
        refine B_putp (M' := (mset M2 59 0 2)) (q := (RX11, TX11, 59)) (ci := 10) (j := 0) (p := 0) (by decide +kernel) rfl (by decide) rfl (Or.inl ⟨rfl, rfl⟩) rfl fl_11_118 rfl ?_
        refine A_aload_n (i := 0) (f := 0) (by omega) rfl (by decide +kernel) rfl ?_
        refine B_getp (v := ((mset M2 59 0 2) 59 0)) (q := (RX11, TX11, 59)) (ci := 10) (j := 0) (p := 0) (by decide +kernel) rfl (by decide) rfl (Or.inl rfl) fl_11_118 rfl ?_
        refine A_if_eq (off := 5) (tgt := 39) (by decide +kernel) (by omega) (fun b33 => ?_) (fun b33 => ?_)
        · have h34 := h22.1 b33
          refine A_iload_n (i := 2) (f := 2) rfl (by decide +kernel) rfl ?_
          refine A_if_ne (off := 10) (tgt := 50) (by decide +kernel) (by omega) (fun b36 => ?_) (fun b36 => ?_)
          · have h37 := h34.1 b36
            refine A_aload_n (i := 0) (f := 0) (by omega) rfl (by decide +kernel) rfl ?_
            refine A_aload_n (i := 0) (f := 0) (by omega) rfl (by decide +kernel) rfl ?_
            refine B_getp (v := ((mset M2 59 0 2) 59 32)) (q := (RX11, TX11, 59)) (ci := 10) (j := 32) (p := 32) (by decide +kernel) rfl (by decide) rfl (Or.inl rfl) fl_11_296 rfl ?_
            refine A_cVd (q := (RX11, TX11, 59)) (ci := 10) (o := ((59 : Nat) : Int)) (args := [(0, ((mset M2 59 0 2) 59 32))]) (st := []) (by decide +kernel) cv_m11_layNow rfl rfl in_m11_layNow se_m11_layNow lk_11_309 rfl (by omega) (Nat.le_of_ble_eq_true rfl) h37 (fun M40 h41 => ?_)
            refine A_iconst (a := 0) (by decide +kernel) (by unfold in32; omega) ?_
            refine A_istore_n (i := 3) (f := 3) rfl (by decide +kernel) (by decide) (fun w h0 hw => by simp at hw; first | (rw [← hw]; decide) | (rw [← hw]; simp)) ?_
            refine A_iconst (a := 0) (by decide +kernel) (by unfold in32; omega) ?_
            refine A_istore (i := 4) (by decide +kernel) (by decide) (fun w h0 hw => by simp at hw; first | (rw [← hw]; decide) | (rw [← hw]; simp)) ?_
            exact A_weak (lsub.keep (lsub.keep (lsub.keep (lsub.keep (lsub.keep (lsub.drop lsub.nil)))))) h41
          · have h38 := h34.2 (Decidable.not_not.mp b36)
            refine A_aload_n (i := 0) (f := 0) (by omega) rfl (by decide +kernel) rfl ?_
            refine B_getr (o' := ((63 : Nat) : Int)) (q := (RX11, TX11, 59)) (ci := 10) (j := 5) (by decide +kernel) rfl (by decide) rfl (by omega) fl_11_19 rfl ?_
            refine A_iload_n (i := 1) (f := 1) rfl (by decide +kernel) rfl ?_
            refine B_iald (v := ((mset M2 59 0 2) 63 (x1).toNat)) (by decide +kernel) h38.1 rfl ?_
            have h42 := h38.2
            exact A_ret ⟨by decide +kernel, Or.inl rfl⟩ ⟨_, rfl, h42⟩
        · have h35 := h22.2 b33
          refine A_iconst (a := 0) (by decide +kernel) (by unfold in32; omega) ?_
          exact A_ret ⟨by decide +kernel, Or.inl rfl⟩ ⟨_, rfl, h35⟩
  · have h6 := h3.2 (Decidable.not_not.mp b4)
    refine A_iconst (a := 1) (by decide +kernel) (by unfold in32; omega) ?_
    refine A_goto (off := 17) (tgt := 27) (by decide +kernel) (by omega) ?_
    refine B_putp (M' := (mset M2 59 0 1)) (q := (RX11, TX11, 59)) (ci := 10) (j := 0) (p := 0) (by decide +kernel) rfl (by decide) rfl (Or.inl ⟨rfl, rfl⟩) rfl fl_11_118 rfl ?_
    refine A_aload_n (i := 0) (f := 0) (by omega) rfl (by decide +kernel) rfl ?_
    refine B_getp (v := ((mset M2 59 0 1) 59 0)) (q := (RX11, TX11, 59)) (ci := 10) (j := 0) (p := 0) (by decide +kernel) rfl (by decide) rfl (Or.inl rfl) fl_11_118 rfl ?_
    refine A_if_eq (off := 5) (tgt := 39) (by decide +kernel) (by omega) (fun b43 => ?_) (fun b43 => ?_)
    · have h44 := h6.1 b43
      refine A_iload_n (i := 2) (f := 2) rfl (by decide +kernel) rfl ?_
      refine A_if_ne (off := 10) (tgt := 50) (by decide +kernel) (by omega) (fun b46 => ?_) (fun b46 => ?_)
      · have h47 := h44.1 b46
        refine A_aload_n (i := 0) (f := 0) (by omega) rfl (by decide +kernel) rfl ?_
        refine A_aload_n (i := 0) (f := 0) (by omega) rfl (by decide +kernel) rfl ?_
        refine B_getp (v := ((mset M2 59 0 1) 59 32)) (q := (RX11, TX11, 59)) (ci := 10) (j := 32) (p := 32) (by decide +kernel) rfl (by decide) rfl (Or.inl rfl) fl_11_296 rfl ?_
        refine A_cVd (q := (RX11, TX11, 59)) (ci := 10) (o := ((59 : Nat) : Int)) (args := [(0, ((mset M2 59 0 1) 59 32))]) (st := []) (by decide +kernel) cv_m11_layNow rfl rfl in_m11_layNow se_m11_layNow lk_11_309 rfl (by omega) (Nat.le_of_ble_eq_true rfl) h47 (fun M50 h51 => ?_)
        refine A_iconst (a := 0) (by decide +kernel) (by unfold in32; omega) ?_
        refine A_istore_n (i := 3) (f := 3) rfl (by decide +kernel) (by decide) (fun w h0 hw => by simp at hw; first | (rw [← hw]; decide) | (rw [← hw]; simp)) ?_
        refine A_iconst (a := 0) (by decide +kernel) (by unfold in32; omega) ?_
        refine A_istore (i := 4) (by decide +kernel) (by decide) (fun w h0 hw => by simp at hw; first | (rw [← hw]; decide) | (rw [← hw]; simp)) ?_
        exact A_weak (lsub.keep (lsub.keep (lsub.keep (lsub.keep (lsub.keep (lsub.drop lsub.nil)))))) h51
      · have h48 := h44.2 (Decidable.not_not.mp b46)
        refine A_aload_n (i := 0) (f := 0) (by omega) rfl (by decide +kernel) rfl ?_
        refine B_getr (o' := ((63 : Nat) : Int)) (q := (RX11, TX11, 59)) (ci := 10) (j := 5) (by decide +kernel) rfl (by decide) rfl (by omega) fl_11_19 rfl ?_
        refine A_iload_n (i := 1) (f := 1) rfl (by decide +kernel) rfl ?_
        refine B_iald (v := ((mset M2 59 0 1) 63 (x1).toNat)) (by decide +kernel) h48.1 rfl ?_
        have h52 := h48.2
        exact A_ret ⟨by decide +kernel, Or.inl rfl⟩ ⟨_, rfl, h52⟩
    · have h45 := h6.2 b43
      refine A_iconst (a := 0) (by decide +kernel) (by unfold in32; omega) ?_
      exact A_ret ⟨by decide +kernel, Or.inl rfl⟩ ⟨_, rfl, h45⟩
theorem r_11_look_63 {x1 : Int} {x2 : Int} {x3 : Int} {x4 : Int} {M : Mem} {P : Int → Mem → Prop} (h : (((M 61 0) ≤ x4 → (P x3 M)) ∧ (x4 < (M 61 0) → ((x2 ≠ 1 → ((x2 ≠ 2 → ((x4 = x1 → A m11_look 4 0 63 [(20, ((59 : Nat) : Int)), (0, x1), (0, x2), (0, (w32 (x3 + 0))), (0, (w32 (x4 + 1))), (2, 0)] [] M (Ki P)) ∧ (x4 ≠ x1 → (CI m11_pair 1 [(0, x4), (0, x1)] M (fun r13 M14 => ((0 ≤ r13 ∧ r13 < 25) ∧ (((M14 75 (r13).toNat) = 0 → A m11_look 4 0 63 [(20, ((59 : Nat) : Int)), (0, x1), (0, x2), (0, (w32 (x3 + 0))), (0, (w32 (x4 + 1))), (2, 0)] [] M14 (Ki P)) ∧ ((M14 75 (r13).toNat) ≠ 0 → A m11_look 4 0 63 [(20, ((59 : Nat) : Int)), (0, x1), (0, x2), (0, (w32 (x3 + 1))), (0, (w32 (x4 + 1))), (2, 0)] [] M14 (Ki P))))))))) ∧ (x2 = 2 → (CI m11_pair 1 [(0, x1), (0, x4)] M (fun r20 M21 => ((0 ≤ r20 ∧ r20 < 25) ∧ (((M21 74 (r20).toNat) = 0 → A m11_look 4 0 63 [(20, ((59 : Nat) : Int)), (0, x1), (0, x2), (0, (w32 (x3 + 0))), (0, (w32 (x4 + 1))), (2, 0)] [] M21 (Ki P)) ∧ ((M21 74 (r20).toNat) ≠ 0 → A m11_look 4 0 63 [(20, ((59 : Nat) : Int)), (0, x1), (0, x2), (0, (w32 (x3 + 1))), (0, (w32 (x4 + 1))), (2, 0)] [] M21 (Ki P))))))))) ∧ (x2 = 1 → (CI m11_pair 1 [(0, x4), (0, x1)] M (fun r27 M28 => ((0 ≤ r27 ∧ r27 < 25) ∧ (((M28 74 (r27).toNat) = 0 → A m11_look 4 0 63 [(20, ((59 : Nat) : Int)), (0, x1), (0, x2), (0, (w32 (x3 + 0))), (0, (w32 (x4 + 1))), (2, 0)] [] M28 (Ki P)) ∧ ((M28 74 (r27).toNat) ≠ 0 → A m11_look 4 0 63 [(20, ((59 : Nat) : Int)), (0, x1), (0, x2), (0, (w32 (x3 + 1))), (0, (w32 (x4 + 1))), (2, 0)] [] M28 (Ki P))))))))))) : A m11_look 4 0 63 [(20, ((59 : Nat) : Int)), (0, x1), (0, x2), (0, x3), (0, x4), (2, 0)] [] M (Ki P) := by
  refine A_iload (i := 4) (by decide +kernel) rfl ?_
  refine A_aload_n (i := 0) (f := 0) (by omega) rfl (by decide +kernel) rfl ?_
  refine B_getr (o' := ((61 : Nat) : Int)) (q := (RX11, TX11, 59)) (ci := 10) (j := 3) (by decide +kernel) rfl (by decide) rfl (by omega) fl_11_13 rfl ?_
  refine A_iconst (a := 0) (by decide +kernel) (by unfold in32; omega) ?_
  refine B_iald (v := (M 61 0)) (by decide +kernel) (by decide) rfl ?_
  refine A_ic_ge (off := 87) (tgt := 158) (by decide +kernel) (by omega) (fun b1 => ?_) (fun b1 => ?_)
  · have h2 := h.1 b1
    refine A_iload_n (i := 3) (f := 3) rfl (by decide +kernel) rfl ?_
    exact A_ret ⟨by decide +kernel, Or.inl rfl⟩ ⟨_, rfl, h2⟩
  · have h3 := h.2 (Int.not_le.mp b1)
    refine A_iload_n (i := 2) (f := 2) rfl (by decide +kernel) rfl ?_
    refine A_iconst (a := 1) (by decide +kernel) (by unfold in32; omega) ?_
    refine A_ic_ne (off := 17) (tgt := 93) (by decide +kernel) (by omega) (fun b4 => ?_) (fun b4 => ?_)
    · have h5 := h3.1 b4
      refine A_iload_n (i := 2) (f := 2) rfl (by decide +kernel) rfl ?_
      refine A_iconst (a := 2) (by decide +kernel) (by unfold in32; omega) ?_
      refine A_ic_ne (off := 17) (tgt := 112) (by decide +kernel) (by omega) (fun b7 => ?_) (fun b7 => ?_)
      · have h8 := h5.1 b7
        refine A_iload (i := 4) (by decide +kernel) rfl ?_
        refine A_iload_n (i := 1) (f := 1) rfl (by decide +kernel) rfl ?_
        refine A_ic_eq (off := 21) (tgt := 136) (by decide +kernel) (by omega) (fun b10 => ?_) (fun b10 => ?_)
        · have h11 := h8.1 b10
          refine A_iconst (a := 0) (by decide +kernel) (by unfold in32; omega) ?_
          refine A_istore (i := 5) (by decide +kernel) (by decide) (fun w h0 hw => by simp at hw; first | (rw [← hw]; decide) | (rw [← hw]; simp)) ?_
          refine A_iload_n (i := 3) (f := 3) rfl (by decide +kernel) rfl ?_
          refine A_iload (i := 5) (by decide +kernel) rfl ?_
          refine A_if_eq (off := 7) (tgt := 149) (by decide +kernel) (by omega) (fun _ => ?_) (fun hb => absurd (by decide) hb)
          refine A_iconst (a := 0) (by decide +kernel) (by unfold in32; omega) ?_
          refine A_iadd (by decide +kernel) ?_
          refine A_istore_n (i := 3) (f := 3) rfl (by decide +kernel) (by decide) (fun w h0 hw => by simp at hw; first | (rw [← hw]; decide) | (rw [← hw]; simp)) ?_
          refine A_iinc (i := 4) (n := 1) (by decide +kernel) (by decide) rfl (fun w h0 hw => by simp at hw; first | (rw [← hw]; decide) | (rw [← hw]; simp)) ?_
          refine A_goto (off := (-92)) (tgt := 63) (by decide +kernel) (by omega) ?_
          exact A_weak (lsub.keep (lsub.keep (lsub.keep (lsub.keep (lsub.keep (lsub.drop lsub.nil)))))) h11
        · have h12 := h8.2 b10
          refine A_aload_n (i := 0) (f := 0) (by omega) rfl (by decide +kernel) rfl ?_
          refine B_getr (o' := ((75 : Nat) : Int)) (q := (RX11, TX11, 59)) (ci := 10) (j := 30) (by decide +kernel) rfl (by decide) rfl (by omega) fl_11_60 rfl ?_
          refine A_iload (i := 4) (by decide +kernel) rfl ?_
          refine A_iload_n (i := 1) (f := 1) rfl (by decide +kernel) rfl ?_
          refine A_cSi (args := [(0, x4), (0, x1)]) (st := [(31, ((75 : Nat) : Int))]) (by decide +kernel) cv_m11_pair st_m11_pair lk_11_242 rfl (by omega) (Nat.le_of_ble_eq_true rfl) h12 (fun r13 M14 _ h15 => ?_)
          refine B_zald (v := (M14 75 (r13).toNat)) (by decide +kernel) h15.1 rfl ?_
          have h16 := h15.2
          refine A_if_eq (off := 7) (tgt := 136) (by decide +kernel) (by omega) (fun b17 => ?_) (fun b17 => ?_)
          · have h18 := h16.1 b17
            refine A_iconst (a := 0) (by decide +kernel) (by unfold in32; omega) ?_
            refine A_istore (i := 5) (by decide +kernel) (by decide) (fun w h0 hw => by simp at hw; first | (rw [← hw]; decide) | (rw [← hw]; simp)) ?_
            refine A_iload_n (i := 3) (f := 3) rfl (by decide +kernel) rfl ?_
            refine A_iload (i := 5) (by decide +kernel) rfl ?_
            refine A_if_eq (off := 7) (tgt := 149) (by decide +kernel) (by omega) (fun _ => ?_) (fun hb => absurd (by decide) hb)
            refine A_iconst (a := 0) (by decide +kernel) (by unfold in32; omega) ?_
            refine A_iadd (by decide +kernel) ?_
            refine A_istore_n (i := 3) (f := 3) rfl (by decide +kernel) (by decide) (fun w h0 hw => by simp at hw; first | (rw [← hw]; decide) | (rw [← hw]; simp)) ?_
            refine A_iinc (i := 4) (n := 1) (by decide +kernel) (by decide) rfl (fun w h0 hw => by simp at hw; first | (rw [← hw]; decide) | (rw [← hw]; simp)) ?_
            refine A_goto (off := (-92)) (tgt := 63) (by decide +kernel) (by omega) ?_
            exact A_weak (lsub.keep (lsub.keep (lsub.keep (lsub.keep (lsub.keep (lsub.drop lsub.nil)))))) h18
          · have h19 := h16.2 b17
            refine A_iconst (a := 1) (by decide +kernel) (by unfold in32; omega) ?_
            refine A_goto (off := 4) (tgt := 137) (by decide +kernel) (by omega) ?_
            refine A_istore (i := 5) (by decide +kernel) (by decide) (fun w h0 hw => by simp at hw; first | (rw [← hw]; decide) | (rw [← hw]; simp)) ?_
            refine A_iload_n (i := 3) (f := 3) rfl (by decide +kernel) rfl ?_
            refine A_iload (i := 5) (by decide +kernel) rfl ?_
            refine A_if_eq (off := 7) (tgt := 149) (by decide +kernel) (by omega) (fun hb => absurd hb (by decide)) (fun _ => ?_)
            refine A_iconst (a := 1) (by decide +kernel) (by unfold in32; omega) ?_
            refine A_goto (off := 4) (tgt := 150) (by decide +kernel) (by omega) ?_
            refine A_iadd (by decide +kernel) ?_
            refine A_istore_n (i := 3) (f := 3) rfl (by decide +kernel) (by decide) (fun w h0 hw => by simp at hw; first | (rw [← hw]; decide) | (rw [← hw]; simp)) ?_
            refine A_iinc (i := 4) (n := 1) (by decide +kernel) (by decide) rfl (fun w h0 hw => by simp at hw; first | (rw [← hw]; decide) | (rw [← hw]; simp)) ?_
            refine A_goto (off := (-92)) (tgt := 63) (by decide +kernel) (by omega) ?_
            exact A_weak (lsub.keep (lsub.keep (lsub.keep (lsub.keep (lsub.keep (lsub.drop lsub.nil)))))) h19
      · have h9 := h5.2 (Decidable.not_not.mp b7)
        refine A_aload_n (i := 0) (f := 0) (by omega) rfl (by decide +kernel) rfl ?_
        refine B_getr (o' := ((74 : Nat) : Int)) (q := (RX11, TX11, 59)) (ci := 10) (j := 29) (by decide +kernel) rfl (by decide) rfl (by omega) fl_11_57 rfl ?_
        refine A_iload_n (i := 1) (f := 1) rfl (by decide +kernel) rfl ?_
        refine A_iload (i := 4) (by decide +kernel) rfl ?_
        refine A_cSi (args := [(0, x1), (0, x4)]) (st := [(31, ((74 : Nat) : Int))]) (by decide +kernel) cv_m11_pair st_m11_pair lk_11_242 rfl (by omega) (Nat.le_of_ble_eq_true rfl) h9 (fun r20 M21 _ h22 => ?_)
        refine B_zald (v := (M21 74 (r20).toNat)) (by decide +kernel) h22.1 rfl ?_
        have h23 := h22.2
        refine A_goto (off := 28) (tgt := 137) (by decide +kernel) (by omega) ?_
        refine A_istore (i := 5) (by decide +kernel) (by decide) (fun w h0 hw => by simp at hw; first | (rw [← hw]; decide) | (rw [← hw]; simp)) ?_
        refine A_iload_n (i := 3) (f := 3) rfl (by decide +kernel) rfl ?_
        refine A_iload (i := 5) (by decide +kernel) rfl ?_
        refine A_if_eq (off := 7) (tgt := 149) (by decide +kernel) (by omega) (fun b24 => ?_) (fun b24 => ?_)
        · have h25 := h23.1 b24
          refine A_iconst (a := 0) (by decide +kernel) (by unfold in32; omega) ?_
          refine A_iadd (by decide +kernel) ?_
          refine A_istore_n (i := 3) (f := 3) rfl (by decide +kernel) (by decide) (fun w h0 hw => by simp at hw; first | (rw [← hw]; decide) | (rw [← hw]; simp)) ?_
          refine A_iinc (i := 4) (n := 1) (by decide +kernel) (by decide) rfl (fun w h0 hw => by simp at hw; first | (rw [← hw]; decide) | (rw [← hw]; simp)) ?_
          refine A_goto (off := (-92)) (tgt := 63) (by decide +kernel) (by omega) ?_
          exact A_weak (lsub.keep (lsub.keep (lsub.keep (lsub.keep (lsub.keep (lsub.drop lsub.nil)))))) h25
        · have h26 := h23.2 b24
          refine A_iconst (a := 1) (by decide +kernel) (by unfold in32; omega) ?_
          refine A_goto (off := 4) (tgt := 150) (by decide +kernel) (by omega) ?_
          refine A_iadd (by decide +kernel) ?_
          refine A_istore_n (i := 3) (f := 3) rfl (by decide +kernel) (by decide) (fun w h0 hw => by simp at hw; first | (rw [← hw]; decide) | (rw [← hw]; simp)) ?_
          refine A_iinc (i := 4) (n := 1) (by decide +kernel) (by decide) rfl (fun w h0 hw => by simp at hw; first | (rw [← hw]; decide) | (rw [← hw]; simp)) ?_
          refine A_goto (off := (-92)) (tgt := 63) (by decide +kernel) (by omega) ?_
          exact A_weak (lsub.keep (lsub.keep (lsub.keep (lsub.keep (lsub.keep (lsub.drop lsub.nil)))))) h26
    · have h6 := h3.2 (Decidable.not_not.mp b4)
      refine A_aload_n (i := 0) (f := 0) (by omega) rfl (by decide +kernel) rfl ?_
      refine B_getr (o' := ((74 : Nat) : Int)) (q := (RX11, TX11, 59)) (ci := 10) (j := 29) (by decide +kernel) rfl (by decide) rfl (by omega) fl_11_57 rfl ?_
      refine A_iload (i := 4) (by decide +kernel) rfl ?_
      refine A_iload_n (i := 1) (f := 1) rfl (by decide +kernel) rfl ?_
      refine A_cSi (args := [(0, x4), (0, x1)]) (st := [(31, ((74 : Nat) : Int))]) (by decide +kernel) cv_m11_pair st_m11_pair lk_11_242 rfl (by omega) (Nat.le_of_ble_eq_true rfl) h6 (fun r27 M28 _ h29 => ?_)
      refine B_zald (v := (M28 74 (r27).toNat)) (by decide +kernel) h29.1 rfl ?_
      have h30 := h29.2
      refine A_goto (off := 47) (tgt := 137) (by decide +kernel) (by omega) ?_
      refine A_istore (i := 5) (by decide +kernel) (by decide) (fun w h0 hw => by simp at hw; first | (rw [← hw]; decide) | (rw [← hw]; simp)) ?_
      refine A_iload_n (i := 3) (f := 3) rfl (by decide +kernel) rfl ?_
      refine A_iload (i := 5) (by decide +kernel) rfl ?_
      refine A_if_eq (off := 7) (tgt := 149) (by decide +kernel) (by omega) (fun b31 => ?_) (fun b31 => ?_)
      · have h32 := h30.1 b31
        refine A_iconst (a := 0) (by decide +kernel) (by unfold in32; omega) ?_
        refine A_iadd (by decide +kernel) ?_
        refine A_istore_n (i := 3) (f := 3) rfl (by decide +kernel) (by decide) (fun w h0 hw => by simp at hw; first | (rw [← hw]; decide) | (rw [← hw]; simp)) ?_
        refine A_iinc (i := 4) (n := 1) (by decide +kernel) (by decide) rfl (fun w h0 hw => by simp at hw; first | (rw [← hw]; decide) | (rw [← hw]; simp)) ?_
        refine A_goto (off := (-92)) (tgt := 63) (by decide +kernel) (by omega) ?_
        exact A_weak (lsub.keep (lsub.keep (lsub.keep (lsub.keep (lsub.keep (lsub.drop lsub.nil)))))) h32
      · have h33 := h30.2 b31
        refine A_iconst (a := 1) (by decide +kernel) (by unfold in32; omega) ?_
        refine A_goto (off := 4) (tgt := 150) (by decide +kernel) (by omega) ?_
        refine A_iadd (by decide +kernel) ?_
        refine A_istore_n (i := 3) (f := 3) rfl (by decide +kernel) (by decide) (fun w h0 hw => by simp at hw; first | (rw [← hw]; decide) | (rw [← hw]; simp)) ?_
        refine A_iinc (i := 4) (n := 1) (by decide +kernel) (by decide) rfl (fun w h0 hw => by simp at hw; first | (rw [← hw]; decide) | (rw [← hw]; simp)) ?_
        refine A_goto (off := (-92)) (tgt := 63) (by decide +kernel) (by omega) ?_
        exact A_weak (lsub.keep (lsub.keep (lsub.keep (lsub.keep (lsub.keep (lsub.drop lsub.nil)))))) h33
theorem q_11_areTwo {x1 : Int} {x2 : Int} {M : Mem} {P : Int → Mem → Prop} (h : (CI m11_isPerson 1 [(20, ((59 : Nat) : Int)), (0, x1)] M (fun r1 M2 => ((r1 = 0 → (P 0 M2)) ∧ (r1 ≠ 0 → (CI m11_isPerson 1 [(20, ((59 : Nat) : Int)), (0, x2)] M2 (fun r7 M8 => ((r7 = 0 → (P 0 M8)) ∧ (r7 ≠ 0 → ((x1 = x2 → (P 0 M8)) ∧ (x1 ≠ x2 → (P 1 M8)))))))))))) : CI m11_areTwo 2 [(20, ((59 : Nat) : Int)), (0, x1), (0, x2)] M P := by
  refine CI_of (by decide +kernel) (Nat.le_of_ble_eq_true rfl) ?_
  show A m11_areTwo 2 0 0 [(20, ((59 : Nat) : Int)), (0, x1), (0, x2)] [] M (Ki P)
  refine A_aload_n (i := 0) (f := 0) (by omega) rfl (by decide +kernel) rfl ?_
  refine A_iload_n (i := 1) (f := 1) rfl (by decide +kernel) rfl ?_
  refine A_cVi (q := (RX11, TX11, 59)) (ci := 10) (o := ((59 : Nat) : Int)) (args := [(0, x1)]) (st := []) (by decide +kernel) cv_m11_isPerson rfl rfl in_m11_isPerson se_m11_isPerson lk_11_306 rfl (by omega) (Nat.le_of_ble_eq_true rfl) h (fun r1 M2 _ h3 => ?_)
  refine A_if_eq (off := 20) (tgt := 25) (by decide +kernel) (by omega) (fun b4 => ?_) (fun b4 => ?_)
  · have h5 := h3.1 b4
    refine A_iconst (a := 0) (by decide +kernel) (by unfold in32; omega) ?_
    exact A_ret ⟨by decide +kernel, Or.inr ⟨rfl, by decide⟩⟩ ⟨_, rfl, h5⟩
  · have h6 := h3.2 b4
    refine A_aload_n (i := 0) (f := 0) (by omega) rfl (by decide +kernel) rfl ?_
    refine A_iload_n (i := 2) (f := 2) rfl (by decide +kernel) rfl ?_
    refine A_cVi (q := (RX11, TX11, 59)) (ci := 10) (o := ((59 : Nat) : Int)) (args := [(0, x2)]) (st := []) (by decide +kernel) cv_m11_isPerson rfl rfl in_m11_isPerson se_m11_isPerson lk_11_306 rfl (by omega) (Nat.le_of_ble_eq_true rfl) h6 (fun r7 M8 _ h9 => ?_)
    refine A_if_eq (off := 12) (tgt := 25) (by decide +kernel) (by omega) (fun b10 => ?_) (fun b10 => ?_)
    · have h11 := h9.1 b10
      refine A_iconst (a := 0) (by decide +kernel) (by unfold in32; omega) ?_
      exact A_ret ⟨by decide +kernel, Or.inr ⟨rfl, by decide⟩⟩ ⟨_, rfl, h11⟩
    · have h12 := h9.2 b10
      refine A_iload_n (i := 1) (f := 1) rfl (by decide +kernel) rfl ?_
      refine A_iload_n (i := 2) (f := 2) rfl (by decide +kernel) rfl ?_
      refine A_ic_eq (off := 7) (tgt := 25) (by decide +kernel) (by omega) (fun b13 => ?_) (fun b13 => ?_)
      · have h14 := h12.1 b13
        refine A_iconst (a := 0) (by decide +kernel) (by unfold in32; omega) ?_
        exact A_ret ⟨by decide +kernel, Or.inr ⟨rfl, by decide⟩⟩ ⟨_, rfl, h14⟩
      · have h15 := h12.2 b13
        refine A_iconst (a := 1) (by decide +kernel) (by unfold in32; omega) ?_
        refine A_goto (off := 4) (tgt := 26) (by decide +kernel) (by omega) ?_
        exact A_ret ⟨by decide +kernel, Or.inr ⟨rfl, by decide⟩⟩ ⟨_, rfl, h15⟩
theorem q_11_isSeason {x0 : Int} {M : Mem} {P : Int → Mem → Prop} (h : ((x0 < 0 → (P 0 M)) ∧ (0 ≤ x0 → ((4 ≤ x0 → (P 0 M)) ∧ (x0 < 4 → (P 1 M)))))) : CI m11_isSeason 1 [(0, x0)] M P := by
  refine CI_of (by decide +kernel) (Nat.le_of_ble_eq_true rfl) ?_
  show A m11_isSeason 1 0 0 [(0, x0)] [] M (Ki P)
  refine A_iload_n (i := 0) (f := 0) rfl (by decide +kernel) rfl ?_
  refine A_if_lt (off := 12) (tgt := 13) (by decide +kernel) (by omega) (fun b1 => ?_) (fun b1 => ?_)
  · have h2 := h.1 b1
    refine A_iconst (a := 0) (by decide +kernel) (by unfold in32; omega) ?_
    exact A_ret ⟨by decide +kernel, Or.inr ⟨rfl, by decide⟩⟩ ⟨_, rfl, h2⟩
  · have h3 := h.2 (Int.not_lt.mp b1)
    refine A_iload_n (i := 0) (f := 0) rfl (by decide +kernel) rfl ?_
    refine A_iconst (a := 4) (by decide +kernel) (by unfold in32; omega) ?_
    refine A_ic_ge (off := 7) (tgt := 13) (by decide +kernel) (by omega) (fun b4 => ?_) (fun b4 => ?_)
    · have h5 := h3.1 b4
      refine A_iconst (a := 0) (by decide +kernel) (by unfold in32; omega) ?_
      exact A_ret ⟨by decide +kernel, Or.inr ⟨rfl, by decide⟩⟩ ⟨_, rfl, h5⟩
    · have h6 := h3.2 (Int.not_le.mp b4)
      refine A_iconst (a := 1) (by decide +kernel) (by unfold in32; omega) ?_
      refine A_goto (off := 4) (tgt := 14) (by decide +kernel) (by omega) ?_
      exact A_ret ⟨by decide +kernel, Or.inr ⟨rfl, by decide⟩⟩ ⟨_, rfl, h6⟩
theorem q_11_standsLaid {x1 : Int} {x2 : Int} {M : Mem} {P : Int → Mem → Prop} (h : (CI m11_pair 1 [(0, x1), (0, x2)] M (fun r1 M2 => ((0 ≤ r1 ∧ r1 < 25) ∧ (((M2 74 (r1).toNat) = 0 → (CI m11_pair 1 [(0, x2), (0, x1)] M2 (fun r8 M9 => ((0 ≤ r8 ∧ r8 < 25) ∧ (((M9 74 (r8).toNat) = 0 → (P 0 M9)) ∧ ((M9 74 (r8).toNat) ≠ 0 → (P 2 M9))))))) ∧ ((M2 74 (r1).toNat) ≠ 0 → (P 1 M2))))))) : CI m11_standsLaid 2 [(20, ((59 : Nat) : Int)), (0, x1), (0, x2)] M P := by
  refine CI_of (by decide +kernel) (Nat.le_of_ble_eq_true rfl) ?_
  show A m11_standsLaid 2 0 0 [(20, ((59 : Nat) : Int)), (0, x1), (0, x2)] [] M (Ki P)
  refine A_aload_n (i := 0) (f := 0) (by omega) rfl (by decide +kernel) rfl ?_
  refine B_getr (o' := ((74 : Nat) : Int)) (q := (RX11, TX11, 59)) (ci := 10) (j := 29) (by decide +kernel) rfl (by decide) rfl (by omega) fl_11_57 rfl ?_
  refine A_iload_n (i := 1) (f := 1) rfl (by decide +kernel) rfl ?_
  refine A_iload_n (i := 2) (f := 2) rfl (by decide +kernel) rfl ?_
  refine A_cSi (args := [(0, x1), (0, x2)]) (st := [(31, ((74 : Nat) : Int))]) (by decide +kernel) cv_m11_pair st_m11_pair lk_11_242 rfl (by omega) (Nat.le_of_ble_eq_true rfl) h (fun r1 M2 _ h3 => ?_)
  refine B_zald (v := (M2 74 (r1).toNat)) (by decide +kernel) h3.1 rfl ?_
  have h4 := h3.2
  refine A_if_eq (off := 7) (tgt := 17) (by decide +kernel) (by omega) (fun b5 => ?_) (fun b5 => ?_)
  · have h6 := h4.1 b5
    refine A_aload_n (i := 0) (f := 0) (by omega) rfl (by decide +kernel) rfl ?_
    refine B_getr (o' := ((74 : Nat) : Int)) (q := (RX11, TX11, 59)) (ci := 10) (j := 29) (by decide +kernel) rfl (by decide) rfl (by omega) fl_11_57 rfl ?_
    refine A_iload_n (i := 2) (f := 2) rfl (by decide +kernel) rfl ?_
    refine A_iload_n (i := 1) (f := 1) rfl (by decide +kernel) rfl ?_
    refine A_cSi (args := [(0, x2), (0, x1)]) (st := [(31, ((74 : Nat) : Int))]) (by decide +kernel) cv_m11_pair st_m11_pair lk_11_242 rfl (by omega) (Nat.le_of_ble_eq_true rfl) h6 (fun r8 M9 _ h10 => ?_)
    refine B_zald (v := (M9 74 (r8).toNat)) (by decide +kernel) h10.1 rfl ?_
    have h11 := h10.2
    refine A_if_eq (off := 7) (tgt := 34) (by decide +kernel) (by omega) (fun b12 => ?_) (fun b12 => ?_)
    · have h13 := h11.1 b12
      refine A_iconst (a := 0) (by decide +kernel) (by unfold in32; omega) ?_
      exact A_ret ⟨by decide +kernel, Or.inl rfl⟩ ⟨_, rfl, h13⟩
    · have h14 := h11.2 b12
      refine A_iconst (a := 2) (by decide +kernel) (by unfold in32; omega) ?_
      refine A_goto (off := 4) (tgt := 35) (by decide +kernel) (by omega) ?_
      exact A_ret ⟨by decide +kernel, Or.inl rfl⟩ ⟨_, rfl, h14⟩
  · have h7 := h4.2 b5
    refine A_iconst (a := 1) (by decide +kernel) (by unfold in32; omega) ?_
    refine A_goto (off := 21) (tgt := 35) (by decide +kernel) (by omega) ?_
    exact A_ret ⟨by decide +kernel, Or.inl rfl⟩ ⟨_, rfl, h7⟩
theorem q_11_stands {x1 : Int} {x2 : Int} {x3 : Int} {M : Mem} {P : Int → Mem → Prop} (h : (CI m11_areTwo 2 [(20, ((59 : Nat) : Int)), (0, x1), (0, x2)] (mset M 59 0 0) (fun r1 M2 => ((r1 = 0 → (P (-1) M2)) ∧ (r1 ≠ 0 → (CI m11_isSeason 1 [(0, x3)] M2 (fun r7 M8 => ((r7 ≠ 0 → (CD m11_layNow 3 [(20, ((59 : Nat) : Int)), (0, x3)] M8 (fun M14 => (CI m11_standsLaid 2 [(20, ((59 : Nat) : Int)), (0, x1), (0, x2)] M14 (fun r16 M17 => (P r16 M17)))))) ∧ (r7 = 0 → (P (-1) M8)))))))))) : CI m11_stands 4 [(20, ((59 : Nat) : Int)), (0, x1), (0, x2), (0, x3)] M P := by
  refine CI_of (by decide +kernel) (Nat.le_of_ble_eq_true rfl) ?_
  show A m11_stands 4 0 0 [(20, ((59 : Nat) : Int)), (0, x1), (0, x2), (0, x3)] [] M (Ki P)
  refine A_aload_n (i := 0) (f := 0) (by omega) rfl (by decide +kernel) rfl ?_
  refine A_iconst (a := 0) (by decide +kernel) (by unfold in32; omega) ?_
  refine B_putp (M' := (mset M 59 0 0)) (q := (RX11, TX11, 59)) (ci := 10) (j := 0) (p := 0) (by decide +kernel) rfl (by decide) rfl (Or.inl ⟨rfl, rfl⟩) rfl fl_11_118 rfl ?_
  refine A_aload_n (i := 0) (f := 0) (by omega) rfl (by decide +kernel) rfl ?_
  refine A_iload_n (i := 1) (f := 1) rfl (by decide +kernel) rfl ?_
  refine A_iload_n (i := 2) (f := 2) rfl (by decide +kernel) rfl ?_
  refine A_cVi (q := (RX11, TX11, 59)) (ci := 10) (o := ((59 : Nat) : Int)) (args := [(0, x1), (0, x2)]) (st := []) (by decide +kernel) cv_m11_areTwo rfl rfl in_m11_areTwo se_m11_areTwo lk_11_312 rfl (by omega) (Nat.le_of_ble_eq_true rfl) h (fun r1 M2 _ h3 => ?_)
  refine A_if_eq (off := 10) (tgt := 21) (by decide +kernel) (by omega) (fun b4 => ?_) (fun b4 => ?_)
  · have h5 := h3.1 b4
    refine A_iconst (a := (-1)) (by decide +kernel) (by unfold in32; omega) ?_
    exact A_ret ⟨by decide +kernel, Or.inl rfl⟩ ⟨_, rfl, h5⟩
  · have h6 := h3.2 b4
    refine A_iload_n (i := 3) (f := 3) rfl (by decide +kernel) rfl ?_
    refine A_cSi (args := [(0, x3)]) (st := []) (by decide +kernel) cv_m11_isSeason st_m11_isSeason lk_11_315 rfl (by omega) (Nat.le_of_ble_eq_true rfl) h6 (fun r7 M8 _ h9 => ?_)
    refine A_if_ne (off := 5) (tgt := 23) (by decide +kernel) (by omega) (fun b10 => ?_) (fun b10 => ?_)
    · have h11 := h9.1 b10
      refine A_aload_n (i := 0) (f := 0) (by omega) rfl (by decide +kernel) rfl ?_
      refine A_iload_n (i := 3) (f := 3) rfl (by decide +kernel) rfl ?_
      refine A_cVd (q := (RX11, TX11, 59)) (ci := 10) (o := ((59 : Nat) : Int)) (args := [(0, x3)]) (st := []) (by decide +kernel) cv_m11_layNow rfl rfl in_m11_layNow se_m11_layNow lk_11_309 rfl (by omega) (Nat.le_of_ble_eq_true rfl) h11 (fun M14 h15 => ?_)
      refine A_aload_n (i := 0) (f := 0) (by omega) rfl (by decide +kernel) rfl ?_
      refine A_iload_n (i := 1) (f := 1) rfl (by decide +kernel) rfl ?_
      refine A_iload_n (i := 2) (f := 2) rfl (by decide +kernel) rfl ?_
      refine A_cVi (q := (RX11, TX11, 59)) (ci := 10) (o := ((59 : Nat) : Int)) (args := [(0, x1), (0, x2)]) (st := []) (by decide +kernel) cv_m11_standsLaid rfl rfl in_m11_standsLaid se_m11_standsLaid lk_11_318 rfl (by omega) (Nat.le_of_ble_eq_true rfl) h15 (fun r16 M17 _ h18 => ?_)
      exact A_ret ⟨by decide +kernel, Or.inl rfl⟩ ⟨_, rfl, h18⟩
    · have h12 := h9.2 (Decidable.not_not.mp b10)
      refine A_iconst (a := (-1)) (by decide +kernel) (by unfold in32; omega) ?_
      exact A_ret ⟨by decide +kernel, Or.inl rfl⟩ ⟨_, rfl, h12⟩
theorem q_11_season {x1 : Int} {M : Mem} {P : Int → Mem → Prop} (h : (CI m11_isSeason 1 [(0, x1)] (mset M 59 0 0) (fun r1 M2 => ((r1 ≠ 0 → (P 1 (mset M2 59 32 x1))) ∧ (r1 = 0 → (P 0 M2)))))) : CI m11_season 2 [(20, ((59 : Nat) : Int)), (0, x1)] M P := by
  refine CI_of (by decide +kernel) (Nat.le_of_ble_eq_true rfl) ?_
  show A m11_season 2 0 0 [(20, ((59 : Nat) : Int)), (0, x1)] [] M (Ki P)
  refine A_aload_n (i := 0) (f := 0) (by omega) rfl (by decide +kernel) rfl ?_
  refine A_iconst (a := 0) (by decide +kernel) (by unfold in32; omega) ?_
  refine B_putp (M' := (mset M 59 0 0)) (q := (RX11, TX11, 59)) (ci := 10) (j := 0) (p := 0) (by decide +kernel) rfl (by decide) rfl (Or.inl ⟨rfl, rfl⟩) rfl fl_11_118 rfl ?_
  refine A_iload_n (i := 1) (f := 1) rfl (by decide +kernel) rfl ?_
  refine A_cSi (args := [(0, x1)]) (st := []) (by decide +kernel) cv_m11_isSeason st_m11_isSeason lk_11_315 rfl (by omega) (Nat.le_of_ble_eq_true rfl) h (fun r1 M2 _ h3 => ?_)
  refine A_if_ne (off := 5) (tgt := 14) (by decide +kernel) (by omega) (fun b4 => ?_) (fun b4 => ?_)
  · have h5 := h3.1 b4
    refine A_aload_n (i := 0) (f := 0) (by omega) rfl (by decide +kernel) rfl ?_
    refine A_iload_n (i := 1) (f := 1) rfl (by decide +kernel) rfl ?_
    refine B_putp (M' := (mset M2 59 32 x1)) (q := (RX11, TX11, 59)) (ci := 10) (j := 32) (p := 32) (by decide +kernel) rfl (by decide) rfl (Or.inl ⟨rfl, rfl⟩) rfl fl_11_296 rfl ?_
    refine A_iconst (a := 1) (by decide +kernel) (by unfold in32; omega) ?_
    exact A_ret ⟨by decide +kernel, Or.inr ⟨rfl, by decide⟩⟩ ⟨_, rfl, h5⟩
  · have h6 := h3.2 (Decidable.not_not.mp b4)
    refine A_iconst (a := 0) (by decide +kernel) (by unfold in32; omega) ?_
    exact A_ret ⟨by decide +kernel, Or.inr ⟨rfl, by decide⟩⟩ ⟨_, rfl, h6⟩
theorem q_11_raise {x1 : Int} {x2 : Int} {x3 : Int} {M : Mem} {P : Int → Mem → Prop} (h : (CI m11_areTwo 2 [(20, ((59 : Nat) : Int)), (0, x1), (0, x2)] (mset M 59 0 0) (fun r1 M2 => ((r1 = 0 → (P (-1) M2)) ∧ (r1 ≠ 0 → ((x3 < 0 → (P (-1) M2)) ∧ (0 ≤ x3 → ((1 < x3 → (P (-1) M2)) ∧ (x3 ≤ 1 → (((M2 59 31) = 24 → (P (-1) M2)) ∧ ((M2 59 31) ≠ 24 → (CI m11_hasFact 1 [(20, ((59 : Nat) : Int)), (0, 0), (0, (M2 59 31)), (0, x1), (0, x2), (0, x3), (0, (-1))] M2 (fun r16 M17 => ((r16 = 0 → (CD m11_lays 1 [(20, ((59 : Nat) : Int)), (0, (w32 (0 + (M17 59 31)))), (0, x1), (0, x2), (0, x3), (0, (-1))] M17 (fun M23 => (CI m11_isRound 3 [(20, ((59 : Nat) : Int)), (0, 0), (0, (w32 ((M23 59 31) + 1))), (0, (M23 61 0))] M23 (fun r25 M26 => ((r25 = 0 → (P (w32 (((mset M26 59 31 (w32 ((M26 59 31) + 1))) 59 31) - 1)) (mset M26 59 31 (w32 ((M26 59 31) + 1))))) ∧ (r25 ≠ 0 → (P (-1) M26)))))))) ∧ (r16 ≠ 0 → (P (-1) M17)))))))))))))))) : CI m11_raise 4 [(20, ((59 : Nat) : Int)), (0, x1), (0, x2), (0, x3)] M P := by
  refine CI_of (by decide +kernel) (Nat.le_of_ble_eq_true rfl) ?_
  show A m11_raise 4 0 0 [(20, ((59 : Nat) : Int)), (0, x1), (0, x2), (0, x3)] [] M (Ki P)
  refine A_aload_n (i := 0) (f := 0) (by omega) rfl (by decide +kernel) rfl ?_
  refine A_iconst (a := 0) (by decide +kernel) (by unfold in32; omega) ?_
  refine B_putp (M' := (mset M 59 0 0)) (q := (RX11, TX11, 59)) (ci := 10) (j := 0) (p := 0) (by decide +kernel) rfl (by decide) rfl (Or.inl ⟨rfl, rfl⟩) rfl fl_11_118 rfl ?_
  refine A_aload_n (i := 0) (f := 0) (by omega) rfl (by decide +kernel) rfl ?_
  refine A_iload_n (i := 1) (f := 1) rfl (by decide +kernel) rfl ?_
  refine A_iload_n (i := 2) (f := 2) rfl (by decide +kernel) rfl ?_
  refine A_cVi (q := (RX11, TX11, 59)) (ci := 10) (o := ((59 : Nat) : Int)) (args := [(0, x1), (0, x2)]) (st := []) (by decide +kernel) cv_m11_areTwo rfl rfl in_m11_areTwo se_m11_areTwo lk_11_312 rfl (by omega) (Nat.le_of_ble_eq_true rfl) h (fun r1 M2 _ h3 => ?_)
  refine A_if_eq (off := 37) (tgt := 48) (by decide +kernel) (by omega) (fun b4 => ?_) (fun b4 => ?_)
  · have h5 := h3.1 b4
    refine A_iconst (a := (-1)) (by decide +kernel) (by unfold in32; omega) ?_
    exact A_ret ⟨by decide +kernel, Or.inl rfl⟩ ⟨_, rfl, h5⟩
  · have h6 := h3.2 b4
    refine A_iload_n (i := 3) (f := 3) rfl (by decide +kernel) rfl ?_
    refine A_if_lt (off := 33) (tgt := 48) (by decide +kernel) (by omega) (fun b7 => ?_) (fun b7 => ?_)
    · have h8 := h6.1 b7
      refine A_iconst (a := (-1)) (by decide +kernel) (by unfold in32; omega) ?_
      exact A_ret ⟨by decide +kernel, Or.inl rfl⟩ ⟨_, rfl, h8⟩
    · have h9 := h6.2 (Int.not_lt.mp b7)
      refine A_iload_n (i := 3) (f := 3) rfl (by decide +kernel) rfl ?_
      refine A_iconst (a := 1) (by decide +kernel) (by unfold in32; omega) ?_
      refine A_ic_gt (off := 28) (tgt := 48) (by decide +kernel) (by omega) (fun b10 => ?_) (fun b10 => ?_)
      · have h11 := h9.1 b10
        refine A_iconst (a := (-1)) (by decide +kernel) (by unfold in32; omega) ?_
        exact A_ret ⟨by decide +kernel, Or.inl rfl⟩ ⟨_, rfl, h11⟩
      · have h12 := h9.2 (Int.not_lt.mp b10)
        refine A_aload_n (i := 0) (f := 0) (by omega) rfl (by decide +kernel) rfl ?_
        refine B_getp (v := (M2 59 31)) (q := (RX11, TX11, 59)) (ci := 10) (j := 31) (p := 31) (by decide +kernel) rfl (by decide) rfl (Or.inl rfl) fl_11_289 rfl ?_
        refine A_bipush (a := 24) (by decide +kernel) (by unfold in32; omega) (by decide +kernel) ?_
        refine A_ic_eq (off := 19) (tgt := 48) (by decide +kernel) (by omega) (fun b13 => ?_) (fun b13 => ?_)
        · have h14 := h12.1 b13
          refine A_iconst (a := (-1)) (by decide +kernel) (by unfold in32; omega) ?_
          exact A_ret ⟨by decide +kernel, Or.inl rfl⟩ ⟨_, rfl, h14⟩
        · have h15 := h12.2 b13
          refine A_aload_n (i := 0) (f := 0) (by omega) rfl (by decide +kernel) rfl ?_
          refine A_iconst (a := 0) (by decide +kernel) (by unfold in32; omega) ?_
          refine A_aload_n (i := 0) (f := 0) (by omega) rfl (by decide +kernel) rfl ?_
          refine B_getp (v := (M2 59 31)) (q := (RX11, TX11, 59)) (ci := 10) (j := 31) (p := 31) (by decide +kernel) rfl (by decide) rfl (Or.inl rfl) fl_11_289 rfl ?_
          refine A_iload_n (i := 1) (f := 1) rfl (by decide +kernel) rfl ?_
          refine A_iload_n (i := 2) (f := 2) rfl (by decide +kernel) rfl ?_
          refine A_iload_n (i := 3) (f := 3) rfl (by decide +kernel) rfl ?_
          refine A_iconst (a := (-1)) (by decide +kernel) (by unfold in32; omega) ?_
          refine A_cVi (q := (RX11, TX11, 59)) (ci := 10) (o := ((59 : Nat) : Int)) (args := [(0, 0), (0, (M2 59 31)), (0, x1), (0, x2), (0, x3), (0, (-1))]) (st := []) (by decide +kernel) cv_m11_hasFact rfl rfl in_m11_hasFact se_m11_hasFact lk_11_230 rfl (by omega) (Nat.le_of_ble_eq_true rfl) h15 (fun r16 M17 _ h18 => ?_)
          refine A_if_eq (off := 5) (tgt := 50) (by decide +kernel) (by omega) (fun b19 => ?_) (fun b19 => ?_)
          · have h20 := h18.1 b19
            refine A_aload_n (i := 0) (f := 0) (by omega) rfl (by decide +kernel) rfl ?_
            refine A_iconst (a := 0) (by decide +kernel) (by unfold in32; omega) ?_
            refine A_aload_n (i := 0) (f := 0) (by omega) rfl (by decide +kernel) rfl ?_
            refine B_getp (v := (M17 59 31)) (q := (RX11, TX11, 59)) (ci := 10) (j := 31) (p := 31) (by decide +kernel) rfl (by decide) rfl (Or.inl rfl) fl_11_289 rfl ?_
            refine A_iadd (by decide +kernel) ?_
            refine A_iload_n (i := 1) (f := 1) rfl (by decide +kernel) rfl ?_
            refine A_iload_n (i := 2) (f := 2) rfl (by decide +kernel) rfl ?_
            refine A_iload_n (i := 3) (f := 3) rfl (by decide +kernel) rfl ?_
            refine A_iconst (a := (-1)) (by decide +kernel) (by unfold in32; omega) ?_
            refine A_cVd (q := (RX11, TX11, 59)) (ci := 10) (o := ((59 : Nat) : Int)) (args := [(0, (w32 (0 + (M17 59 31)))), (0, x1), (0, x2), (0, x3), (0, (-1))]) (st := []) (by decide +kernel) cv_m11_lays rfl rfl in_m11_lays se_m11_lays lk_11_234 rfl (by omega) (Nat.le_of_ble_eq_true rfl) h20 (fun M23 h24 => ?_)
            refine A_aload_n (i := 0) (f := 0) (by omega) rfl (by decide +kernel) rfl ?_
            refine A_iconst (a := 0) (by decide +kernel) (by unfold in32; omega) ?_
            refine A_aload_n (i := 0) (f := 0) (by omega) rfl (by decide +kernel) rfl ?_
            refine B_getp (v := (M23 59 31)) (q := (RX11, TX11, 59)) (ci := 10) (j := 31) (p := 31) (by decide +kernel) rfl (by decide) rfl (Or.inl rfl) fl_11_289 rfl ?_
            refine A_iconst (a := 1) (by decide +kernel) (by unfold in32; omega) ?_
            refine A_iadd (by decide +kernel) ?_
            refine A_aload_n (i := 0) (f := 0) (by omega) rfl (by decide +kernel) rfl ?_
            refine B_getr (o' := ((61 : Nat) : Int)) (q := (RX11, TX11, 59)) (ci := 10) (j := 3) (by decide +kernel) rfl (by decide) rfl (by omega) fl_11_13 rfl ?_
            refine A_iconst (a := 0) (by decide +kernel) (by unfold in32; omega) ?_
            refine B_iald (v := (M23 61 0)) (by decide +kernel) (by decide) rfl ?_
            refine A_cVi (q := (RX11, TX11, 59)) (ci := 10) (o := ((59 : Nat) : Int)) (args := [(0, 0), (0, (w32 ((M23 59 31) + 1))), (0, (M23 61 0))]) (st := []) (by decide +kernel) cv_m11_isRound rfl rfl in_m11_isRound se_m11_isRound lk_11_238 rfl (by omega) (Nat.le_of_ble_eq_true rfl) h24 (fun r25 M26 _ h27 => ?_)
            refine A_if_eq (off := 5) (tgt := 86) (by decide +kernel) (by omega) (fun b28 => ?_) (fun b28 => ?_)
            · have h29 := h27.1 b28
              refine A_aload_n (i := 0) (f := 0) (by omega) rfl (by decide +kernel) rfl ?_
              refine A_dup (by decide +kernel) (by simp) ?_
              refine B_getp (v := (M26 59 31)) (q := (RX11, TX11, 59)) (ci := 10) (j := 31) (p := 31) (by decide +kernel) rfl (by decide) rfl (Or.inl rfl) fl_11_289 rfl ?_
              refine A_iconst (a := 1) (by decide +kernel) (by unfold in32; omega) ?_
              refine A_iadd (by decide +kernel) ?_
              refine B_putp (M' := (mset M26 59 31 (w32 ((M26 59 31) + 1)))) (q := (RX11, TX11, 59)) (ci := 10) (j := 31) (p := 31) (by decide +kernel) rfl (by decide) rfl (Or.inl ⟨rfl, rfl⟩) rfl fl_11_289 rfl ?_
              refine A_aload_n (i := 0) (f := 0) (by omega) rfl (by decide +kernel) rfl ?_
              refine B_getp (v := ((mset M26 59 31 (w32 ((M26 59 31) + 1))) 59 31)) (q := (RX11, TX11, 59)) (ci := 10) (j := 31) (p := 31) (by decide +kernel) rfl (by decide) rfl (Or.inl rfl) fl_11_289 rfl ?_
              refine A_iconst (a := 1) (by decide +kernel) (by unfold in32; omega) ?_
              refine A_isub (by decide +kernel) ?_
              exact A_ret ⟨by decide +kernel, Or.inl rfl⟩ ⟨_, rfl, h29⟩
            · have h30 := h27.2 b28
              refine A_iconst (a := (-1)) (by decide +kernel) (by unfold in32; omega) ?_
              exact A_ret ⟨by decide +kernel, Or.inl rfl⟩ ⟨_, rfl, h30⟩
          · have h21 := h18.2 b19
            refine A_iconst (a := (-1)) (by decide +kernel) (by unfold in32; omega) ?_
            exact A_ret ⟨by decide +kernel, Or.inl rfl⟩ ⟨_, rfl, h21⟩
theorem q_11_isFact {x1 : Int} {M : Mem} {P : Int → Mem → Prop} (h : ((x1 < 0 → (P 0 M)) ∧ (0 ≤ x1 → (((M 59 31) ≤ x1 → (P 0 M)) ∧ (x1 < (M 59 31) → (P 1 M)))))) : CI m11_isFact 1 [(20, ((59 : Nat) : Int)), (0, x1)] M P := by
  refine CI_of (by decide +kernel) (Nat.le_of_ble_eq_true rfl) ?_
  show A m11_isFact 1 0 0 [(20, ((59 : Nat) : Int)), (0, x1)] [] M (Ki P)
  refine A_iload_n (i := 1) (f := 1) rfl (by decide +kernel) rfl ?_
  refine A_if_lt (off := 15) (tgt := 16) (by decide +kernel) (by omega) (fun b1 => ?_) (fun b1 => ?_)
  · have h2 := h.1 b1
    refine A_iconst (a := 0) (by decide +kernel) (by unfold in32; omega) ?_
    exact A_ret ⟨by decide +kernel, Or.inr ⟨rfl, by decide⟩⟩ ⟨_, rfl, h2⟩
  · have h3 := h.2 (Int.not_lt.mp b1)
    refine A_iload_n (i := 1) (f := 1) rfl (by decide +kernel) rfl ?_
    refine A_aload_n (i := 0) (f := 0) (by omega) rfl (by decide +kernel) rfl ?_
    refine B_getp (v := (M 59 31)) (q := (RX11, TX11, 59)) (ci := 10) (j := 31) (p := 31) (by decide +kernel) rfl (by decide) rfl (Or.inl rfl) fl_11_289 rfl ?_
    refine A_ic_ge (off := 7) (tgt := 16) (by decide +kernel) (by omega) (fun b4 => ?_) (fun b4 => ?_)
    · have h5 := h3.1 b4
      refine A_iconst (a := 0) (by decide +kernel) (by unfold in32; omega) ?_
      exact A_ret ⟨by decide +kernel, Or.inr ⟨rfl, by decide⟩⟩ ⟨_, rfl, h5⟩
    · have h6 := h3.2 (Int.not_le.mp b4)
      refine A_iconst (a := 1) (by decide +kernel) (by unfold in32; omega) ?_
      refine A_goto (off := 4) (tgt := 17) (by decide +kernel) (by omega) ?_
      exact A_ret ⟨by decide +kernel, Or.inr ⟨rfl, by decide⟩⟩ ⟨_, rfl, h6⟩
theorem q_11_strike {x1 : Int} {M : Mem} {P : Int → Mem → Prop} (h : (CI m11_isFact 1 [(20, ((59 : Nat) : Int)), (0, x1)] (mset M 59 0 0) (fun r1 M2 => ((r1 = 0 → (P 0 M2)) ∧ (r1 ≠ 0 → ((0 ≤ x1 ∧ x1 < 72) ∧ (((M2 73 (x1).toNat) = 0 → ((0 ≤ x1 ∧ x1 < 72) ∧ (P 1 (mset M2 73 (x1).toNat 1)))) ∧ ((M2 73 (x1).toNat) ≠ 0 → (P 0 M2))))))))) : CI m11_strike 2 [(20, ((59 : Nat) : Int)), (0, x1)] M P := by
  refine CI_of (by decide +kernel) (Nat.le_of_ble_eq_true rfl) ?_
  show A m11_strike 2 0 0 [(20, ((59 : Nat) : Int)), (0, x1)] [] M (Ki P)
  refine A_aload_n (i := 0) (f := 0) (by omega) rfl (by decide +kernel) rfl ?_
  refine A_iconst (a := 0) (by decide +kernel) (by unfold in32; omega) ?_
  refine B_putp (M' := (mset M 59 0 0)) (q := (RX11, TX11, 59)) (ci := 10) (j := 0) (p := 0) (by decide +kernel) rfl (by decide) rfl (Or.inl ⟨rfl, rfl⟩) rfl fl_11_118 rfl ?_
  refine A_aload_n (i := 0) (f := 0) (by omega) rfl (by decide +kernel) rfl ?_
  refine A_iload_n (i := 1) (f := 1) rfl (by decide +kernel) rfl ?_
  refine A_cVi (q := (RX11, TX11, 59)) (ci := 10) (o := ((59 : Nat) : Int)) (args := [(0, x1)]) (st := []) (by decide +kernel) cv_m11_isFact rfl rfl in_m11_isFact se_m11_isFact lk_11_321 rfl (by omega) (Nat.le_of_ble_eq_true rfl) h (fun r1 M2 _ h3 => ?_)
  refine A_if_eq (off := 12) (tgt := 22) (by decide +kernel) (by omega) (fun b4 => ?_) (fun b4 => ?_)
  · have h5 := h3.1 b4
    refine A_iconst (a := 0) (by decide +kernel) (by unfold in32; omega) ?_
    exact A_ret ⟨by decide +kernel, Or.inr ⟨rfl, by decide⟩⟩ ⟨_, rfl, h5⟩
  · have h6 := h3.2 b4
    refine A_aload_n (i := 0) (f := 0) (by omega) rfl (by decide +kernel) rfl ?_
    refine B_getr (o' := ((73 : Nat) : Int)) (q := (RX11, TX11, 59)) (ci := 10) (j := 15) (by decide +kernel) rfl (by decide) rfl (by omega) fl_11_49 rfl ?_
    refine A_iload_n (i := 1) (f := 1) rfl (by decide +kernel) rfl ?_
    refine B_zald (v := (M2 73 (x1).toNat)) (by decide +kernel) h6.1 rfl ?_
    have h7 := h6.2
    refine A_if_eq (off := 5) (tgt := 24) (by decide +kernel) (by omega) (fun b8 => ?_) (fun b8 => ?_)
    · have h9 := h7.1 b8
      refine A_aload_n (i := 0) (f := 0) (by omega) rfl (by decide +kernel) rfl ?_
      refine B_getr (o' := ((73 : Nat) : Int)) (q := (RX11, TX11, 59)) (ci := 10) (j := 15) (by decide +kernel) rfl (by decide) rfl (by omega) fl_11_49 rfl ?_
      refine A_iload_n (i := 1) (f := 1) rfl (by decide +kernel) rfl ?_
      refine A_iconst (a := 1) (by decide +kernel) (by unfold in32; omega) ?_
      refine B_zast (M' := (mset M2 73 (x1).toNat 1)) (by decide +kernel) h9.1 (by decide) rfl ?_
      have h11 := h9.2
      refine A_iconst (a := 1) (by decide +kernel) (by unfold in32; omega) ?_
      exact A_ret ⟨by decide +kernel, Or.inr ⟨rfl, by decide⟩⟩ ⟨_, rfl, h11⟩
    · have h10 := h7.2 b8
      refine A_iconst (a := 0) (by decide +kernel) (by unfold in32; omega) ?_
      exact A_ret ⟨by decide +kernel, Or.inr ⟨rfl, by decide⟩⟩ ⟨_, rfl, h10⟩
theorem q_11_fact {x1 : Int} {x2 : Int} {M : Mem} {P : Int → Mem → Prop} (h : (CI m11_isFact 1 [(20, ((59 : Nat) : Int)), (0, x1)] (mset M 59 0 0) (fun r1 M2 => ((r1 ≠ 0 → ((x2 = 0 → ((0 ≤ x1 ∧ x1 < 72) ∧ (P (M2 69 (x1).toNat) M2))) ∧ ((x2 = 1 → ((0 ≤ x1 ∧ x1 < 72) ∧ (P (M2 70 (x1).toNat) M2))) ∧ ((x2 = 2 → ((0 ≤ x1 ∧ x1 < 72) ∧ (P (M2 71 (x1).toNat) M2))) ∧ ((x2 = 3 → ((0 ≤ x1 ∧ x1 < 72) ∧ (P (M2 72 (x1).toNat) M2))) ∧ ((x2 = 4 → ((0 ≤ x1 ∧ x1 < 72) ∧ (((M2 73 (x1).toNat) = 0 → (P 0 M2)) ∧ ((M2 73 (x1).toNat) ≠ 0 → (P 1 M2))))) ∧ ((x2 < 0 ∨ 4 < x2) → (P (-1) M2)))))))) ∧ (r1 = 0 → (P (-1) M2)))))) : CI m11_fact 2 [(20, ((59 : Nat) : Int)), (0, x1), (0, x2)] M P := by
  refine CI_of (by decide +kernel) (Nat.le_of_ble_eq_true rfl) ?_
  show A m11_fact 2 0 0 [(20, ((59 : Nat) : Int)), (0, x1), (0, x2)] [] M (Ki P)
  refine A_aload_n (i := 0) (f := 0) (by omega) rfl (by decide +kernel) rfl ?_
  refine A_iconst (a := 0) (by decide +kernel) (by unfold in32; omega) ?_
  refine B_putp (M' := (mset M 59 0 0)) (q := (RX11, TX11, 59)) (ci := 10) (j := 0) (p := 0) (by decide +kernel) rfl (by decide) rfl (Or.inl ⟨rfl, rfl⟩) rfl fl_11_118 rfl ?_
  refine A_aload_n (i := 0) (f := 0) (by omega) rfl (by decide +kernel) rfl ?_
  refine A_iload_n (i := 1) (f := 1) rfl (by decide +kernel) rfl ?_
  refine A_cVi (q := (RX11, TX11, 59)) (ci := 10) (o := ((59 : Nat) : Int)) (args := [(0, x1)]) (st := []) (by decide +kernel) cv_m11_isFact rfl rfl in_m11_isFact se_m11_isFact lk_11_321 rfl (by omega) (Nat.le_of_ble_eq_true rfl) h (fun r1 M2 _ h3 => ?_)
  refine A_if_ne (off := 5) (tgt := 15) (by decide +kernel) (by omega) (fun b4 => ?_) (fun b4 => ?_)
  · have h5 := h3.1 b4
    refine A_iload_n (i := 2) (f := 2) rfl (by decide +kernel) rfl ?_
    have hsw : x2 = 0 ∨ x2 = 1 ∨ x2 = 2 ∨ x2 = 3 ∨ x2 = 4 ∨ (x2 < 0 ∨ 4 < x2) := by omega
    rcases hsw with e7 | e7 | e7 | e7 | e7 | e7
    · have h8 := h5.1 e7
      refine A_tin (len := 36) (dflt := 79) (lo := 0) (hi := 4) (offs := #[36, 43, 50, 57, 64]) (off := 36) (tgt := 52) (by decide +kernel) (by omega) (by omega) (by rw [e7]; rfl) (by omega) ?_
      refine A_aload_n (i := 0) (f := 0) (by omega) rfl (by decide +kernel) rfl ?_
      refine B_getr (o' := ((69 : Nat) : Int)) (q := (RX11, TX11, 59)) (ci := 10) (j := 11) (by decide +kernel) rfl (by decide) rfl (by omega) fl_11_37 rfl ?_
      refine A_iload_n (i := 1) (f := 1) rfl (by decide +kernel) rfl ?_
      refine B_iald (v := (M2 69 (x1).toNat)) (by decide +kernel) h8.1 rfl ?_
      have h9 := h8.2
      exact A_ret ⟨by decide +kernel, Or.inl rfl⟩ ⟨_, rfl, h9⟩
    · have h10 := h5.2.1 e7
      refine A_tin (len := 36) (dflt := 79) (lo := 0) (hi := 4) (offs := #[36, 43, 50, 57, 64]) (off := 43) (tgt := 59) (by decide +kernel) (by omega) (by omega) (by rw [e7]; rfl) (by omega) ?_
      refine A_aload_n (i := 0) (f := 0) (by omega) rfl (by decide +kernel) rfl ?_
      refine B_getr (o' := ((70 : Nat) : Int)) (q := (RX11, TX11, 59)) (ci := 10) (j := 12) (by decide +kernel) rfl (by decide) rfl (by omega) fl_11_40 rfl ?_
      refine A_iload_n (i := 1) (f := 1) rfl (by decide +kernel) rfl ?_
      refine B_iald (v := (M2 70 (x1).toNat)) (by decide +kernel) h10.1 rfl ?_
      have h11 := h10.2
      exact A_ret ⟨by decide +kernel, Or.inl rfl⟩ ⟨_, rfl, h11⟩
    · have h12 := h5.2.2.1 e7
      refine A_tin (len := 36) (dflt := 79) (lo := 0) (hi := 4) (offs := #[36, 43, 50, 57, 64]) (off := 50) (tgt := 66) (by decide +kernel) (by omega) (by omega) (by rw [e7]; rfl) (by omega) ?_
      refine A_aload_n (i := 0) (f := 0) (by omega) rfl (by decide +kernel) rfl ?_
      refine B_getr (o' := ((71 : Nat) : Int)) (q := (RX11, TX11, 59)) (ci := 10) (j := 13) (by decide +kernel) rfl (by decide) rfl (by omega) fl_11_43 rfl ?_
      refine A_iload_n (i := 1) (f := 1) rfl (by decide +kernel) rfl ?_
      refine B_iald (v := (M2 71 (x1).toNat)) (by decide +kernel) h12.1 rfl ?_
      have h13 := h12.2
      exact A_ret ⟨by decide +kernel, Or.inl rfl⟩ ⟨_, rfl, h13⟩
    · have h14 := h5.2.2.2.1 e7
      refine A_tin (len := 36) (dflt := 79) (lo := 0) (hi := 4) (offs := #[36, 43, 50, 57, 64]) (off := 57) (tgt := 73) (by decide +kernel) (by omega) (by omega) (by rw [e7]; rfl) (by omega) ?_
      refine A_aload_n (i := 0) (f := 0) (by omega) rfl (by decide +kernel) rfl ?_
      refine B_getr (o' := ((72 : Nat) : Int)) (q := (RX11, TX11, 59)) (ci := 10) (j := 14) (by decide +kernel) rfl (by decide) rfl (by omega) fl_11_46 rfl ?_
      refine A_iload_n (i := 1) (f := 1) rfl (by decide +kernel) rfl ?_
      refine B_iald (v := (M2 72 (x1).toNat)) (by decide +kernel) h14.1 rfl ?_
      have h15 := h14.2
      exact A_ret ⟨by decide +kernel, Or.inl rfl⟩ ⟨_, rfl, h15⟩
    · have h16 := h5.2.2.2.2.1 e7
      refine A_tin (len := 36) (dflt := 79) (lo := 0) (hi := 4) (offs := #[36, 43, 50, 57, 64]) (off := 64) (tgt := 80) (by decide +kernel) (by omega) (by omega) (by rw [e7]; rfl) (by omega) ?_
      refine A_aload_n (i := 0) (f := 0) (by omega) rfl (by decide +kernel) rfl ?_
      refine B_getr (o' := ((73 : Nat) : Int)) (q := (RX11, TX11, 59)) (ci := 10) (j := 15) (by decide +kernel) rfl (by decide) rfl (by omega) fl_11_49 rfl ?_
      refine A_iload_n (i := 1) (f := 1) rfl (by decide +kernel) rfl ?_
      refine B_zald (v := (M2 73 (x1).toNat)) (by decide +kernel) h16.1 rfl ?_
      have h17 := h16.2
      refine A_if_eq (off := 7) (tgt := 93) (by decide +kernel) (by omega) (fun b18 => ?_) (fun b18 => ?_)
      · have h19 := h17.1 b18
        refine A_iconst (a := 0) (by decide +kernel) (by unfold in32; omega) ?_
        exact A_ret ⟨by decide +kernel, Or.inl rfl⟩ ⟨_, rfl, h19⟩
      · have h20 := h17.2 b18
        refine A_iconst (a := 1) (by decide +kernel) (by unfold in32; omega) ?_
        refine A_goto (off := 4) (tgt := 94) (by decide +kernel) (by omega) ?_
        exact A_ret ⟨by decide +kernel, Or.inl rfl⟩ ⟨_, rfl, h20⟩
    · have h21 := h5.2.2.2.2.2 e7
      refine A_tout (len := 36) (dflt := 79) (lo := 0) (hi := 4) (offs := #[36, 43, 50, 57, 64]) (tgt := 95) (by decide +kernel) e7 (by omega) ?_
      refine A_iconst (a := (-1)) (by decide +kernel) (by unfold in32; omega) ?_
      exact A_ret ⟨by decide +kernel, Or.inl rfl⟩ ⟨_, rfl, h21⟩
  · have h6 := h3.2 (Decidable.not_not.mp b4)
    refine A_iconst (a := (-1)) (by decide +kernel) (by unfold in32; omega) ?_
    exact A_ret ⟨by decide +kernel, Or.inl rfl⟩ ⟨_, rfl, h6⟩
theorem q_11_isNext {x1 : Int} {x2 : Int} {M : Mem} {P : Int → Mem → Prop} (h : A m11_isNext 2 0 2 [(20, ((59 : Nat) : Int)), (0, x1), (0, x2), (0, 0)] [] M (Ki P)) : CI m11_isNext 2 [(20, ((59 : Nat) : Int)), (0, x1), (0, x2)] M P := by
  refine CI_of (by decide +kernel) (Nat.le_of_ble_eq_true rfl) ?_
  show A m11_isNext 2 0 0 [(20, ((59 : Nat) : Int)), (0, x1), (0, x2), (2, 0)] [] M (Ki P)
  refine A_iconst (a := 0) (by decide +kernel) (by unfold in32; omega) ?_
  refine A_istore_n (i := 3) (f := 3) rfl (by decide +kernel) (by decide) (fun w h0 hw => by simp at hw; first | (rw [← hw]; decide) | (rw [← hw]; simp)) ?_
  exact A_weak (lsub.keep (lsub.keep (lsub.keep (lsub.keep lsub.nil)))) h
theorem r_11_isNext_2 {x1 : Int} {x2 : Int} {x3 : Int} {M : Mem} {P : Int → Mem → Prop} (h : (((w32 (0 + (M 59 31))) ≤ x3 → (P 0 M)) ∧ (x3 < (w32 (0 + (M 59 31))) → (CI m11_isOf 1 [(20, ((59 : Nat) : Int)), (0, x3), (0, (M 59 32))] M (fun r4 M5 => ((r4 = 0 → A m11_isNext 2 0 2 [(20, ((59 : Nat) : Int)), (0, x1), (0, x2), (0, (w32 (x3 + 1)))] [] M5 (Ki P)) ∧ (r4 ≠ 0 → ((0 ≤ x3 ∧ x3 < 72) ∧ (((M5 71 (x3).toNat) ≠ 0 → A m11_isNext 2 0 2 [(20, ((59 : Nat) : Int)), (0, x1), (0, x2), (0, (w32 (x3 + 1)))] [] M5 (Ki P)) ∧ ((M5 71 (x3).toNat) = 0 → ((0 ≤ x3 ∧ x3 < 72) ∧ (CI m11_pair 1 [(0, x1), (0, (M5 69 (x3).toNat))] M5 (fun r15 M16 => ((0 ≤ r15 ∧ r15 < 25) ∧ (((M16 75 (r15).toNat) = 0 → A m11_isNext 2 0 2 [(20, ((59 : Nat) : Int)), (0, x1), (0, x2), (0, (w32 (x3 + 1)))] [] M16 (Ki P)) ∧ ((M16 75 (r15).toNat) ≠ 0 → ((0 ≤ x3 ∧ x3 < 72) ∧ (CI m11_pair 1 [(0, (M16 70 (x3).toNat)), (0, x2)] M16 (fun r23 M24 => ((0 ≤ r23 ∧ r23 < 25) ∧ (((M24 75 (r23).toNat) = 0 → A m11_isNext 2 0 2 [(20, ((59 : Nat) : Int)), (0, x1), (0, x2), (0, (w32 (x3 + 1)))] [] M24 (Ki P)) ∧ ((M24 75 (r23).toNat) ≠ 0 → (P 1 M24))))))))))))))))))))))) : A m11_isNext 2 0 2 [(20, ((59 : Nat) : Int)), (0, x1), (0, x2), (0, x3)] [] M (Ki P) := by
  refine A_iload_n (i := 3) (f := 3) rfl (by decide +kernel) rfl ?_
  refine A_iconst (a := 0) (by decide +kernel) (by unfold in32; omega) ?_
  refine A_aload_n (i := 0) (f := 0) (by omega) rfl (by decide +kernel) rfl ?_
  refine B_getp (v := (M 59 31)) (q := (RX11, TX11, 59)) (ci := 10) (j := 31) (p := 31) (by decide +kernel) rfl (by decide) rfl (Or.inl rfl) fl_11_289 rfl ?_
  refine A_iadd (by decide +kernel) ?_
  refine A_ic_ge (off := 68) (tgt := 77) (by decide +kernel) (by omega) (fun b1 => ?_) (fun b1 => ?_)
  · have h2 := h.1 b1
    refine A_iconst (a := 0) (by decide +kernel) (by unfold in32; omega) ?_
    exact A_ret ⟨by decide +kernel, Or.inr ⟨rfl, by decide⟩⟩ ⟨_, rfl, h2⟩
  · have h3 := h.2 (Int.not_le.mp b1)
    refine A_aload_n (i := 0) (f := 0) (by omega) rfl (by decide +kernel) rfl ?_
    refine A_iload_n (i := 3) (f := 3) rfl (by decide +kernel) rfl ?_
    refine A_aload_n (i := 0) (f := 0) (by omega) rfl (by decide +kernel) rfl ?_
    refine B_getp (v := (M 59 32)) (q := (RX11, TX11, 59)) (ci := 10) (j := 32) (p := 32) (by decide +kernel) rfl (by decide) rfl (Or.inl rfl) fl_11_296 rfl ?_
    refine A_cVi (q := (RX11, TX11, 59)) (ci := 10) (o := ((59 : Nat) : Int)) (args := [(0, x3), (0, (M 59 32))]) (st := []) (by decide +kernel) cv_m11_isOf rfl rfl in_m11_isOf se_m11_isOf lk_11_245 rfl (by omega) (Nat.le_of_ble_eq_true rfl) h3 (fun r4 M5 _ h6 => ?_)
    refine A_if_eq (off := 50) (tgt := 71) (by decide +kernel) (by omega) (fun b7 => ?_) (fun b7 => ?_)
    · have h8 := h6.1 b7
      refine A_iinc (i := 3) (n := 1) (by decide +kernel) (by decide) rfl (fun w h0 hw => by simp at hw; first | (rw [← hw]; decide) | (rw [← hw]; simp)) ?_
      refine A_goto (off := (-72)) (tgt := 2) (by decide +kernel) (by omega) ?_
      exact A_weak (lsub.keep (lsub.keep (lsub.keep (lsub.keep lsub.nil)))) h8
    · have h9 := h6.2 b7
      refine A_aload_n (i := 0) (f := 0) (by omega) rfl (by decide +kernel) rfl ?_
      refine B_getr (o' := ((71 : Nat) : Int)) (q := (RX11, TX11, 59)) (ci := 10) (j := 13) (by decide +kernel) rfl (by decide) rfl (by omega) fl_11_43 rfl ?_
      refine A_iload_n (i := 3) (f := 3) rfl (by decide +kernel) rfl ?_
      refine B_iald (v := (M5 71 (x3).toNat)) (by decide +kernel) h9.1 rfl ?_
      have h10 := h9.2
      refine A_if_ne (off := 41) (tgt := 71) (by decide +kernel) (by omega) (fun b11 => ?_) (fun b11 => ?_)
      · have h12 := h10.1 b11
        refine A_iinc (i := 3) (n := 1) (by decide +kernel) (by decide) rfl (fun w h0 hw => by simp at hw; first | (rw [← hw]; decide) | (rw [← hw]; simp)) ?_
        refine A_goto (off := (-72)) (tgt := 2) (by decide +kernel) (by omega) ?_
        exact A_weak (lsub.keep (lsub.keep (lsub.keep (lsub.keep lsub.nil)))) h12
      · have h13 := h10.2 (Decidable.not_not.mp b11)
        refine A_aload_n (i := 0) (f := 0) (by omega) rfl (by decide +kernel) rfl ?_
        refine B_getr (o' := ((75 : Nat) : Int)) (q := (RX11, TX11, 59)) (ci := 10) (j := 30) (by decide +kernel) rfl (by decide) rfl (by omega) fl_11_60 rfl ?_
        refine A_iload_n (i := 1) (f := 1) rfl (by decide +kernel) rfl ?_
        refine A_aload_n (i := 0) (f := 0) (by omega) rfl (by decide +kernel) rfl ?_
        refine B_getr (o' := ((69 : Nat) : Int)) (q := (RX11, TX11, 59)) (ci := 10) (j := 11) (by decide +kernel) rfl (by decide) rfl (by omega) fl_11_37 rfl ?_
        refine A_iload_n (i := 3) (f := 3) rfl (by decide +kernel) rfl ?_
        refine B_iald (v := (M5 69 (x3).toNat)) (by decide +kernel) h13.1 rfl ?_
        have h14 := h13.2
        refine A_cSi (args := [(0, x1), (0, (M5 69 (x3).toNat))]) (st := [(31, ((75 : Nat) : Int))]) (by decide +kernel) cv_m11_pair st_m11_pair lk_11_242 rfl (by omega) (Nat.le_of_ble_eq_true rfl) h14 (fun r15 M16 _ h17 => ?_)
        refine B_zald (v := (M16 75 (r15).toNat)) (by decide +kernel) h17.1 rfl ?_
        have h18 := h17.2
        refine A_if_eq (off := 23) (tgt := 71) (by decide +kernel) (by omega) (fun b19 => ?_) (fun b19 => ?_)
        · have h20 := h18.1 b19
          refine A_iinc (i := 3) (n := 1) (by decide +kernel) (by decide) rfl (fun w h0 hw => by simp at hw; first | (rw [← hw]; decide) | (rw [← hw]; simp)) ?_
          refine A_goto (off := (-72)) (tgt := 2) (by decide +kernel) (by omega) ?_
          exact A_weak (lsub.keep (lsub.keep (lsub.keep (lsub.keep lsub.nil)))) h20
        · have h21 := h18.2 b19
          refine A_aload_n (i := 0) (f := 0) (by omega) rfl (by decide +kernel) rfl ?_
          refine B_getr (o' := ((75 : Nat) : Int)) (q := (RX11, TX11, 59)) (ci := 10) (j := 30) (by decide +kernel) rfl (by decide) rfl (by omega) fl_11_60 rfl ?_
          refine A_aload_n (i := 0) (f := 0) (by omega) rfl (by decide +kernel) rfl ?_
          refine B_getr (o' := ((70 : Nat) : Int)) (q := (RX11, TX11, 59)) (ci := 10) (j := 12) (by decide +kernel) rfl (by decide) rfl (by omega) fl_11_40 rfl ?_
          refine A_iload_n (i := 3) (f := 3) rfl (by decide +kernel) rfl ?_
          refine B_iald (v := (M16 70 (x3).toNat)) (by decide +kernel) h21.1 rfl ?_
          have h22 := h21.2
          refine A_iload_n (i := 2) (f := 2) rfl (by decide +kernel) rfl ?_
          refine A_cSi (args := [(0, (M16 70 (x3).toNat)), (0, x2)]) (st := [(31, ((75 : Nat) : Int))]) (by decide +kernel) cv_m11_pair st_m11_pair lk_11_242 rfl (by omega) (Nat.le_of_ble_eq_true rfl) h22 (fun r23 M24 _ h25 => ?_)
          refine B_zald (v := (M24 75 (r23).toNat)) (by decide +kernel) h25.1 rfl ?_
          have h26 := h25.2
          refine A_if_eq (off := 5) (tgt := 71) (by decide +kernel) (by omega) (fun b27 => ?_) (fun b27 => ?_)
          · have h28 := h26.1 b27
            refine A_iinc (i := 3) (n := 1) (by decide +kernel) (by decide) rfl (fun w h0 hw => by simp at hw; first | (rw [← hw]; decide) | (rw [← hw]; simp)) ?_
            refine A_goto (off := (-72)) (tgt := 2) (by decide +kernel) (by omega) ?_
            exact A_weak (lsub.keep (lsub.keep (lsub.keep (lsub.keep lsub.nil)))) h28
          · have h29 := h26.2 b27
            refine A_iconst (a := 1) (by decide +kernel) (by unfold in32; omega) ?_
            exact A_ret ⟨by decide +kernel, Or.inr ⟨rfl, by decide⟩⟩ ⟨_, rfl, h29⟩
theorem q_11_ring {x1 : Int} {x2 : Int} {x3 : Int} {M : Mem} {P : Int → Mem → Prop} (h : (CI m11_areTwo 2 [(20, ((59 : Nat) : Int)), (0, x1), (0, x2)] (mset M 59 0 0) (fun r1 M2 => ((r1 = 0 → (P (-1) M2)) ∧ (r1 ≠ 0 → (((-1) ≤ x3 → (CD m11_layNow 3 [(20, ((59 : Nat) : Int)), (0, (M2 59 32))] M2 (fun M11 => A m11_ring 4 0 32 [(20, ((59 : Nat) : Int)), (0, x1), (0, x2), (0, x3), (0, 0), (2, 0), (2, 0)] [] M11 (Ki P)))) ∧ (x3 < (-1) → (P (-1) M2)))))))) : CI m11_ring 4 [(20, ((59 : Nat) : Int)), (0, x1), (0, x2), (0, x3)] M P := by
  refine CI_of (by decide +kernel) (Nat.le_of_ble_eq_true rfl) ?_
  show A m11_ring 4 0 0 [(20, ((59 : Nat) : Int)), (0, x1), (0, x2), (0, x3), (2, 0), (2, 0), (2, 0)] [] M (Ki P)
  refine A_aload_n (i := 0) (f := 0) (by omega) rfl (by decide +kernel) rfl ?_
  refine A_iconst (a := 0) (by decide +kernel) (by unfold in32; omega) ?_
  refine B_putp (M' := (mset M 59 0 0)) (q := (RX11, TX11, 59)) (ci := 10) (j := 0) (p := 0) (by decide +kernel) rfl (by decide) rfl (Or.inl ⟨rfl, rfl⟩) rfl fl_11_118 rfl ?_
  refine A_aload_n (i := 0) (f := 0) (by omega) rfl (by decide +kernel) rfl ?_
  refine A_iload_n (i := 1) (f := 1) rfl (by decide +kernel) rfl ?_
  refine A_iload_n (i := 2) (f := 2) rfl (by decide +kernel) rfl ?_
  refine A_cVi (q := (RX11, TX11, 59)) (ci := 10) (o := ((59 : Nat) : Int)) (args := [(0, x1), (0, x2)]) (st := []) (by decide +kernel) cv_m11_areTwo rfl rfl in_m11_areTwo se_m11_areTwo lk_11_312 rfl (by omega) (Nat.le_of_ble_eq_true rfl) h (fun r1 M2 _ h3 => ?_)
  refine A_if_eq (off := 8) (tgt := 19) (by decide +kernel) (by omega) (fun b4 => ?_) (fun b4 => ?_)
  · have h5 := h3.1 b4
    refine A_iconst (a := (-1)) (by decide +kernel) (by unfold in32; omega) ?_
    exact A_ret ⟨by decide +kernel, Or.inl rfl⟩ ⟨_, rfl, h5⟩
  · have h6 := h3.2 b4
    refine A_iload_n (i := 3) (f := 3) rfl (by decide +kernel) rfl ?_
    refine A_iconst (a := (-1)) (by decide +kernel) (by unfold in32; omega) ?_
    refine A_ic_ge (off := 5) (tgt := 21) (by decide +kernel) (by omega) (fun b7 => ?_) (fun b7 => ?_)
    · have h8 := h6.1 b7
      refine A_aload_n (i := 0) (f := 0) (by omega) rfl (by decide +kernel) rfl ?_
      refine A_aload_n (i := 0) (f := 0) (by omega) rfl (by decide +kernel) rfl ?_
      refine B_getp (v := (M2 59 32)) (q := (RX11, TX11, 59)) (ci := 10) (j := 32) (p := 32) (by decide +kernel) rfl (by decide) rfl (Or.inl rfl) fl_11_296 rfl ?_
      refine A_cVd (q := (RX11, TX11, 59)) (ci := 10) (o := ((59 : Nat) : Int)) (args := [(0, (M2 59 32))]) (st := []) (by decide +kernel) cv_m11_layNow rfl rfl in_m11_layNow se_m11_layNow lk_11_309 rfl (by omega) (Nat.le_of_ble_eq_true rfl) h8 (fun M11 h12 => ?_)
      refine A_iconst (a := 0) (by decide +kernel) (by unfold in32; omega) ?_
      refine A_istore (i := 4) (by decide +kernel) (by decide) (fun w h0 hw => by simp at hw; first | (rw [← hw]; decide) | (rw [← hw]; simp)) ?_
      exact A_weak (lsub.keep (lsub.keep (lsub.keep (lsub.keep (lsub.keep (lsub.drop (lsub.drop lsub.nil))))))) h12
    · have h9 := h6.2 (Int.not_le.mp b7)
      refine A_iconst (a := (-1)) (by decide +kernel) (by unfold in32; omega) ?_
      exact A_ret ⟨by decide +kernel, Or.inl rfl⟩ ⟨_, rfl, h9⟩
theorem r_11_ring_32 {x1 : Int} {x2 : Int} {x3 : Int} {x4 : Int} {M : Mem} {P : Int → Mem → Prop} (h : ((5 ≤ x4 → A m11_ring 4 0 65 [(20, ((59 : Nat) : Int)), (0, x1), (2, 0), (0, x3), (0, 0), (2, 0), (2, 0)] [] M (Ki P)) ∧ (x4 < 5 → ((x4 ≠ x2 → ((0 ≤ x4 ∧ x4 < 5) ∧ A m11_ring 4 0 32 [(20, ((59 : Nat) : Int)), (0, x1), (0, x2), (0, x3), (0, (w32 (x4 + 1))), (2, 0), (2, 0)] [] (mset M 76 (x4).toNat (-1)) (Ki P))) ∧ (x4 = x2 → ((0 ≤ x4 ∧ x4 < 5) ∧ A m11_ring 4 0 32 [(20, ((59 : Nat) : Int)), (0, x1), (0, x2), (0, x3), (0, (w32 (x4 + 1))), (2, 0), (2, 0)] [] (mset M 76 (x4).toNat 0) (Ki P))))))) : A m11_ring 4 0 32 [(20, ((59 : Nat) : Int)), (0, x1), (0, x2), (0, x3), (0, x4), (2, 0), (2, 0)] [] M (Ki P) := by
  refine A_iload (i := 4) (by decide +kernel) rfl ?_
  refine A_iconst (a := 5) (by decide +kernel) (by unfold in32; omega) ?_
  refine A_ic_ge (off := 27) (tgt := 62) (by decide +kernel) (by omega) (fun b1 => ?_) (fun b1 => ?_)
  · have h2 := h.1 b1
    refine A_iconst (a := 0) (by decide +kernel) (by unfold in32; omega) ?_
    refine A_istore (i := 4) (by decide +kernel) (by decide) (fun w h0 hw => by simp at hw; first | (rw [← hw]; decide) | (rw [← hw]; simp)) ?_
    exact A_weak (lsub.keep (lsub.keep (lsub.drop (lsub.keep (lsub.keep (lsub.drop (lsub.drop lsub.nil))))))) h2
  · have h3 := h.2 (Int.not_le.mp b1)
    refine A_aload_n (i := 0) (f := 0) (by omega) rfl (by decide +kernel) rfl ?_
    refine B_getr (o' := ((76 : Nat) : Int)) (q := (RX11, TX11, 59)) (ci := 10) (j := 36) (by decide +kernel) rfl (by decide) rfl (by omega) fl_11_63 rfl ?_
    refine A_iload (i := 4) (by decide +kernel) rfl ?_
    refine A_iload (i := 4) (by decide +kernel) rfl ?_
    refine A_iload_n (i := 2) (f := 2) rfl (by decide +kernel) rfl ?_
    refine A_ic_ne (off := 7) (tgt := 54) (by decide +kernel) (by omega) (fun b4 => ?_) (fun b4 => ?_)
    · have h5 := h3.1 b4
      refine A_iconst (a := (-1)) (by decide +kernel) (by unfold in32; omega) ?_
      refine B_iast (M' := (mset M 76 (x4).toNat (-1))) (by decide +kernel) h5.1 rfl ?_
      have h7 := h5.2
      refine A_iinc (i := 4) (n := 1) (by decide +kernel) (by decide) rfl (fun w h0 hw => by simp at hw; first | (rw [← hw]; decide) | (rw [← hw]; simp)) ?_
      refine A_goto (off := (-27)) (tgt := 32) (by decide +kernel) (by omega) ?_
      exact A_weak (lsub.keep (lsub.keep (lsub.keep (lsub.keep (lsub.keep (lsub.drop (lsub.drop lsub.nil))))))) h7
    · have h6 := h3.2 (Decidable.not_not.mp b4)
      refine A_iconst (a := 0) (by decide +kernel) (by unfold in32; omega) ?_
      refine A_goto (off := 4) (tgt := 55) (by decide +kernel) (by omega) ?_
      refine B_iast (M' := (mset M 76 (x4).toNat 0)) (by decide +kernel) h6.1 rfl ?_
      have h8 := h6.2
      refine A_iinc (i := 4) (n := 1) (by decide +kernel) (by decide) rfl (fun w h0 hw => by simp at hw; first | (rw [← hw]; decide) | (rw [← hw]; simp)) ?_
      refine A_goto (off := (-27)) (tgt := 32) (by decide +kernel) (by omega) ?_
      exact A_weak (lsub.keep (lsub.keep (lsub.keep (lsub.keep (lsub.keep (lsub.drop (lsub.drop lsub.nil))))))) h8
theorem r_11_ring_65 {x1 : Int} {x3 : Int} {x4 : Int} {M : Mem} {P : Int → Mem → Prop} (h : ((5 ≤ x4 → ((0 ≤ x1 ∧ x1 < 5) ∧ (((M 76 (x1).toNat) ≠ (-1) → ((x3 ≠ (-1) → ((0 ≤ x1 ∧ x1 < 5) ∧ ((x3 ≤ (M 76 (x1).toNat) → A m11_ring 4 0 208 [(20, ((59 : Nat) : Int)), (2, 0), (2, 0), (0, x3), (0, x1), (0, 0), (2, 0)] [] M (Ki P)) ∧ ((M 76 (x1).toNat) < x3 → (P (-2) M))))) ∧ (x3 = (-1) → ((0 ≤ x1 ∧ x1 < 5) ∧ (P (w32 ((M 76 (x1).toNat) + 1)) M))))) ∧ ((M 76 (x1).toNat) = (-1) → (P (-2) M))))) ∧ (x4 < 5 → A m11_ring 4 0 74 [(20, ((59 : Nat) : Int)), (0, x1), (2, 0), (0, x3), (0, x4), (0, 0), (2, 0)] [] M (Ki P)))) : A m11_ring 4 0 65 [(20, ((59 : Nat) : Int)), (0, x1), (2, 0), (0, x3), (0, x4), (2, 0), (2, 0)] [] M (Ki P) := by
  refine A_iload (i := 4) (by decide +kernel) rfl ?_
  refine A_iconst (a := 5) (by decide +kernel) (by unfold in32; omega) ?_
  refine A_ic_ge (off := 94) (tgt := 162) (by decide +kernel) (by omega) (fun b1 => ?_) (fun b1 => ?_)
  · have h2 := h.1 b1
    refine A_aload_n (i := 0) (f := 0) (by omega) rfl (by decide +kernel) rfl ?_
    refine B_getr (o' := ((76 : Nat) : Int)) (q := (RX11, TX11, 59)) (ci := 10) (j := 36) (by decide +kernel) rfl (by decide) rfl (by omega) fl_11_63 rfl ?_
    refine A_iload_n (i := 1) (f := 1) rfl (by decide +kernel) rfl ?_
    refine B_iald (v := (M 76 (x1).toNat)) (by decide +kernel) h2.1 rfl ?_
    have h4 := h2.2
    refine A_iconst (a := (-1)) (by decide +kernel) (by unfold in32; omega) ?_
    refine A_ic_ne (off := 6) (tgt := 175) (by decide +kernel) (by omega) (fun b5 => ?_) (fun b5 => ?_)
    · have h6 := h4.1 b5
      refine A_iload_n (i := 3) (f := 3) rfl (by decide +kernel) rfl ?_
      refine A_iconst (a := (-1)) (by decide +kernel) (by unfold in32; omega) ?_
      refine A_ic_ne (off := 12) (tgt := 189) (by decide +kernel) (by omega) (fun b8 => ?_) (fun b8 => ?_)
      · have h9 := h6.1 b8
        refine A_iload_n (i := 3) (f := 3) rfl (by decide +kernel) rfl ?_
        refine A_aload_n (i := 0) (f := 0) (by omega) rfl (by decide +kernel) rfl ?_
        refine B_getr (o' := ((76 : Nat) : Int)) (q := (RX11, TX11, 59)) (ci := 10) (j := 36) (by decide +kernel) rfl (by decide) rfl (by omega) fl_11_63 rfl ?_
        refine A_iload_n (i := 1) (f := 1) rfl (by decide +kernel) rfl ?_
        refine B_iald (v := (M 76 (x1).toNat)) (by decide +kernel) h9.1 rfl ?_
        have h11 := h9.2
        refine A_ic_le (off := 6) (tgt := 202) (by decide +kernel) (by omega) (fun b12 => ?_) (fun b12 => ?_)
        · have h13 := h11.1 b12
          refine A_iload_n (i := 1) (f := 1) rfl (by decide +kernel) rfl ?_
          refine A_istore (i := 4) (by decide +kernel) (by decide) (fun w h0 hw => by simp at hw; first | (rw [← hw]; decide) | (rw [← hw]; simp)) ?_
          refine A_iconst (a := 0) (by decide +kernel) (by unfold in32; omega) ?_
          refine A_istore (i := 5) (by decide +kernel) (by decide) (fun w h0 hw => by simp at hw; first | (rw [← hw]; decide) | (rw [← hw]; simp)) ?_
          exact A_weak (lsub.keep (lsub.drop (lsub.drop (lsub.keep (lsub.keep (lsub.keep (lsub.drop lsub.nil))))))) h13
        · have h14 := h11.2 (Int.not_le.mp b12)
          refine A_bipush (a := (-2)) (by decide +kernel) (by unfold in32; omega) (by decide +kernel) ?_
          exact A_ret ⟨by decide +kernel, Or.inl rfl⟩ ⟨_, rfl, h14⟩
      · have h10 := h6.2 (Decidable.not_not.mp b8)
        refine A_aload_n (i := 0) (f := 0) (by omega) rfl (by decide +kernel) rfl ?_
        refine B_getr (o' := ((76 : Nat) : Int)) (q := (RX11, TX11, 59)) (ci := 10) (j := 36) (by decide +kernel) rfl (by decide) rfl (by omega) fl_11_63 rfl ?_
        refine A_iload_n (i := 1) (f := 1) rfl (by decide +kernel) rfl ?_
        refine B_iald (v := (M 76 (x1).toNat)) (by decide +kernel) h10.1 rfl ?_
        have h15 := h10.2
        refine A_iconst (a := 1) (by decide +kernel) (by unfold in32; omega) ?_
        refine A_iadd (by decide +kernel) ?_
        exact A_ret ⟨by decide +kernel, Or.inl rfl⟩ ⟨_, rfl, h15⟩
    · have h7 := h4.2 (Decidable.not_not.mp b5)
      refine A_bipush (a := (-2)) (by decide +kernel) (by unfold in32; omega) (by decide +kernel) ?_
      exact A_ret ⟨by decide +kernel, Or.inl rfl⟩ ⟨_, rfl, h7⟩
  · have h3 := h.2 (Int.not_le.mp b1)
    refine A_iconst (a := 0) (by decide +kernel) (by unfold in32; omega) ?_
    refine A_istore (i := 5) (by decide +kernel) (by decide) (fun w h0 hw => by simp at hw; first | (rw [← hw]; decide) | (rw [← hw]; simp)) ?_
    exact A_weak (lsub.keep (lsub.keep (lsub.drop (lsub.keep (lsub.keep (lsub.keep (lsub.drop lsub.nil))))))) h3
theorem r_11_ring_74 {x1 : Int} {x3 : Int} {x4 : Int} {x5 : Int} {M : Mem} {P : Int → Mem → Prop} (h : (((M 61 0) ≤ x5 → A m11_ring 4 0 65 [(20, ((59 : Nat) : Int)), (0, x1), (2, 0), (0, x3), (0, (w32 (x4 + 1))), (2, 0), (2, 0)] [] M (Ki P)) ∧ (x5 < (M 61 0) → A m11_ring 4 0 88 [(20, ((59 : Nat) : Int)), (0, x1), (2, 0), (0, x3), (0, x4), (0, x5), (0, 0)] [] M (Ki P)))) : A m11_ring 4 0 74 [(20, ((59 : Nat) : Int)), (0, x1), (2, 0), (0, x3), (0, x4), (0, x5), (2, 0)] [] M (Ki P) := by
  refine A_iload (i := 5) (by decide +kernel) rfl ?_
  refine A_aload_n (i := 0) (f := 0) (by omega) rfl (by decide +kernel) rfl ?_
  refine B_getr (o' := ((61 : Nat) : Int)) (q := (RX11, TX11, 59)) (ci := 10) (j := 3) (by decide +kernel) rfl (by decide) rfl (by omega) fl_11_13 rfl ?_
  refine A_iconst (a := 0) (by decide +kernel) (by unfold in32; omega) ?_
  refine B_iald (v := (M 61 0)) (by decide +kernel) (by decide) rfl ?_
  refine A_ic_ge (off := 74) (tgt := 156) (by decide +kernel) (by omega) (fun b1 => ?_) (fun b1 => ?_)
  · have h2 := h.1 b1
    refine A_iinc (i := 4) (n := 1) (by decide +kernel) (by decide) rfl (fun w h0 hw => by simp at hw; first | (rw [← hw]; decide) | (rw [← hw]; simp)) ?_
    refine A_goto (off := (-94)) (tgt := 65) (by decide +kernel) (by omega) ?_
    exact A_weak (lsub.keep (lsub.keep (lsub.drop (lsub.keep (lsub.keep (lsub.drop (lsub.drop lsub.nil))))))) h2
  · have h3 := h.2 (Int.not_le.mp b1)
    refine A_iconst (a := 0) (by decide +kernel) (by unfold in32; omega) ?_
    refine A_istore (i := 6) (by decide +kernel) (by decide) (fun w h0 hw => by simp at hw; first | (rw [← hw]; decide) | (rw [← hw]; simp)) ?_
    exact A_weak (lsub.keep (lsub.keep (lsub.drop (lsub.keep (lsub.keep (lsub.keep (lsub.keep lsub.nil))))))) h3
theorem r_11_ring_88 {x1 : Int} {x3 : Int} {x4 : Int} {x5 : Int} {x6 : Int} {M : Mem} {P : Int → Mem → Prop} (h : (((M 61 0) ≤ x6 → A m11_ring 4 0 74 [(20, ((59 : Nat) : Int)), (0, x1), (2, 0), (0, x3), (0, x4), (0, (w32 (x5 + 1))), (2, 0)] [] M (Ki P)) ∧ (x6 < (M 61 0) → ((0 ≤ x5 ∧ x5 < 5) ∧ (((M 76 (x5).toNat) ≠ (-1) → A m11_ring 4 0 74 [(20, ((59 : Nat) : Int)), (0, x1), (2, 0), (0, x3), (0, x4), (0, (w32 (x5 + 1))), (2, 0)] [] M (Ki P)) ∧ ((M 76 (x5).toNat) = (-1) → ((0 ≤ x6 ∧ x6 < 5) ∧ (((M 76 (x6).toNat) ≠ x4 → A m11_ring 4 0 88 [(20, ((59 : Nat) : Int)), (0, x1), (2, 0), (0, x3), (0, x4), (0, x5), (0, (w32 (x6 + 1)))] [] M (Ki P)) ∧ ((M 76 (x6).toNat) = x4 → (CI m11_isNext 2 [(20, ((59 : Nat) : Int)), (0, x5), (0, x6)] M (fun r12 M13 => ((r12 = 0 → A m11_ring 4 0 88 [(20, ((59 : Nat) : Int)), (0, x1), (2, 0), (0, x3), (0, x4), (0, x5), (0, (w32 (x6 + 1)))] [] M13 (Ki P)) ∧ (r12 ≠ 0 → ((0 ≤ x5 ∧ x5 < 5) ∧ A m11_ring 4 0 88 [(20, ((59 : Nat) : Int)), (0, x1), (2, 0), (0, x3), (0, x4), (0, x5), (0, (w32 (x6 + 1)))] [] (mset M13 76 (x5).toNat (w32 (x4 + 1))) (Ki P))))))))))))))) : A m11_ring 4 0 88 [(20, ((59 : Nat) : Int)), (0, x1), (2, 0), (0, x3), (0, x4), (0, x5), (0, x6)] [] M (Ki P) := by
  refine A_iload (i := 6) (by decide +kernel) rfl ?_
  refine A_aload_n (i := 0) (f := 0) (by omega) rfl (by decide +kernel) rfl ?_
  refine B_getr (o' := ((61 : Nat) : Int)) (q := (RX11, TX11, 59)) (ci := 10) (j := 3) (by decide +kernel) rfl (by decide) rfl (by omega) fl_11_13 rfl ?_
  refine A_iconst (a := 0) (by decide +kernel) (by unfold in32; omega) ?_
  refine B_iald (v := (M 61 0)) (by decide +kernel) (by decide) rfl ?_
  refine A_ic_ge (off := 54) (tgt := 150) (by decide +kernel) (by omega) (fun b1 => ?_) (fun b1 => ?_)
  · have h2 := h.1 b1
    refine A_iinc (i := 5) (n := 1) (by decide +kernel) (by decide) rfl (fun w h0 hw => by simp at hw; first | (rw [← hw]; decide) | (rw [← hw]; simp)) ?_
    refine A_goto (off := (-79)) (tgt := 74) (by decide +kernel) (by omega) ?_
    exact A_weak (lsub.keep (lsub.keep (lsub.drop (lsub.keep (lsub.keep (lsub.keep (lsub.drop lsub.nil))))))) h2
  · have h3 := h.2 (Int.not_le.mp b1)
    refine A_aload_n (i := 0) (f := 0) (by omega) rfl (by decide +kernel) rfl ?_
    refine B_getr (o' := ((76 : Nat) : Int)) (q := (RX11, TX11, 59)) (ci := 10) (j := 36) (by decide +kernel) rfl (by decide) rfl (by omega) fl_11_63 rfl ?_
    refine A_iload (i := 5) (by decide +kernel) rfl ?_
    refine B_iald (v := (M 76 (x5).toNat)) (by decide +kernel) h3.1 rfl ?_
    have h4 := h3.2
    refine A_iconst (a := (-1)) (by decide +kernel) (by unfold in32; omega) ?_
    refine A_ic_ne (off := 43) (tgt := 150) (by decide +kernel) (by omega) (fun b5 => ?_) (fun b5 => ?_)
    · have h6 := h4.1 b5
      refine A_iinc (i := 5) (n := 1) (by decide +kernel) (by decide) rfl (fun w h0 hw => by simp at hw; first | (rw [← hw]; decide) | (rw [← hw]; simp)) ?_
      refine A_goto (off := (-79)) (tgt := 74) (by decide +kernel) (by omega) ?_
      exact A_weak (lsub.keep (lsub.keep (lsub.drop (lsub.keep (lsub.keep (lsub.keep (lsub.drop lsub.nil))))))) h6
    · have h7 := h4.2 (Decidable.not_not.mp b5)
      refine A_aload_n (i := 0) (f := 0) (by omega) rfl (by decide +kernel) rfl ?_
      refine B_getr (o' := ((76 : Nat) : Int)) (q := (RX11, TX11, 59)) (ci := 10) (j := 36) (by decide +kernel) rfl (by decide) rfl (by omega) fl_11_63 rfl ?_
      refine A_iload (i := 6) (by decide +kernel) rfl ?_
      refine B_iald (v := (M 76 (x6).toNat)) (by decide +kernel) h7.1 rfl ?_
      have h8 := h7.2
      refine A_iload (i := 4) (by decide +kernel) rfl ?_
      refine A_ic_ne (off := 25) (tgt := 144) (by decide +kernel) (by omega) (fun b9 => ?_) (fun b9 => ?_)
      · have h10 := h8.1 b9
        refine A_iinc (i := 6) (n := 1) (by decide +kernel) (by decide) rfl (fun w h0 hw => by simp at hw; first | (rw [← hw]; decide) | (rw [← hw]; simp)) ?_
        refine A_goto (off := (-59)) (tgt := 88) (by decide +kernel) (by omega) ?_
        exact A_weak (lsub.keep (lsub.keep (lsub.drop (lsub.keep (lsub.keep (lsub.keep (lsub.keep lsub.nil))))))) h10
      · have h11 := h8.2 (Decidable.not_not.mp b9)
        refine A_aload_n (i := 0) (f := 0) (by omega) rfl (by decide +kernel) rfl ?_
        refine A_iload (i := 5) (by decide +kernel) rfl ?_
        refine A_iload (i := 6) (by decide +kernel) rfl ?_
        refine A_cVi (q := (RX11, TX11, 59)) (ci := 10) (o := ((59 : Nat) : Int)) (args := [(0, x5), (0, x6)]) (st := []) (by decide +kernel) cv_m11_isNext rfl rfl in_m11_isNext se_m11_isNext lk_11_324 rfl (by omega) (Nat.le_of_ble_eq_true rfl) h11 (fun r12 M13 _ h14 => ?_)
        refine A_if_eq (off := 14) (tgt := 144) (by decide +kernel) (by omega) (fun b15 => ?_) (fun b15 => ?_)
        · have h16 := h14.1 b15
          refine A_iinc (i := 6) (n := 1) (by decide +kernel) (by decide) rfl (fun w h0 hw => by simp at hw; first | (rw [← hw]; decide) | (rw [← hw]; simp)) ?_
          refine A_goto (off := (-59)) (tgt := 88) (by decide +kernel) (by omega) ?_
          exact A_weak (lsub.keep (lsub.keep (lsub.drop (lsub.keep (lsub.keep (lsub.keep (lsub.keep lsub.nil))))))) h16
        · have h17 := h14.2 b15
          refine A_aload_n (i := 0) (f := 0) (by omega) rfl (by decide +kernel) rfl ?_
          refine B_getr (o' := ((76 : Nat) : Int)) (q := (RX11, TX11, 59)) (ci := 10) (j := 36) (by decide +kernel) rfl (by decide) rfl (by omega) fl_11_63 rfl ?_
          refine A_iload (i := 5) (by decide +kernel) rfl ?_
          refine A_iload (i := 4) (by decide +kernel) rfl ?_
          refine A_iconst (a := 1) (by decide +kernel) (by unfold in32; omega) ?_
          refine A_iadd (by decide +kernel) ?_
          refine B_iast (M' := (mset M13 76 (x5).toNat (w32 (x4 + 1)))) (by decide +kernel) h17.1 rfl ?_
          have h18 := h17.2
          refine A_iinc (i := 6) (n := 1) (by decide +kernel) (by decide) rfl (fun w h0 hw => by simp at hw; first | (rw [← hw]; decide) | (rw [← hw]; simp)) ?_
          refine A_goto (off := (-59)) (tgt := 88) (by decide +kernel) (by omega) ?_
          exact A_weak (lsub.keep (lsub.keep (lsub.drop (lsub.keep (lsub.keep (lsub.keep (lsub.keep lsub.nil))))))) h18
theorem r_11_ring_208 {x3 : Int} {x4 : Int} {x5 : Int} {M : Mem} {P : Int → Mem → Prop} (h : ((x3 ≤ x5 → (P x4 M)) ∧ (x5 < x3 → A m11_ring 4 0 217 [(20, ((59 : Nat) : Int)), (2, 0), (2, 0), (0, x3), (0, x4), (0, x5), (0, 0)] [] M (Ki P)))) : A m11_ring 4 0 208 [(20, ((59 : Nat) : Int)), (2, 0), (2, 0), (0, x3), (0, x4), (0, x5), (2, 0)] [] M (Ki P) := by
  refine A_iload (i := 5) (by decide +kernel) rfl ?_
  refine A_iload_n (i := 3) (f := 3) rfl (by decide +kernel) rfl ?_
  refine A_ic_ge (off := 52) (tgt := 263) (by decide +kernel) (by omega) (fun b1 => ?_) (fun b1 => ?_)
  · have h2 := h.1 b1
    refine A_iload (i := 4) (by decide +kernel) rfl ?_
    exact A_ret ⟨by decide +kernel, Or.inl rfl⟩ ⟨_, rfl, h2⟩
  · have h3 := h.2 (Int.not_le.mp b1)
    refine A_iconst (a := 0) (by decide +kernel) (by unfold in32; omega) ?_
    refine A_istore (i := 6) (by decide +kernel) (by decide) (fun w h0 hw => by simp at hw; first | (rw [← hw]; decide) | (rw [← hw]; simp)) ?_
    exact A_weak (lsub.keep (lsub.drop (lsub.drop (lsub.keep (lsub.keep (lsub.keep (lsub.keep lsub.nil))))))) h3
theorem r_11_ring_217 {x3 : Int} {x4 : Int} {x5 : Int} {x6 : Int} {M : Mem} {P : Int → Mem → Prop} (h : ((0 ≤ x6 ∧ x6 < 5) ∧ ((0 ≤ x4 ∧ x4 < 5) ∧ (((M 76 (x6).toNat) ≠ (w32 ((M 76 (x4).toNat) - 1)) → A m11_ring 4 0 217 [(20, ((59 : Nat) : Int)), (2, 0), (2, 0), (0, x3), (0, x4), (0, x5), (0, (w32 (x6 + 1)))] [] M (Ki P)) ∧ ((M 76 (x6).toNat) = (w32 ((M 76 (x4).toNat) - 1)) → (CI m11_isNext 2 [(20, ((59 : Nat) : Int)), (0, x4), (0, x6)] M (fun r6 M7 => ((r6 ≠ 0 → A m11_ring 4 0 208 [(20, ((59 : Nat) : Int)), (2, 0), (2, 0), (0, x3), (0, x6), (0, (w32 (x5 + 1))), (2, 0)] [] M7 (Ki P)) ∧ (r6 = 0 → A m11_ring 4 0 217 [(20, ((59 : Nat) : Int)), (2, 0), (2, 0), (0, x3), (0, x4), (0, x5), (0, (w32 (x6 + 1)))] [] M7 (Ki P)))))))))) : A m11_ring 4 0 217 [(20, ((59 : Nat) : Int)), (2, 0), (2, 0), (0, x3), (0, x4), (0, x5), (0, x6)] [] M (Ki P) := by
  refine A_aload_n (i := 0) (f := 0) (by omega) rfl (by decide +kernel) rfl ?_
  refine B_getr (o' := ((76 : Nat) : Int)) (q := (RX11, TX11, 59)) (ci := 10) (j := 36) (by decide +kernel) rfl (by decide) rfl (by omega) fl_11_63 rfl ?_
  refine A_iload (i := 6) (by decide +kernel) rfl ?_
  refine B_iald (v := (M 76 (x6).toNat)) (by decide +kernel) h.1 rfl ?_
  have h1 := h.2
  refine A_aload_n (i := 0) (f := 0) (by omega) rfl (by decide +kernel) rfl ?_
  refine B_getr (o' := ((76 : Nat) : Int)) (q := (RX11, TX11, 59)) (ci := 10) (j := 36) (by decide +kernel) rfl (by decide) rfl (by omega) fl_11_63 rfl ?_
  refine A_iload (i := 4) (by decide +kernel) rfl ?_
  refine B_iald (v := (M 76 (x4).toNat)) (by decide +kernel) h1.1 rfl ?_
  have h2 := h1.2
  refine A_iconst (a := 1) (by decide +kernel) (by unfold in32; omega) ?_
  refine A_isub (by decide +kernel) ?_
  refine A_ic_ne (off := 14) (tgt := 247) (by decide +kernel) (by omega) (fun b3 => ?_) (fun b3 => ?_)
  · have h4 := h2.1 b3
    refine A_iinc (i := 6) (n := 1) (by decide +kernel) (by decide) rfl (fun w h0 hw => by simp at hw; first | (rw [← hw]; decide) | (rw [← hw]; simp)) ?_
    refine A_goto (off := (-33)) (tgt := 217) (by decide +kernel) (by omega) ?_
    exact A_weak (lsub.keep (lsub.drop (lsub.drop (lsub.keep (lsub.keep (lsub.keep (lsub.keep lsub.nil))))))) h4
  · have h5 := h2.2 (Decidable.not_not.mp b3)
    refine A_aload_n (i := 0) (f := 0) (by omega) rfl (by decide +kernel) rfl ?_
    refine A_iload (i := 4) (by decide +kernel) rfl ?_
    refine A_iload (i := 6) (by decide +kernel) rfl ?_
    refine A_cVi (q := (RX11, TX11, 59)) (ci := 10) (o := ((59 : Nat) : Int)) (args := [(0, x4), (0, x6)]) (st := []) (by decide +kernel) cv_m11_isNext rfl rfl in_m11_isNext se_m11_isNext lk_11_324 rfl (by omega) (Nat.le_of_ble_eq_true rfl) h5 (fun r6 M7 _ h8 => ?_)
    refine A_if_ne (off := 9) (tgt := 253) (by decide +kernel) (by omega) (fun b9 => ?_) (fun b9 => ?_)
    · have h10 := h8.1 b9
      refine A_iload (i := 6) (by decide +kernel) rfl ?_
      refine A_istore (i := 4) (by decide +kernel) (by decide) (fun w h0 hw => by simp at hw; first | (rw [← hw]; decide) | (rw [← hw]; simp)) ?_
      refine A_iinc (i := 5) (n := 1) (by decide +kernel) (by decide) rfl (fun w h0 hw => by simp at hw; first | (rw [← hw]; decide) | (rw [← hw]; simp)) ?_
      refine A_goto (off := (-52)) (tgt := 208) (by decide +kernel) (by omega) ?_
      exact A_weak (lsub.keep (lsub.drop (lsub.drop (lsub.keep (lsub.keep (lsub.keep (lsub.drop lsub.nil))))))) h10
    · have h11 := h8.2 (Decidable.not_not.mp b9)
      refine A_iinc (i := 6) (n := 1) (by decide +kernel) (by decide) rfl (fun w h0 hw => by simp at hw; first | (rw [← hw]; decide) | (rw [← hw]; simp)) ?_
      refine A_goto (off := (-33)) (tgt := 217) (by decide +kernel) (by omega) ?_
      exact A_weak (lsub.keep (lsub.drop (lsub.drop (lsub.keep (lsub.keep (lsub.keep (lsub.keep lsub.nil))))))) h11
theorem q_11_is {x0 : Int} {M : Mem} {P : Int → Mem → Prop} (h : ((x0 = 0 → (P 0 M)) ∧ (x0 ≠ 0 → (P 1 M)))) : CL m11_is 1 [(0, x0)] M P := by
  refine CL_of (by decide +kernel) (Nat.le_of_ble_eq_true rfl) ?_
  show A m11_is 1 0 0 [(0, x0)] [] M (Kl P)
  refine A_iload_n (i := 0) (f := 0) rfl (by decide +kernel) rfl ?_
  refine A_if_eq (off := 7) (tgt := 8) (by decide +kernel) (by omega) (fun b1 => ?_) (fun b1 => ?_)
  · have h2 := h.1 b1
    refine A_lconst (n := 0) (a := 0) (by decide +kernel) (by unfold in64; omega) (by decide +kernel) ?_
    exact A_ret ⟨by decide +kernel, rfl⟩ ⟨_, rfl, h2⟩
  · have h3 := h.2 b1
    refine A_lconst (n := 1) (a := 1) (by decide +kernel) (by unfold in64; omega) (by decide +kernel) ?_
    refine A_goto (off := 4) (tgt := 9) (by decide +kernel) (by omega) ?_
    exact A_ret ⟨by decide +kernel, rfl⟩ ⟨_, rfl, h3⟩
