/-! CourtTongue$Formulas: its regions (made by wip/whole/gall.py) -/
theorem q_3_clear {o : Nat} {M : Mem} {P : Mem → Prop} (h : (P (mset (mset M o 4 0) o 5 0))) : CD m3_clear 1 [(13, (o : Int))] M P := by
  refine CD_of (by decide +kernel) (Nat.le_of_ble_eq_true rfl) ?_
  show A m3_clear 1 0 0 [(13, (o : Int))] [] M (Kd P)
  refine A_aload_n (i := 0) (f := 0) (by omega) rfl (by decide +kernel) rfl ?_
  refine A_iconst (a := 0) (by decide +kernel) (by unfold in32; omega) ?_
  refine B_putp (M' := (mset M o 4 0)) (q := (RX3, TX3, 6)) (ci := 3) (j := 4) (p := 4) (by decide +kernel) rfl (by decide) rfl (Or.inl ⟨rfl, rfl⟩) rfl fl_3_25 rfl ?_
  refine A_aload_n (i := 0) (f := 0) (by omega) rfl (by decide +kernel) rfl ?_
  refine A_iconst (a := 0) (by decide +kernel) (by unfold in32; omega) ?_
  refine B_putp (M' := (mset (mset M o 4 0) o 5 0)) (q := (RX3, TX3, 6)) (ci := 3) (j := 5) (p := 5) (by decide +kernel) rfl (by decide) rfl (Or.inl ⟨rfl, rfl⟩) rfl fl_3_29 rfl ?_
  exact A_ret ⟨by decide +kernel, rfl⟩ ⟨rfl, h⟩
theorem q_3_take {o : Nat} {p1 : Nat} {M : Mem} {P : Mem → Prop} (h : ((64 ≤ ((aln (p1 + 1) : Nat) : Int) ∧ 64 ≤ ((aln (o + 1) : Nat) : Int)) ∧ ((6 ≤ ((aln (p1 + 2) : Nat) : Int) ∧ 6 ≤ ((aln (o + 2) : Nat) : Int)) ∧ ((6 ≤ ((aln (p1 + 3) : Nat) : Int) ∧ 6 ≤ ((aln (o + 3) : Nat) : Int)) ∧ (P (mset (mset (mcpy (mcpy (mcpy M (p1 + 1) (o + 1) 64) (p1 + 2) (o + 2) 6) (p1 + 3) (o + 3) 6) o 4 ((mcpy (mcpy (mcpy M (p1 + 1) (o + 1) 64) (p1 + 2) (o + 2) 6) (p1 + 3) (o + 3) 6) p1 4)) o 5 ((mset (mcpy (mcpy (mcpy M (p1 + 1) (o + 1) 64) (p1 + 2) (o + 2) 6) (p1 + 3) (o + 3) 6) o 4 ((mcpy (mcpy (mcpy M (p1 + 1) (o + 1) 64) (p1 + 2) (o + 2) 6) (p1 + 3) (o + 3) 6) p1 4)) p1 5))))))) : CD m3_take 2 [(13, (o : Int)), (13, (p1 : Int))] M P := by
  refine CD_of (by decide +kernel) (Nat.le_of_ble_eq_true rfl) ?_
  show A m3_take 2 0 0 [(13, (o : Int)), (13, (p1 : Int))] [] M (Kd P)
  refine A_aload_n (i := 1) (f := 1) (by omega) rfl (by decide +kernel) rfl ?_
  refine B_getr (o' := ((p1 + 1 : Nat) : Int)) (q := (RX3, TX3, 6)) (ci := 3) (j := 0) (by decide +kernel) rfl (by decide) rfl (by omega) fl_3_9 rfl ?_
  refine A_iconst (a := 0) (by decide +kernel) (by unfold in32; omega) ?_
  refine A_aload_n (i := 0) (f := 0) (by omega) rfl (by decide +kernel) rfl ?_
  refine B_getr (o' := ((o + 1 : Nat) : Int)) (q := (RX3, TX3, 6)) (ci := 3) (j := 0) (by decide +kernel) rfl (by decide) rfl (by omega) fl_3_9 rfl ?_
  refine A_iconst (a := 0) (by decide +kernel) (by unfold in32; omega) ?_
  refine A_bipush (a := 64) (by decide +kernel) (by unfold in32; omega) (by decide +kernel) ?_
  refine B_copy (M' := (mcpy M (p1 + 1) (o + 1) 64)) (by decide +kernel) (by omega) (Nat.le_of_ble_eq_true rfl) lk_3_32 jna_copy jst_copy jin_sys ⟨by omega, h.1.1, h.1.2⟩ rfl ?_
  have h1 := h.2
  refine A_aload_n (i := 1) (f := 1) (by omega) rfl (by decide +kernel) rfl ?_
  refine B_getr (o' := ((p1 + 2 : Nat) : Int)) (q := (RX3, TX3, 6)) (ci := 3) (j := 1) (by decide +kernel) rfl (by decide) rfl (by omega) fl_3_15 rfl ?_
  refine A_iconst (a := 0) (by decide +kernel) (by unfold in32; omega) ?_
  refine A_aload_n (i := 0) (f := 0) (by omega) rfl (by decide +kernel) rfl ?_
  refine B_getr (o' := ((o + 2 : Nat) : Int)) (q := (RX3, TX3, 6)) (ci := 3) (j := 1) (by decide +kernel) rfl (by decide) rfl (by omega) fl_3_15 rfl ?_
  refine A_iconst (a := 0) (by decide +kernel) (by unfold in32; omega) ?_
  refine A_bipush (a := 6) (by decide +kernel) (by unfold in32; omega) (by decide +kernel) ?_
  refine B_copy (M' := (mcpy (mcpy M (p1 + 1) (o + 1) 64) (p1 + 2) (o + 2) 6)) (by decide +kernel) (by omega) (Nat.le_of_ble_eq_true rfl) lk_3_32 jna_copy jst_copy jin_sys ⟨by omega, h1.1.1, h1.1.2⟩ rfl ?_
  have h2 := h1.2
  refine A_aload_n (i := 1) (f := 1) (by omega) rfl (by decide +kernel) rfl ?_
  refine B_getr (o' := ((p1 + 3 : Nat) : Int)) (q := (RX3, TX3, 6)) (ci := 3) (j := 2) (by decide +kernel) rfl (by decide) rfl (by omega) fl_3_18 rfl ?_
  refine A_iconst (a := 0) (by decide +kernel) (by unfold in32; omega) ?_
  refine A_aload_n (i := 0) (f := 0) (by omega) rfl (by decide +kernel) rfl ?_
  refine B_getr (o' := ((o + 3 : Nat) : Int)) (q := (RX3, TX3, 6)) (ci := 3) (j := 2) (by decide +kernel) rfl (by decide) rfl (by omega) fl_3_18 rfl ?_
  refine A_iconst (a := 0) (by decide +kernel) (by unfold in32; omega) ?_
  refine A_bipush (a := 6) (by decide +kernel) (by unfold in32; omega) (by decide +kernel) ?_
  refine B_copy (M' := (mcpy (mcpy (mcpy M (p1 + 1) (o + 1) 64) (p1 + 2) (o + 2) 6) (p1 + 3) (o + 3) 6)) (by decide +kernel) (by omega) (Nat.le_of_ble_eq_true rfl) lk_3_32 jna_copy jst_copy jin_sys ⟨by omega, h2.1.1, h2.1.2⟩ rfl ?_
  have h3 := h2.2
  refine A_aload_n (i := 0) (f := 0) (by omega) rfl (by decide +kernel) rfl ?_
  refine A_aload_n (i := 1) (f := 1) (by omega) rfl (by decide +kernel) rfl ?_
  refine B_getp (v := ((mcpy (mcpy (mcpy M (p1 + 1) (o + 1) 64) (p1 + 2) (o + 2) 6) (p1 + 3) (o + 3) 6) p1 4)) (q := (RX3, TX3, 6)) (ci := 3) (j := 4) (p := 4) (by decide +kernel) rfl (by decide) rfl (Or.inl rfl) fl_3_25 rfl ?_
  refine B_putp (M' := (mset (mcpy (mcpy (mcpy M (p1 + 1) (o + 1) 64) (p1 + 2) (o + 2) 6) (p1 + 3) (o + 3) 6) o 4 ((mcpy (mcpy (mcpy M (p1 + 1) (o + 1) 64) (p1 + 2) (o + 2) 6) (p1 + 3) (o + 3) 6) p1 4))) (q := (RX3, TX3, 6)) (ci := 3) (j := 4) (p := 4) (by decide +kernel) rfl (by decide) rfl (Or.inl ⟨rfl, rfl⟩) rfl fl_3_25 rfl ?_
  refine A_aload_n (i := 0) (f := 0) (by omega) rfl (by decide +kernel) rfl ?_
  refine A_aload_n (i := 1) (f := 1) (by omega) rfl (by decide +kernel) rfl ?_
  refine B_getp (v := ((mset (mcpy (mcpy (mcpy M (p1 + 1) (o + 1) 64) (p1 + 2) (o + 2) 6) (p1 + 3) (o + 3) 6) o 4 ((mcpy (mcpy (mcpy M (p1 + 1) (o + 1) 64) (p1 + 2) (o + 2) 6) (p1 + 3) (o + 3) 6) p1 4)) p1 5)) (q := (RX3, TX3, 6)) (ci := 3) (j := 5) (p := 5) (by decide +kernel) rfl (by decide) rfl (Or.inl rfl) fl_3_29 rfl ?_
  refine B_putp (M' := (mset (mset (mcpy (mcpy (mcpy M (p1 + 1) (o + 1) 64) (p1 + 2) (o + 2) 6) (p1 + 3) (o + 3) 6) o 4 ((mcpy (mcpy (mcpy M (p1 + 1) (o + 1) 64) (p1 + 2) (o + 2) 6) (p1 + 3) (o + 3) 6) p1 4)) o 5 ((mset (mcpy (mcpy (mcpy M (p1 + 1) (o + 1) 64) (p1 + 2) (o + 2) 6) (p1 + 3) (o + 3) 6) o 4 ((mcpy (mcpy (mcpy M (p1 + 1) (o + 1) 64) (p1 + 2) (o + 2) 6) (p1 + 3) (o + 3) 6) p1 4)) p1 5))) (q := (RX3, TX3, 6)) (ci := 3) (j := 5) (p := 5) (by decide +kernel) rfl (by decide) rfl (Or.inl ⟨rfl, rfl⟩) rfl fl_3_29 rfl ?_
  exact A_ret ⟨by decide +kernel, rfl⟩ ⟨rfl, h3⟩
theorem q_3_begin {o : Nat} {x1 : Int} {M : Mem} {P : Mem → Prop} (h : (CD m10_put 1 [(30, ((o + 2 : Nat) : Int)), (0, x1), (0, (M o 4))] M (fun M2 => (P M2)))) : CD m3_begin 2 [(13, (o : Int)), (0, x1)] M P := by
  refine CD_of (by decide +kernel) (Nat.le_of_ble_eq_true rfl) ?_
  show A m3_begin 2 0 0 [(13, (o : Int)), (0, x1)] [] M (Kd P)
  refine A_aload_n (i := 0) (f := 0) (by omega) rfl (by decide +kernel) rfl ?_
  refine B_getr (o' := ((o + 2 : Nat) : Int)) (q := (RX3, TX3, 6)) (ci := 3) (j := 1) (by decide +kernel) rfl (by decide) rfl (by omega) fl_3_15 rfl ?_
  refine A_iload_n (i := 1) (f := 1) rfl (by decide +kernel) rfl ?_
  refine A_aload_n (i := 0) (f := 0) (by omega) rfl (by decide +kernel) rfl ?_
  refine B_getp (v := (M o 4)) (q := (RX3, TX3, 6)) (ci := 3) (j := 4) (p := 4) (by decide +kernel) rfl (by decide) rfl (Or.inl rfl) fl_3_25 rfl ?_
  refine A_cSNd (args := [(30, ((o + 2 : Nat) : Int)), (0, x1), (0, (M o 4))]) (st := []) (by decide +kernel) cv_m10_put st_m10_put lk_3_38 rfl (by omega) (Nat.le_of_ble_eq_true rfl) h (fun M2 h3 => ?_)
  exact A_ret ⟨by decide +kernel, rfl⟩ ⟨rfl, h3⟩
theorem q_3_end {o : Nat} {x1 : Int} {M : Mem} {P : Mem → Prop} (h : (CD m10_put 1 [(30, ((o + 3 : Nat) : Int)), (0, x1), (0, (M o 4))] M (fun M2 => (P M2)))) : CD m3_end 2 [(13, (o : Int)), (0, x1)] M P := by
  refine CD_of (by decide +kernel) (Nat.le_of_ble_eq_true rfl) ?_
  show A m3_end 2 0 0 [(13, (o : Int)), (0, x1)] [] M (Kd P)
  refine A_aload_n (i := 0) (f := 0) (by omega) rfl (by decide +kernel) rfl ?_
  refine B_getr (o' := ((o + 3 : Nat) : Int)) (q := (RX3, TX3, 6)) (ci := 3) (j := 2) (by decide +kernel) rfl (by decide) rfl (by omega) fl_3_18 rfl ?_
  refine A_iload_n (i := 1) (f := 1) rfl (by decide +kernel) rfl ?_
  refine A_aload_n (i := 0) (f := 0) (by omega) rfl (by decide +kernel) rfl ?_
  refine B_getp (v := (M o 4)) (q := (RX3, TX3, 6)) (ci := 3) (j := 4) (p := 4) (by decide +kernel) rfl (by decide) rfl (Or.inl rfl) fl_3_25 rfl ?_
  refine A_cSNd (args := [(30, ((o + 3 : Nat) : Int)), (0, x1), (0, (M o 4))]) (st := []) (by decide +kernel) cv_m10_put st_m10_put lk_3_38 rfl (by omega) (Nat.le_of_ble_eq_true rfl) h (fun M2 h3 => ?_)
  exact A_ret ⟨by decide +kernel, rfl⟩ ⟨rfl, h3⟩
theorem q_3_add {o : Nat} {x1 : Int} {M : Mem} {P : Mem → Prop} (h : (CD m10_put 1 [(30, ((o + 1 : Nat) : Int)), (0, (M o 4)), (0, x1)] M (fun M2 => (P (mset M2 o 4 (w32 ((M2 o 4) + 1))))))) : CD m3_add 2 [(13, (o : Int)), (0, x1)] M P := by
  refine CD_of (by decide +kernel) (Nat.le_of_ble_eq_true rfl) ?_
  show A m3_add 2 0 0 [(13, (o : Int)), (0, x1)] [] M (Kd P)
  refine A_aload_n (i := 0) (f := 0) (by omega) rfl (by decide +kernel) rfl ?_
  refine B_getr (o' := ((o + 1 : Nat) : Int)) (q := (RX3, TX3, 6)) (ci := 3) (j := 0) (by decide +kernel) rfl (by decide) rfl (by omega) fl_3_9 rfl ?_
  refine A_aload_n (i := 0) (f := 0) (by omega) rfl (by decide +kernel) rfl ?_
  refine B_getp (v := (M o 4)) (q := (RX3, TX3, 6)) (ci := 3) (j := 4) (p := 4) (by decide +kernel) rfl (by decide) rfl (Or.inl rfl) fl_3_25 rfl ?_
  refine A_iload_n (i := 1) (f := 1) rfl (by decide +kernel) rfl ?_
  refine A_cSNd (args := [(30, ((o + 1 : Nat) : Int)), (0, (M o 4)), (0, x1)]) (st := []) (by decide +kernel) cv_m10_put st_m10_put lk_3_38 rfl (by omega) (Nat.le_of_ble_eq_true rfl) h (fun M2 h3 => ?_)
  refine A_aload_n (i := 0) (f := 0) (by omega) rfl (by decide +kernel) rfl ?_
  refine A_dup (by decide +kernel) (by simp) ?_
  refine B_getp (v := (M2 o 4)) (q := (RX3, TX3, 6)) (ci := 3) (j := 4) (p := 4) (by decide +kernel) rfl (by decide) rfl (Or.inl rfl) fl_3_25 rfl ?_
  refine A_iconst (a := 1) (by decide +kernel) (by unfold in32; omega) ?_
  refine A_iadd (by decide +kernel) ?_
  refine B_putp (M' := (mset M2 o 4 (w32 ((M2 o 4) + 1)))) (q := (RX3, TX3, 6)) (ci := 3) (j := 4) (p := 4) (by decide +kernel) rfl (by decide) rfl (Or.inl ⟨rfl, rfl⟩) rfl fl_3_25 rfl ?_
  exact A_ret ⟨by decide +kernel, rfl⟩ ⟨rfl, h3⟩
theorem q_3_work {o : Nat} {x1 : Int} {p2 : Nat} {M : Mem} {P : Int → Mem → Prop} (h : (CI m10_at 1 [(30, ((o + 3 : Nat) : Int)), (0, x1)] M (fun r1 M2 => (CI m10_at 1 [(30, ((o + 2 : Nat) : Int)), (0, x1)] M2 (fun r4 M5 => A m3_work 4 0 22 [(13, (o : Int)), (2, 0), (30, (p2 : Int)), (0, r1), (0, 0), (0, r4), (2, 0), (2, 0), (2, 0)] [] M5 (Kl P)))))) : CL m3_work 4 [(13, (o : Int)), (0, x1), (30, (p2 : Int))] M P := by
  refine CL_of (by decide +kernel) (Nat.le_of_ble_eq_true rfl) ?_
  show A m3_work 4 0 0 [(13, (o : Int)), (0, x1), (30, (p2 : Int)), (2, 0), (2, 0), (2, 0), (2, 0), (2, 0), (2, 0)] [] M (Kl P)
  refine A_aload_n (i := 0) (f := 0) (by omega) rfl (by decide +kernel) rfl ?_
  refine B_getr (o' := ((o + 3 : Nat) : Int)) (q := (RX3, TX3, 6)) (ci := 3) (j := 2) (by decide +kernel) rfl (by decide) rfl (by omega) fl_3_18 rfl ?_
  refine A_iload_n (i := 1) (f := 1) rfl (by decide +kernel) rfl ?_
  refine A_cSNi (args := [(30, ((o + 3 : Nat) : Int)), (0, x1)]) (st := []) (by decide +kernel) cv_m10_at st_m10_at lk_3_42 rfl (by omega) (Nat.le_of_ble_eq_true rfl) h (fun r1 M2 _ h3 => ?_)
  refine A_istore_n (i := 3) (f := 3) rfl (by decide +kernel) (by decide) (fun w h0 hw => by simp at hw; first | (rw [← hw]; decide) | (rw [← hw]; simp)) ?_
  refine A_iconst (a := 0) (by decide +kernel) (by unfold in32; omega) ?_
  refine A_istore (i := 4) (by decide +kernel) (by decide) (fun w h0 hw => by simp at hw; first | (rw [← hw]; decide) | (rw [← hw]; simp)) ?_
  refine A_aload_n (i := 0) (f := 0) (by omega) rfl (by decide +kernel) rfl ?_
  refine B_getr (o' := ((o + 2 : Nat) : Int)) (q := (RX3, TX3, 6)) (ci := 3) (j := 1) (by decide +kernel) rfl (by decide) rfl (by omega) fl_3_15 rfl ?_
  refine A_iload_n (i := 1) (f := 1) rfl (by decide +kernel) rfl ?_
  refine A_cSNi (args := [(30, ((o + 2 : Nat) : Int)), (0, x1)]) (st := []) (by decide +kernel) cv_m10_at st_m10_at lk_3_42 rfl (by omega) (Nat.le_of_ble_eq_true rfl) h3 (fun r4 M5 _ h6 => ?_)
  refine A_istore (i := 5) (by decide +kernel) (by decide) (fun w h0 hw => by simp at hw; first | (rw [← hw]; decide) | (rw [← hw]; simp)) ?_
  exact A_weak (lsub.keep (lsub.drop (lsub.keep (lsub.keep (lsub.keep (lsub.keep (lsub.drop (lsub.drop (lsub.drop lsub.nil))))))))) h6
theorem r_3_work_22 {o : Nat} {p2 : Nat} {x3 : Int} {x4 : Int} {x5 : Int} {M : Mem} {P : Int → Mem → Prop} (h : ((x3 ≤ x5 → (CL m10_longAt 1 [(32, ((o + 4 : Nat) : Int)), (0, 0)] M (fun r4 M5 => (P r4 M5)))) ∧ (x5 < x3 → (CI m10_at 1 [(30, ((o + 1 : Nat) : Int)), (0, x5)] M (fun r7 M8 => ((10000 ≤ r7 → ((10010 ≤ r7 → ((r7 ≠ 10012 → (CL m10_longAt 1 [(32, ((o + 4 : Nat) : Int)), (0, (w32 ((w32 (x4 + (-1))) - 1)))] M8 (fun r19 M20 => (CL m10_longAt 1 [(32, ((o + 4 : Nat) : Int)), (0, (w32 (x4 + (-1))))] M20 (fun r22 M23 => (CL m3_joined 3 [(0, r7), (1, r19), (1, r22)] M23 (fun r25 M26 => ((r25 ≠ (-9223372036854775808) → (CD m10_putLong 1 [(32, ((o + 4 : Nat) : Int)), (0, (w32 ((w32 (x4 + (-1))) - 1))), (1, r25)] M26 (fun M32 => A m3_work 4 0 22 [(13, (o : Int)), (2, 0), (30, (p2 : Int)), (0, x3), (0, (w32 (x4 + (-1)))), (0, (w32 (x5 + 1))), (2, 0), (2, 0), (2, 0)] [] M32 (Kl P)))) ∧ (r25 = (-9223372036854775808) → (P (-9223372036854775808) M26)))))))))) ∧ (r7 = 10012 → (CL m10_longAt 1 [(32, ((o + 4 : Nat) : Int)), (0, (w32 (x4 - 1)))] M8 (fun r34 M35 => ((r34 ≠ 0 → (CD m10_putLong 1 [(32, ((o + 4 : Nat) : Int)), (0, (w32 (x4 - 1))), (1, 0)] M35 (fun M41 => A m3_work 4 0 22 [(13, (o : Int)), (2, 0), (30, (p2 : Int)), (0, x3), (0, x4), (0, (w32 (x5 + 1))), (2, 0), (2, 0), (2, 0)] [] M41 (Kl P)))) ∧ (r34 = 0 → (CD m10_putLong 1 [(32, ((o + 4 : Nat) : Int)), (0, (w32 (x4 - 1))), (1, 1)] M35 (fun M44 => A m3_work 4 0 22 [(13, (o : Int)), (2, 0), (30, (p2 : Int)), (0, x3), (0, x4), (0, (w32 (x5 + 1))), (2, 0), (2, 0), (2, 0)] [] M44 (Kl P)))))))))) ∧ (r7 < 10010 → (CI m10_at 1 [(30, (p2 : Int)), (0, (w32 (r7 - 10000)))] M8 (fun r46 M47 => (CD m10_putLong 1 [(32, ((o + 4 : Nat) : Int)), (0, x4), (1, r46)] M47 (fun M50 => A m3_work 4 0 22 [(13, (o : Int)), (2, 0), (30, (p2 : Int)), (0, x3), (0, (w32 (x4 + 1))), (0, (w32 (x5 + 1))), (2, 0), (2, 0), (2, 0)] [] M50 (Kl P)))))))) ∧ (r7 < 10000 → (CD m10_putLong 1 [(32, ((o + 4 : Nat) : Int)), (0, x4), (1, r7)] M8 (fun M53 => A m3_work 4 0 22 [(13, (o : Int)), (2, 0), (30, (p2 : Int)), (0, x3), (0, (w32 (x4 + 1))), (0, (w32 (x5 + 1))), (2, 0), (2, 0), (2, 0)] [] M53 (Kl P)))))))))) : A m3_work 4 0 22 [(13, (o : Int)), (2, 0), (30, (p2 : Int)), (0, x3), (0, x4), (0, x5), (2, 0), (2, 0), (2, 0)] [] M (Kl P) := by
  refine A_iload (i := 5) (by decide +kernel) rfl ?_
  refine A_iload_n (i := 3) (f := 3) rfl (by decide +kernel) rfl ?_
  refine A_ic_ge (off := 179) (tgt := 204) (by decide +kernel) (by omega) (fun b1 => ?_) (fun b1 => ?_)
  · have h2 := h.1 b1
    refine A_aload_n (i := 0) (f := 0) (by omega) rfl (by decide +kernel) rfl ?_
    refine B_getr (o' := ((o + 4 : Nat) : Int)) (q := (RX3, TX3, 6)) (ci := 3) (j := 3) (by decide +kernel) rfl (by decide) rfl (by omega) fl_3_21 rfl ?_
    refine A_iconst (a := 0) (by decide +kernel) (by unfold in32; omega) ?_
    refine A_cSNl (args := [(32, ((o + 4 : Nat) : Int)), (0, 0)]) (st := []) (by decide +kernel) cv_m10_longAt st_m10_longAt lk_3_50 rfl (by omega) (Nat.le_of_ble_eq_true rfl) h2 (fun r4 M5 _ h6 => ?_)
    exact A_ret ⟨by decide +kernel, rfl⟩ ⟨_, rfl, h6⟩
  · have h3 := h.2 (Int.not_le.mp b1)
    refine A_aload_n (i := 0) (f := 0) (by omega) rfl (by decide +kernel) rfl ?_
    refine B_getr (o' := ((o + 1 : Nat) : Int)) (q := (RX3, TX3, 6)) (ci := 3) (j := 0) (by decide +kernel) rfl (by decide) rfl (by omega) fl_3_9 rfl ?_
    refine A_iload (i := 5) (by decide +kernel) rfl ?_
    refine A_cSNi (args := [(30, ((o + 1 : Nat) : Int)), (0, x5)]) (st := []) (by decide +kernel) cv_m10_at st_m10_at lk_3_42 rfl (by omega) (Nat.le_of_ble_eq_true rfl) h3 (fun r7 M8 _ h9 => ?_)
    refine A_istore (i := 6) (by decide +kernel) (by decide) (fun w h0 hw => by simp at hw; first | (rw [← hw]; decide) | (rw [← hw]; simp)) ?_
    refine A_iload (i := 6) (by decide +kernel) rfl ?_
    refine A_sipush (a := 10000) (by decide +kernel) (by unfold in32; omega) (by decide +kernel) ?_
    refine A_ic_ge (off := 21) (tgt := 65) (by decide +kernel) (by omega) (fun b10 => ?_) (fun b10 => ?_)
    · have h11 := h9.1 b10
      refine A_iload (i := 6) (by decide +kernel) rfl ?_
      refine A_sipush (a := 10010) (by decide +kernel) (by unfold in32; omega) (by decide +kernel) ?_
      refine A_ic_ge (off := 29) (tgt := 99) (by decide +kernel) (by omega) (fun b13 => ?_) (fun b13 => ?_)
      · have h14 := h11.1 b13
        refine A_iload (i := 6) (by decide +kernel) rfl ?_
        refine A_sipush (a := 10012) (by decide +kernel) (by unfold in32; omega) (by decide +kernel) ?_
        refine A_ic_ne (off := 38) (tgt := 142) (by decide +kernel) (by omega) (fun b16 => ?_) (fun b16 => ?_)
        · have h17 := h14.1 b16
          refine A_iinc (i := 4) (n := (-1)) (by decide +kernel) (by decide) rfl (fun w h0 hw => by simp at hw; first | (rw [← hw]; decide) | (rw [← hw]; simp)) ?_
          refine A_iload (i := 6) (by decide +kernel) rfl ?_
          refine A_aload_n (i := 0) (f := 0) (by omega) rfl (by decide +kernel) rfl ?_
          refine B_getr (o' := ((o + 4 : Nat) : Int)) (q := (RX3, TX3, 6)) (ci := 3) (j := 3) (by decide +kernel) rfl (by decide) rfl (by omega) fl_3_21 rfl ?_
          refine A_iload (i := 4) (by decide +kernel) rfl ?_
          refine A_iconst (a := 1) (by decide +kernel) (by unfold in32; omega) ?_
          refine A_isub (by decide +kernel) ?_
          refine A_cSNl (args := [(32, ((o + 4 : Nat) : Int)), (0, (w32 ((w32 (x4 + (-1))) - 1)))]) (st := [(0, r7)]) (by decide +kernel) cv_m10_longAt st_m10_longAt lk_3_50 rfl (by omega) (Nat.le_of_ble_eq_true rfl) h17 (fun r19 M20 _ h21 => ?_)
          refine A_aload_n (i := 0) (f := 0) (by omega) rfl (by decide +kernel) rfl ?_
          refine B_getr (o' := ((o + 4 : Nat) : Int)) (q := (RX3, TX3, 6)) (ci := 3) (j := 3) (by decide +kernel) rfl (by decide) rfl (by omega) fl_3_21 rfl ?_
          refine A_iload (i := 4) (by decide +kernel) rfl ?_
          refine A_cSNl (args := [(32, ((o + 4 : Nat) : Int)), (0, (w32 (x4 + (-1))))]) (st := [(1, r19), (0, r7)]) (by decide +kernel) cv_m10_longAt st_m10_longAt lk_3_50 rfl (by omega) (Nat.le_of_ble_eq_true rfl) h21 (fun r22 M23 _ h24 => ?_)
          refine A_cSl (args := [(0, r7), (1, r19), (1, r22)]) (st := []) (by decide +kernel) cv_m3_joined st_m3_joined lk_3_54 rfl (by omega) (Nat.le_of_ble_eq_true rfl) h24 (fun r25 M26 _ h27 => ?_)
          refine A_lstore (i := 7) (by decide +kernel) (by decide) (fun w h0 hw => by simp at hw; first | (rw [← hw]; decide) | (rw [← hw]; simp)) ?_
          refine A_lload (i := 7) (by decide +kernel) rfl ?_
          refine A_ldc2 (by decide +kernel) (by unfold in64; omega) kl_3_58 rfl ?_
          refine A_lcmp (by decide +kernel) ?_
          refine A_if_ne (off := 7) (tgt := 185) (by decide +kernel) (by omega) (fun b28 => ?_) (fun b28 => ?_)
          · have h29 := h27.1 (fun e => b28 (lcmp_eq.mpr e))
            refine A_aload_n (i := 0) (f := 0) (by omega) rfl (by decide +kernel) rfl ?_
            refine B_getr (o' := ((o + 4 : Nat) : Int)) (q := (RX3, TX3, 6)) (ci := 3) (j := 3) (by decide +kernel) rfl (by decide) rfl (by omega) fl_3_21 rfl ?_
            refine A_iload (i := 4) (by decide +kernel) rfl ?_
            refine A_iconst (a := 1) (by decide +kernel) (by unfold in32; omega) ?_
            refine A_isub (by decide +kernel) ?_
            refine A_lload (i := 7) (by decide +kernel) rfl ?_
            refine A_cSNd (args := [(32, ((o + 4 : Nat) : Int)), (0, (w32 ((w32 (x4 + (-1))) - 1))), (1, r25)]) (st := []) (by decide +kernel) cv_m10_putLong st_m10_putLong lk_3_46 rfl (by omega) (Nat.le_of_ble_eq_true rfl) h29 (fun M32 h33 => ?_)
            refine A_iinc (i := 5) (n := 1) (by decide +kernel) (by decide) rfl (fun w h0 hw => by simp at hw; first | (rw [← hw]; decide) | (rw [← hw]; simp)) ?_
            refine A_goto (off := (-179)) (tgt := 22) (by decide +kernel) (by omega) ?_
            exact A_weak (lsub.keep (lsub.drop (lsub.keep (lsub.keep (lsub.keep (lsub.keep (lsub.drop (lsub.drop (lsub.drop lsub.nil))))))))) h33
          · have h30 := h27.2 (lcmp_eq.mp (Decidable.not_not.mp b28))
            refine A_ldc2 (by decide +kernel) (by unfold in64; omega) kl_3_58 rfl ?_
            exact A_ret ⟨by decide +kernel, rfl⟩ ⟨_, rfl, h30⟩
        · have h18 := h14.2 (Decidable.not_not.mp b16)
          refine A_aload_n (i := 0) (f := 0) (by omega) rfl (by decide +kernel) rfl ?_
          refine B_getr (o' := ((o + 4 : Nat) : Int)) (q := (RX3, TX3, 6)) (ci := 3) (j := 3) (by decide +kernel) rfl (by decide) rfl (by omega) fl_3_21 rfl ?_
          refine A_iload (i := 4) (by decide +kernel) rfl ?_
          refine A_iconst (a := 1) (by decide +kernel) (by unfold in32; omega) ?_
          refine A_isub (by decide +kernel) ?_
          refine A_aload_n (i := 0) (f := 0) (by omega) rfl (by decide +kernel) rfl ?_
          refine B_getr (o' := ((o + 4 : Nat) : Int)) (q := (RX3, TX3, 6)) (ci := 3) (j := 3) (by decide +kernel) rfl (by decide) rfl (by omega) fl_3_21 rfl ?_
          refine A_iload (i := 4) (by decide +kernel) rfl ?_
          refine A_iconst (a := 1) (by decide +kernel) (by unfold in32; omega) ?_
          refine A_isub (by decide +kernel) ?_
          refine A_cSNl (args := [(32, ((o + 4 : Nat) : Int)), (0, (w32 (x4 - 1)))]) (st := [(0, (w32 (x4 - 1))), (32, ((o + 4 : Nat) : Int))]) (by decide +kernel) cv_m10_longAt st_m10_longAt lk_3_50 rfl (by omega) (Nat.le_of_ble_eq_true rfl) h18 (fun r34 M35 _ h36 => ?_)
          refine A_lconst (n := 0) (a := 0) (by decide +kernel) (by unfold in64; omega) (by decide +kernel) ?_
          refine A_lcmp (by decide +kernel) ?_
          refine A_if_ne (off := 7) (tgt := 135) (by decide +kernel) (by omega) (fun b37 => ?_) (fun b37 => ?_)
          · have h38 := h36.1 (fun e => b37 (lcmp_eq.mpr e))
            refine A_lconst (n := 0) (a := 0) (by decide +kernel) (by unfold in64; omega) (by decide +kernel) ?_
            refine A_cSNd (args := [(32, ((o + 4 : Nat) : Int)), (0, (w32 (x4 - 1))), (1, 0)]) (st := []) (by decide +kernel) cv_m10_putLong st_m10_putLong lk_3_46 rfl (by omega) (Nat.le_of_ble_eq_true rfl) h38 (fun M41 h42 => ?_)
            refine A_goto (off := 59) (tgt := 198) (by decide +kernel) (by omega) ?_
            refine A_iinc (i := 5) (n := 1) (by decide +kernel) (by decide) rfl (fun w h0 hw => by simp at hw; first | (rw [← hw]; decide) | (rw [← hw]; simp)) ?_
            refine A_goto (off := (-179)) (tgt := 22) (by decide +kernel) (by omega) ?_
            exact A_weak (lsub.keep (lsub.drop (lsub.keep (lsub.keep (lsub.keep (lsub.keep (lsub.drop (lsub.drop (lsub.drop lsub.nil))))))))) h42
          · have h39 := h36.2 (lcmp_eq.mp (Decidable.not_not.mp b37))
            refine A_lconst (n := 1) (a := 1) (by decide +kernel) (by unfold in64; omega) (by decide +kernel) ?_
            refine A_goto (off := 4) (tgt := 136) (by decide +kernel) (by omega) ?_
            refine A_cSNd (args := [(32, ((o + 4 : Nat) : Int)), (0, (w32 (x4 - 1))), (1, 1)]) (st := []) (by decide +kernel) cv_m10_putLong st_m10_putLong lk_3_46 rfl (by omega) (Nat.le_of_ble_eq_true rfl) h39 (fun M44 h45 => ?_)
            refine A_goto (off := 59) (tgt := 198) (by decide +kernel) (by omega) ?_
            refine A_iinc (i := 5) (n := 1) (by decide +kernel) (by decide) rfl (fun w h0 hw => by simp at hw; first | (rw [← hw]; decide) | (rw [← hw]; simp)) ?_
            refine A_goto (off := (-179)) (tgt := 22) (by decide +kernel) (by omega) ?_
            exact A_weak (lsub.keep (lsub.drop (lsub.keep (lsub.keep (lsub.keep (lsub.keep (lsub.drop (lsub.drop (lsub.drop lsub.nil))))))))) h45
      · have h15 := h11.2 (Int.not_le.mp b13)
        refine A_aload_n (i := 0) (f := 0) (by omega) rfl (by decide +kernel) rfl ?_
        refine B_getr (o' := ((o + 4 : Nat) : Int)) (q := (RX3, TX3, 6)) (ci := 3) (j := 3) (by decide +kernel) rfl (by decide) rfl (by omega) fl_3_21 rfl ?_
        refine A_iload (i := 4) (by decide +kernel) rfl ?_
        refine A_aload_n (i := 2) (f := 2) (by omega) rfl (by decide +kernel) rfl ?_
        refine A_iload (i := 6) (by decide +kernel) rfl ?_
        refine A_sipush (a := 10000) (by decide +kernel) (by unfold in32; omega) (by decide +kernel) ?_
        refine A_isub (by decide +kernel) ?_
        refine A_cSNi (args := [(30, (p2 : Int)), (0, (w32 (r7 - 10000)))]) (st := [(0, x4), (32, ((o + 4 : Nat) : Int))]) (by decide +kernel) cv_m10_at st_m10_at lk_3_42 rfl (by omega) (Nat.le_of_ble_eq_true rfl) h15 (fun r46 M47 _ h48 => ?_)
        refine A_i2l (by decide +kernel) ?_
        refine A_cSNd (args := [(32, ((o + 4 : Nat) : Int)), (0, x4), (1, r46)]) (st := []) (by decide +kernel) cv_m10_putLong st_m10_putLong lk_3_46 rfl (by omega) (Nat.le_of_ble_eq_true rfl) h48 (fun M50 h51 => ?_)
        refine A_iinc (i := 4) (n := 1) (by decide +kernel) (by decide) rfl (fun w h0 hw => by simp at hw; first | (rw [← hw]; decide) | (rw [← hw]; simp)) ?_
        refine A_goto (off := 102) (tgt := 198) (by decide +kernel) (by omega) ?_
        refine A_iinc (i := 5) (n := 1) (by decide +kernel) (by decide) rfl (fun w h0 hw => by simp at hw; first | (rw [← hw]; decide) | (rw [← hw]; simp)) ?_
        refine A_goto (off := (-179)) (tgt := 22) (by decide +kernel) (by omega) ?_
        exact A_weak (lsub.keep (lsub.drop (lsub.keep (lsub.keep (lsub.keep (lsub.keep (lsub.drop (lsub.drop (lsub.drop lsub.nil))))))))) h51
    · have h12 := h9.2 (Int.not_le.mp b10)
      refine A_aload_n (i := 0) (f := 0) (by omega) rfl (by decide +kernel) rfl ?_
      refine B_getr (o' := ((o + 4 : Nat) : Int)) (q := (RX3, TX3, 6)) (ci := 3) (j := 3) (by decide +kernel) rfl (by decide) rfl (by omega) fl_3_21 rfl ?_
      refine A_iload (i := 4) (by decide +kernel) rfl ?_
      refine A_iload (i := 6) (by decide +kernel) rfl ?_
      refine A_i2l (by decide +kernel) ?_
      refine A_cSNd (args := [(32, ((o + 4 : Nat) : Int)), (0, x4), (1, r7)]) (st := []) (by decide +kernel) cv_m10_putLong st_m10_putLong lk_3_46 rfl (by omega) (Nat.le_of_ble_eq_true rfl) h12 (fun M53 h54 => ?_)
      refine A_iinc (i := 4) (n := 1) (by decide +kernel) (by decide) rfl (fun w h0 hw => by simp at hw; first | (rw [← hw]; decide) | (rw [← hw]; simp)) ?_
      refine A_goto (off := 136) (tgt := 198) (by decide +kernel) (by omega) ?_
      refine A_iinc (i := 5) (n := 1) (by decide +kernel) (by decide) rfl (fun w h0 hw => by simp at hw; first | (rw [← hw]; decide) | (rw [← hw]; simp)) ?_
      refine A_goto (off := (-179)) (tgt := 22) (by decide +kernel) (by omega) ?_
      exact A_weak (lsub.keep (lsub.drop (lsub.keep (lsub.keep (lsub.keep (lsub.keep (lsub.drop (lsub.drop (lsub.drop lsub.nil))))))))) h54
theorem q_3_joined {x0 : Int} {x1 : Int} {x3 : Int} {M : Mem} {P : Int → Mem → Prop} (h : ((x0 = 10010 → ((x1 ≠ 0 → (P 1 M)) ∧ (x1 = 0 → ((x3 = 0 → (P 0 M)) ∧ (x3 ≠ 0 → (P 1 M)))))) ∧ ((x0 = 10011 → ((x1 = 0 → (P 0 M)) ∧ (x1 ≠ 0 → ((x3 = 0 → (P 0 M)) ∧ (x3 ≠ 0 → (P 1 M)))))) ∧ ((x0 = 10012 → (P (-9223372036854775808) M)) ∧ ((x0 = 10013 → ((x3 ≤ x1 → (P 0 M)) ∧ (x1 < x3 → (P 1 M)))) ∧ ((x0 = 10014 → ((x3 < x1 → (P 0 M)) ∧ (x1 ≤ x3 → (P 1 M)))) ∧ ((x0 = 10015 → ((x1 ≠ x3 → (P 0 M)) ∧ (x1 = x3 → (P 1 M)))) ∧ ((x0 = 10016 → ((x1 = x3 → (P 0 M)) ∧ (x1 ≠ x3 → (P 1 M)))) ∧ ((x0 = 10017 → ((x1 < x3 → (P 0 M)) ∧ (x3 ≤ x1 → (P 1 M)))) ∧ ((x0 = 10018 → ((x1 ≤ x3 → (P 0 M)) ∧ (x3 < x1 → (P 1 M)))) ∧ ((x0 = 10019 → (CL m3_within 1 [(1, (w64 (x1 + x3)))] M (fun r42 M43 => (P r42 M43)))) ∧ ((x0 = 10020 → (CL m3_within 1 [(1, (w64 (x1 - x3)))] M (fun r46 M47 => (P r46 M47)))) ∧ ((x0 = 10021 → (CL m3_product 2 [(1, x1), (1, x3)] M (fun r50 M51 => (P r50 M51)))) ∧ ((x0 = 10022 → ((x3 ≠ 0 → ((x3 ≠ 0) ∧ (P (w64 (Int.tdiv x1 x3)) M))) ∧ (x3 = 0 → (P (-9223372036854775808) M)))) ∧ ((x0 < 10010 ∨ 10022 < x0) → (P (-9223372036854775808) M)))))))))))))))) : CL m3_joined 3 [(0, x0), (1, x1), (1, x3)] M P := by
  refine CL_of (by decide +kernel) (Nat.le_of_ble_eq_true rfl) ?_
  show A m3_joined 3 0 0 [(0, x0), (1, x1), (2, 0), (1, x3), (2, 0)] [] M (Kl P)
  refine A_iload_n (i := 0) (f := 0) rfl (by decide +kernel) rfl ?_
  have hsw : x0 = 10010 ∨ x0 = 10011 ∨ x0 = 10012 ∨ x0 = 10013 ∨ x0 = 10014 ∨ x0 = 10015 ∨ x0 = 10016 ∨ x0 = 10017 ∨ x0 = 10018 ∨ x0 = 10019 ∨ x0 = 10020 ∨ x0 = 10021 ∨ x0 = 10022 ∨ (x0 < 10010 ∨ 10022 < x0) := by omega
  rcases hsw with e1 | e1 | e1 | e1 | e1 | e1 | e1 | e1 | e1 | e1 | e1 | e1 | e1 | e1
  · have h2 := h.1 e1
    refine A_tin (len := 67) (dflt := 211) (lo := 10010) (hi := 10022) (offs := #[67, 85, 211, 103, 115, 127, 139, 151, 163, 175, 182, 189, 195]) (off := 67) (tgt := 68) (by decide +kernel) (by omega) (by omega) (by rw [e1]; rfl) (by omega) ?_
    refine A_lload_n (i := 1) (f := 1) rfl (by decide +kernel) rfl ?_
    refine A_lconst (n := 0) (a := 0) (by decide +kernel) (by unfold in64; omega) (by decide +kernel) ?_
    refine A_lcmp (by decide +kernel) ?_
    refine A_if_ne (off := 9) (tgt := 80) (by decide +kernel) (by omega) (fun b3 => ?_) (fun b3 => ?_)
    · have h4 := h2.1 (fun e => b3 (lcmp_eq.mpr e))
      refine A_lconst (n := 1) (a := 1) (by decide +kernel) (by unfold in64; omega) (by decide +kernel) ?_
      refine A_goto (off := 4) (tgt := 85) (by decide +kernel) (by omega) ?_
      exact A_ret ⟨by decide +kernel, rfl⟩ ⟨_, rfl, h4⟩
    · have h5 := h2.2 (lcmp_eq.mp (Decidable.not_not.mp b3))
      refine A_lload_n (i := 3) (f := 3) rfl (by decide +kernel) rfl ?_
      refine A_lconst (n := 0) (a := 0) (by decide +kernel) (by unfold in64; omega) (by decide +kernel) ?_
      refine A_lcmp (by decide +kernel) ?_
      refine A_if_eq (off := 7) (tgt := 84) (by decide +kernel) (by omega) (fun b6 => ?_) (fun b6 => ?_)
      · have h7 := h5.1 (lcmp_eq.mp b6)
        refine A_lconst (n := 0) (a := 0) (by decide +kernel) (by unfold in64; omega) (by decide +kernel) ?_
        exact A_ret ⟨by decide +kernel, rfl⟩ ⟨_, rfl, h7⟩
      · have h8 := h5.2 (fun e => b6 (lcmp_eq.mpr e))
        refine A_lconst (n := 1) (a := 1) (by decide +kernel) (by unfold in64; omega) (by decide +kernel) ?_
        refine A_goto (off := 4) (tgt := 85) (by decide +kernel) (by omega) ?_
        exact A_ret ⟨by decide +kernel, rfl⟩ ⟨_, rfl, h8⟩
  · have h9 := h.2.1 e1
    refine A_tin (len := 67) (dflt := 211) (lo := 10010) (hi := 10022) (offs := #[67, 85, 211, 103, 115, 127, 139, 151, 163, 175, 182, 189, 195]) (off := 85) (tgt := 86) (by decide +kernel) (by omega) (by omega) (by rw [e1]; rfl) (by omega) ?_
    refine A_lload_n (i := 1) (f := 1) rfl (by decide +kernel) rfl ?_
    refine A_lconst (n := 0) (a := 0) (by decide +kernel) (by unfold in64; omega) (by decide +kernel) ?_
    refine A_lcmp (by decide +kernel) ?_
    refine A_if_eq (off := 13) (tgt := 102) (by decide +kernel) (by omega) (fun b10 => ?_) (fun b10 => ?_)
    · have h11 := h9.1 (lcmp_eq.mp b10)
      refine A_lconst (n := 0) (a := 0) (by decide +kernel) (by unfold in64; omega) (by decide +kernel) ?_
      exact A_ret ⟨by decide +kernel, rfl⟩ ⟨_, rfl, h11⟩
    · have h12 := h9.2 (fun e => b10 (lcmp_eq.mpr e))
      refine A_lload_n (i := 3) (f := 3) rfl (by decide +kernel) rfl ?_
      refine A_lconst (n := 0) (a := 0) (by decide +kernel) (by unfold in64; omega) (by decide +kernel) ?_
      refine A_lcmp (by decide +kernel) ?_
      refine A_if_eq (off := 7) (tgt := 102) (by decide +kernel) (by omega) (fun b13 => ?_) (fun b13 => ?_)
      · have h14 := h12.1 (lcmp_eq.mp b13)
        refine A_lconst (n := 0) (a := 0) (by decide +kernel) (by unfold in64; omega) (by decide +kernel) ?_
        exact A_ret ⟨by decide +kernel, rfl⟩ ⟨_, rfl, h14⟩
      · have h15 := h12.2 (fun e => b13 (lcmp_eq.mpr e))
        refine A_lconst (n := 1) (a := 1) (by decide +kernel) (by unfold in64; omega) (by decide +kernel) ?_
        refine A_goto (off := 4) (tgt := 103) (by decide +kernel) (by omega) ?_
        exact A_ret ⟨by decide +kernel, rfl⟩ ⟨_, rfl, h15⟩
  · have h16 := h.2.2.1 e1
    refine A_tin (len := 67) (dflt := 211) (lo := 10010) (hi := 10022) (offs := #[67, 85, 211, 103, 115, 127, 139, 151, 163, 175, 182, 189, 195]) (off := 211) (tgt := 212) (by decide +kernel) (by omega) (by omega) (by rw [e1]; rfl) (by omega) ?_
    refine A_ldc2 (by decide +kernel) (by unfold in64; omega) kl_3_58 rfl ?_
    exact A_ret ⟨by decide +kernel, rfl⟩ ⟨_, rfl, h16⟩
  · have h17 := h.2.2.2.1 e1
    refine A_tin (len := 67) (dflt := 211) (lo := 10010) (hi := 10022) (offs := #[67, 85, 211, 103, 115, 127, 139, 151, 163, 175, 182, 189, 195]) (off := 103) (tgt := 104) (by decide +kernel) (by omega) (by omega) (by rw [e1]; rfl) (by omega) ?_
    refine A_lload_n (i := 1) (f := 1) rfl (by decide +kernel) rfl ?_
    refine A_lload_n (i := 3) (f := 3) rfl (by decide +kernel) rfl ?_
    refine A_lcmp (by decide +kernel) ?_
    refine A_if_ge (off := 7) (tgt := 114) (by decide +kernel) (by omega) (fun b18 => ?_) (fun b18 => ?_)
    · have h19 := h17.1 (lcmp_ge.mp b18)
      refine A_lconst (n := 0) (a := 0) (by decide +kernel) (by unfold in64; omega) (by decide +kernel) ?_
      exact A_ret ⟨by decide +kernel, rfl⟩ ⟨_, rfl, h19⟩
    · have h20 := h17.2 (Int.not_le.mp (fun e => b18 (lcmp_ge.mpr e)))
      refine A_lconst (n := 1) (a := 1) (by decide +kernel) (by unfold in64; omega) (by decide +kernel) ?_
      refine A_goto (off := 4) (tgt := 115) (by decide +kernel) (by omega) ?_
      exact A_ret ⟨by decide +kernel, rfl⟩ ⟨_, rfl, h20⟩
  · have h21 := h.2.2.2.2.1 e1
    refine A_tin (len := 67) (dflt := 211) (lo := 10010) (hi := 10022) (offs := #[67, 85, 211, 103, 115, 127, 139, 151, 163, 175, 182, 189, 195]) (off := 115) (tgt := 116) (by decide +kernel) (by omega) (by omega) (by rw [e1]; rfl) (by omega) ?_
    refine A_lload_n (i := 1) (f := 1) rfl (by decide +kernel) rfl ?_
    refine A_lload_n (i := 3) (f := 3) rfl (by decide +kernel) rfl ?_
    refine A_lcmp (by decide +kernel) ?_
    refine A_if_gt (off := 7) (tgt := 126) (by decide +kernel) (by omega) (fun b22 => ?_) (fun b22 => ?_)
    · have h23 := h21.1 (lcmp_gt.mp b22)
      refine A_lconst (n := 0) (a := 0) (by decide +kernel) (by unfold in64; omega) (by decide +kernel) ?_
      exact A_ret ⟨by decide +kernel, rfl⟩ ⟨_, rfl, h23⟩
    · have h24 := h21.2 (Int.not_lt.mp (fun e => b22 (lcmp_gt.mpr e)))
      refine A_lconst (n := 1) (a := 1) (by decide +kernel) (by unfold in64; omega) (by decide +kernel) ?_
      refine A_goto (off := 4) (tgt := 127) (by decide +kernel) (by omega) ?_
      exact A_ret ⟨by decide +kernel, rfl⟩ ⟨_, rfl, h24⟩
  · have h25 := h.2.2.2.2.2.1 e1
    refine A_tin (len := 67) (dflt := 211) (lo := 10010) (hi := 10022) (offs := #[67, 85, 211, 103, 115, 127, 139, 151, 163, 175, 182, 189, 195]) (off := 127) (tgt := 128) (by decide +kernel) (by omega) (by omega) (by rw [e1]; rfl) (by omega) ?_
    refine A_lload_n (i := 1) (f := 1) rfl (by decide +kernel) rfl ?_
    refine A_lload_n (i := 3) (f := 3) rfl (by decide +kernel) rfl ?_
    refine A_lcmp (by decide +kernel) ?_
    refine A_if_ne (off := 7) (tgt := 138) (by decide +kernel) (by omega) (fun b26 => ?_) (fun b26 => ?_)
    · have h27 := h25.1 (fun e => b26 (lcmp_eq.mpr e))
      refine A_lconst (n := 0) (a := 0) (by decide +kernel) (by unfold in64; omega) (by decide +kernel) ?_
      exact A_ret ⟨by decide +kernel, rfl⟩ ⟨_, rfl, h27⟩
    · have h28 := h25.2 (lcmp_eq.mp (Decidable.not_not.mp b26))
      refine A_lconst (n := 1) (a := 1) (by decide +kernel) (by unfold in64; omega) (by decide +kernel) ?_
      refine A_goto (off := 4) (tgt := 139) (by decide +kernel) (by omega) ?_
      exact A_ret ⟨by decide +kernel, rfl⟩ ⟨_, rfl, h28⟩
  · have h29 := h.2.2.2.2.2.2.1 e1
    refine A_tin (len := 67) (dflt := 211) (lo := 10010) (hi := 10022) (offs := #[67, 85, 211, 103, 115, 127, 139, 151, 163, 175, 182, 189, 195]) (off := 139) (tgt := 140) (by decide +kernel) (by omega) (by omega) (by rw [e1]; rfl) (by omega) ?_
    refine A_lload_n (i := 1) (f := 1) rfl (by decide +kernel) rfl ?_
    refine A_lload_n (i := 3) (f := 3) rfl (by decide +kernel) rfl ?_
    refine A_lcmp (by decide +kernel) ?_
    refine A_if_eq (off := 7) (tgt := 150) (by decide +kernel) (by omega) (fun b30 => ?_) (fun b30 => ?_)
    · have h31 := h29.1 (lcmp_eq.mp b30)
      refine A_lconst (n := 0) (a := 0) (by decide +kernel) (by unfold in64; omega) (by decide +kernel) ?_
      exact A_ret ⟨by decide +kernel, rfl⟩ ⟨_, rfl, h31⟩
    · have h32 := h29.2 (fun e => b30 (lcmp_eq.mpr e))
      refine A_lconst (n := 1) (a := 1) (by decide +kernel) (by unfold in64; omega) (by decide +kernel) ?_
      refine A_goto (off := 4) (tgt := 151) (by decide +kernel) (by omega) ?_
      exact A_ret ⟨by decide +kernel, rfl⟩ ⟨_, rfl, h32⟩
  · have h33 := h.2.2.2.2.2.2.2.1 e1
    refine A_tin (len := 67) (dflt := 211) (lo := 10010) (hi := 10022) (offs := #[67, 85, 211, 103, 115, 127, 139, 151, 163, 175, 182, 189, 195]) (off := 151) (tgt := 152) (by decide +kernel) (by omega) (by omega) (by rw [e1]; rfl) (by omega) ?_
    refine A_lload_n (i := 1) (f := 1) rfl (by decide +kernel) rfl ?_
    refine A_lload_n (i := 3) (f := 3) rfl (by decide +kernel) rfl ?_
    refine A_lcmp (by decide +kernel) ?_
    refine A_if_lt (off := 7) (tgt := 162) (by decide +kernel) (by omega) (fun b34 => ?_) (fun b34 => ?_)
    · have h35 := h33.1 (lcmp_lt.mp b34)
      refine A_lconst (n := 0) (a := 0) (by decide +kernel) (by unfold in64; omega) (by decide +kernel) ?_
      exact A_ret ⟨by decide +kernel, rfl⟩ ⟨_, rfl, h35⟩
    · have h36 := h33.2 (Int.not_lt.mp (fun e => b34 (lcmp_lt.mpr e)))
      refine A_lconst (n := 1) (a := 1) (by decide +kernel) (by unfold in64; omega) (by decide +kernel) ?_
      refine A_goto (off := 4) (tgt := 163) (by decide +kernel) (by omega) ?_
      exact A_ret ⟨by decide +kernel, rfl⟩ ⟨_, rfl, h36⟩
  · have h37 := h.2.2.2.2.2.2.2.2.1 e1
    refine A_tin (len := 67) (dflt := 211) (lo := 10010) (hi := 10022) (offs := #[67, 85, 211, 103, 115, 127, 139, 151, 163, 175, 182, 189, 195]) (off := 163) (tgt := 164) (by decide +kernel) (by omega) (by omega) (by rw [e1]; rfl) (by omega) ?_
    refine A_lload_n (i := 1) (f := 1) rfl (by decide +kernel) rfl ?_
    refine A_lload_n (i := 3) (f := 3) rfl (by decide +kernel) rfl ?_
    refine A_lcmp (by decide +kernel) ?_
    refine A_if_le (off := 7) (tgt := 174) (by decide +kernel) (by omega) (fun b38 => ?_) (fun b38 => ?_)
    · have h39 := h37.1 (lcmp_le.mp b38)
      refine A_lconst (n := 0) (a := 0) (by decide +kernel) (by unfold in64; omega) (by decide +kernel) ?_
      exact A_ret ⟨by decide +kernel, rfl⟩ ⟨_, rfl, h39⟩
    · have h40 := h37.2 (Int.not_le.mp (fun e => b38 (lcmp_le.mpr e)))
      refine A_lconst (n := 1) (a := 1) (by decide +kernel) (by unfold in64; omega) (by decide +kernel) ?_
      refine A_goto (off := 4) (tgt := 175) (by decide +kernel) (by omega) ?_
      exact A_ret ⟨by decide +kernel, rfl⟩ ⟨_, rfl, h40⟩
  · have h41 := h.2.2.2.2.2.2.2.2.2.1 e1
    refine A_tin (len := 67) (dflt := 211) (lo := 10010) (hi := 10022) (offs := #[67, 85, 211, 103, 115, 127, 139, 151, 163, 175, 182, 189, 195]) (off := 175) (tgt := 176) (by decide +kernel) (by omega) (by omega) (by rw [e1]; rfl) (by omega) ?_
    refine A_lload_n (i := 1) (f := 1) rfl (by decide +kernel) rfl ?_
    refine A_lload_n (i := 3) (f := 3) rfl (by decide +kernel) rfl ?_
    refine A_ladd (by decide +kernel) ?_
    refine A_cSl (args := [(1, (w64 (x1 + x3)))]) (st := []) (by decide +kernel) cv_m3_within st_m3_within lk_3_60 rfl (by omega) (Nat.le_of_ble_eq_true rfl) h41 (fun r42 M43 _ h44 => ?_)
    exact A_ret ⟨by decide +kernel, rfl⟩ ⟨_, rfl, h44⟩
  · have h45 := h.2.2.2.2.2.2.2.2.2.2.1 e1
    refine A_tin (len := 67) (dflt := 211) (lo := 10010) (hi := 10022) (offs := #[67, 85, 211, 103, 115, 127, 139, 151, 163, 175, 182, 189, 195]) (off := 182) (tgt := 183) (by decide +kernel) (by omega) (by omega) (by rw [e1]; rfl) (by omega) ?_
    refine A_lload_n (i := 1) (f := 1) rfl (by decide +kernel) rfl ?_
    refine A_lload_n (i := 3) (f := 3) rfl (by decide +kernel) rfl ?_
    refine A_lsub (by decide +kernel) ?_
    refine A_cSl (args := [(1, (w64 (x1 - x3)))]) (st := []) (by decide +kernel) cv_m3_within st_m3_within lk_3_60 rfl (by omega) (Nat.le_of_ble_eq_true rfl) h45 (fun r46 M47 _ h48 => ?_)
    exact A_ret ⟨by decide +kernel, rfl⟩ ⟨_, rfl, h48⟩
  · have h49 := h.2.2.2.2.2.2.2.2.2.2.2.1 e1
    refine A_tin (len := 67) (dflt := 211) (lo := 10010) (hi := 10022) (offs := #[67, 85, 211, 103, 115, 127, 139, 151, 163, 175, 182, 189, 195]) (off := 189) (tgt := 190) (by decide +kernel) (by omega) (by omega) (by rw [e1]; rfl) (by omega) ?_
    refine A_lload_n (i := 1) (f := 1) rfl (by decide +kernel) rfl ?_
    refine A_lload_n (i := 3) (f := 3) rfl (by decide +kernel) rfl ?_
    refine A_cSl (args := [(1, x1), (1, x3)]) (st := []) (by decide +kernel) cv_m3_product st_m3_product lk_3_64 rfl (by omega) (Nat.le_of_ble_eq_true rfl) h49 (fun r50 M51 _ h52 => ?_)
    exact A_ret ⟨by decide +kernel, rfl⟩ ⟨_, rfl, h52⟩
  · have h53 := h.2.2.2.2.2.2.2.2.2.2.2.2.1 e1
    refine A_tin (len := 67) (dflt := 211) (lo := 10010) (hi := 10022) (offs := #[67, 85, 211, 103, 115, 127, 139, 151, 163, 175, 182, 189, 195]) (off := 195) (tgt := 196) (by decide +kernel) (by omega) (by omega) (by rw [e1]; rfl) (by omega) ?_
    refine A_lload_n (i := 3) (f := 3) rfl (by decide +kernel) rfl ?_
    refine A_lconst (n := 0) (a := 0) (by decide +kernel) (by unfold in64; omega) (by decide +kernel) ?_
    refine A_lcmp (by decide +kernel) ?_
    refine A_if_ne (off := 9) (tgt := 208) (by decide +kernel) (by omega) (fun b54 => ?_) (fun b54 => ?_)
    · have h55 := h53.1 (fun e => b54 (lcmp_eq.mpr e))
      refine A_lload_n (i := 1) (f := 1) rfl (by decide +kernel) rfl ?_
      refine A_lload_n (i := 3) (f := 3) rfl (by decide +kernel) rfl ?_
      refine A_ldiv (by decide +kernel) h55.1 ?_
      have h57 := h55.2
      exact A_ret ⟨by decide +kernel, rfl⟩ ⟨_, rfl, h57⟩
    · have h56 := h53.2 (lcmp_eq.mp (Decidable.not_not.mp b54))
      refine A_ldc2 (by decide +kernel) (by unfold in64; omega) kl_3_58 rfl ?_
      refine A_goto (off := 6) (tgt := 211) (by decide +kernel) (by omega) ?_
      exact A_ret ⟨by decide +kernel, rfl⟩ ⟨_, rfl, h56⟩
  · have h58 := h.2.2.2.2.2.2.2.2.2.2.2.2.2 e1
    refine A_tout (len := 67) (dflt := 211) (lo := 10010) (hi := 10022) (offs := #[67, 85, 211, 103, 115, 127, 139, 151, 163, 175, 182, 189, 195]) (tgt := 212) (by decide +kernel) e1 (by omega) ?_
    refine A_ldc2 (by decide +kernel) (by unfold in64; omega) kl_3_58 rfl ?_
    exact A_ret ⟨by decide +kernel, rfl⟩ ⟨_, rfl, h58⟩
theorem q_3_within {x0 : Int} {M : Mem} {P : Int → Mem → Prop} (h : ((1000000000000 < x0 → (P (-9223372036854775808) M)) ∧ (x0 ≤ 1000000000000 → (((-1000000000000) ≤ x0 → (P x0 M)) ∧ (x0 < (-1000000000000) → (P (-9223372036854775808) M)))))) : CL m3_within 1 [(1, x0)] M P := by
  refine CL_of (by decide +kernel) (Nat.le_of_ble_eq_true rfl) ?_
  show A m3_within 1 0 0 [(1, x0), (2, 0)] [] M (Kl P)
  refine A_lload_n (i := 0) (f := 0) rfl (by decide +kernel) rfl ?_
  refine A_ldc2 (by decide +kernel) (by unfold in64; omega) kl_3_68 rfl ?_
  refine A_lcmp (by decide +kernel) ?_
  refine A_if_gt (off := 11) (tgt := 16) (by decide +kernel) (by omega) (fun b1 => ?_) (fun b1 => ?_)
  · have h2 := h.1 (lcmp_gt.mp b1)
    refine A_ldc2 (by decide +kernel) (by unfold in64; omega) kl_3_58 rfl ?_
    refine A_goto (off := 4) (tgt := 23) (by decide +kernel) (by omega) ?_
    exact A_ret ⟨by decide +kernel, rfl⟩ ⟨_, rfl, h2⟩
  · have h3 := h.2 (Int.not_lt.mp (fun e => b1 (lcmp_gt.mpr e)))
    refine A_lload_n (i := 0) (f := 0) rfl (by decide +kernel) rfl ?_
    refine A_ldc2 (by decide +kernel) (by unfold in64; omega) kl_3_70 rfl ?_
    refine A_lcmp (by decide +kernel) ?_
    refine A_if_ge (off := 9) (tgt := 22) (by decide +kernel) (by omega) (fun b4 => ?_) (fun b4 => ?_)
    · have h5 := h3.1 (lcmp_ge.mp b4)
      refine A_lload_n (i := 0) (f := 0) rfl (by decide +kernel) rfl ?_
      exact A_ret ⟨by decide +kernel, rfl⟩ ⟨_, rfl, h5⟩
    · have h6 := h3.2 (Int.not_le.mp (fun e => b4 (lcmp_ge.mpr e)))
      refine A_ldc2 (by decide +kernel) (by unfold in64; omega) kl_3_58 rfl ?_
      refine A_goto (off := 4) (tgt := 23) (by decide +kernel) (by omega) ?_
      exact A_ret ⟨by decide +kernel, rfl⟩ ⟨_, rfl, h6⟩
theorem q_3_product {x0 : Int} {x2 : Int} {M : Mem} {P : Int → Mem → Prop} (h : (((if 0 < x2 then x2 else w64 (-x2)) = 0 → (P (w64 (x0 * x2)) M)) ∧ ((if 0 < x2 then x2 else w64 (-x2)) ≠ 0 → (((if 0 < x2 then x2 else w64 (-x2)) ≠ 0) ∧ (((if 0 < x0 then x0 else w64 (-x0)) ≤ (w64 (Int.tdiv 1000000000000 (if 0 < x2 then x2 else w64 (-x2)))) → (P (w64 (x0 * x2)) M)) ∧ ((w64 (Int.tdiv 1000000000000 (if 0 < x2 then x2 else w64 (-x2)))) < (if 0 < x0 then x0 else w64 (-x0)) → (P (-9223372036854775808) M))))))) : CL m3_product 2 [(1, x0), (1, x2)] M P := by
  refine CL_of (by decide +kernel) (Nat.le_of_ble_eq_true rfl) ?_
  show A m3_product 2 0 0 [(1, x0), (2, 0), (1, x2), (2, 0), (2, 0), (2, 0)] [] M (Kl P)
  refine A_lload_n (i := 2) (f := 2) rfl (by decide +kernel) rfl ?_
  refine A_labs (by decide +kernel) (by omega) (Nat.le_of_ble_eq_true rfl) lk_3_72 jst_abs jin_math jcd_abs ?_
  refine A_lstore (i := 4) (by decide +kernel) (by decide) (fun w h0 hw => by simp at hw; first | (rw [← hw]; decide) | (rw [← hw]; simp)) ?_
  refine A_lload (i := 4) (by decide +kernel) rfl ?_
  refine A_lconst (n := 0) (a := 0) (by decide +kernel) (by unfold in64; omega) (by decide +kernel) ?_
  refine A_lcmp (by decide +kernel) ?_
  refine A_if_eq (off := 21) (tgt := 31) (by decide +kernel) (by omega) (fun b1 => ?_) (fun b1 => ?_)
  · have h2 := h.1 (lcmp_eq.mp b1)
    refine A_lload_n (i := 0) (f := 0) rfl (by decide +kernel) rfl ?_
    refine A_lload_n (i := 2) (f := 2) rfl (by decide +kernel) rfl ?_
    refine A_lmul (by decide +kernel) ?_
    exact A_ret ⟨by decide +kernel, rfl⟩ ⟨_, rfl, h2⟩
  · have h3 := h.2 (fun e => b1 (lcmp_eq.mpr e))
    refine A_lload_n (i := 0) (f := 0) rfl (by decide +kernel) rfl ?_
    refine A_labs (by decide +kernel) (by omega) (Nat.le_of_ble_eq_true rfl) lk_3_72 jst_abs jin_math jcd_abs ?_
    refine A_ldc2 (by decide +kernel) (by unfold in64; omega) kl_3_68 rfl ?_
    refine A_lload (i := 4) (by decide +kernel) rfl ?_
    refine A_ldiv (by decide +kernel) h3.1 ?_
    have h4 := h3.2
    refine A_lcmp (by decide +kernel) ?_
    refine A_if_le (off := 7) (tgt := 31) (by decide +kernel) (by omega) (fun b5 => ?_) (fun b5 => ?_)
    · have h6 := h4.1 (lcmp_le.mp b5)
      refine A_lload_n (i := 0) (f := 0) rfl (by decide +kernel) rfl ?_
      refine A_lload_n (i := 2) (f := 2) rfl (by decide +kernel) rfl ?_
      refine A_lmul (by decide +kernel) ?_
      exact A_ret ⟨by decide +kernel, rfl⟩ ⟨_, rfl, h6⟩
    · have h7 := h4.2 (Int.not_le.mp (fun e => b5 (lcmp_le.mpr e)))
      refine A_ldc2 (by decide +kernel) (by unfold in64; omega) kl_3_58 rfl ?_
      exact A_ret ⟨by decide +kernel, rfl⟩ ⟨_, rfl, h7⟩
