/-! CourtTongue$Book: its regions (made by wip/whole/gall.py) -/
theorem q_0_clear {o : Nat} {M : Mem} {P : Mem → Prop} (h : (CD m3_clear 1 [(13, ((o + 4 : Nat) : Int))] (mset (mset M o 2 0) o 4 0) (fun M2 => (P (mset (mset (mset M2 o 6 0) o 7 0) o 8 0))))) : CD m0_clear 2 [(10, (o : Int))] M P := by
  refine CD_of (by decide +kernel) (Nat.le_of_ble_eq_true rfl) ?_
  show A m0_clear 2 0 0 [(10, (o : Int))] [] M (Kd P)
  refine A_aload_n (i := 0) (f := 0) (by omega) rfl (by decide +kernel) rfl ?_
  refine A_iconst (a := 0) (by decide +kernel) (by unfold in32; omega) ?_
  refine B_putp (M' := (mset M o 2 0)) (q := (RX0, TX0, 9)) (ci := 0) (j := 2) (p := 2) (by decide +kernel) rfl (by decide) rfl (Or.inl ⟨rfl, rfl⟩) rfl fl_0_28 rfl ?_
  refine A_aload_n (i := 0) (f := 0) (by omega) rfl (by decide +kernel) rfl ?_
  refine A_iconst (a := 0) (by decide +kernel) (by unfold in32; omega) ?_
  refine B_putp (M' := (mset (mset M o 2 0) o 4 0)) (q := (RX0, TX0, 9)) (ci := 0) (j := 4) (p := 4) (by decide +kernel) rfl (by decide) rfl (Or.inl ⟨rfl, rfl⟩) rfl fl_0_32 rfl ?_
  refine A_aload_n (i := 0) (f := 0) (by omega) rfl (by decide +kernel) rfl ?_
  refine B_getr (o' := ((o + 4 : Nat) : Int)) (q := (RX0, TX0, 9)) (ci := 0) (j := 5) (by decide +kernel) rfl (by decide) rfl (by omega) fl_0_24 rfl ?_
  refine A_cVd (q := (RX3, TX3, 6)) (ci := 3) (o := ((o + 4 : Nat) : Int)) (args := []) (st := []) (by decide +kernel) cv_m3_clear rfl rfl in_m3_clear se_m3_clear lk_0_35 rfl (by omega) (Nat.le_of_ble_eq_true rfl) h (fun M2 h3 => ?_)
  refine A_aload_n (i := 0) (f := 0) (by omega) rfl (by decide +kernel) rfl ?_
  refine A_iconst (a := 0) (by decide +kernel) (by unfold in32; omega) ?_
  refine B_putp (M' := (mset M2 o 6 0)) (q := (RX0, TX0, 9)) (ci := 0) (j := 6) (p := 6) (by decide +kernel) rfl (by decide) rfl (Or.inl ⟨rfl, rfl⟩) rfl fl_0_38 rfl ?_
  refine A_aload_n (i := 0) (f := 0) (by omega) rfl (by decide +kernel) rfl ?_
  refine A_iconst (a := 0) (by decide +kernel) (by unfold in32; omega) ?_
  refine B_putp (M' := (mset (mset M2 o 6 0) o 7 0)) (q := (RX0, TX0, 9)) (ci := 0) (j := 7) (p := 7) (by decide +kernel) rfl (by decide) rfl (Or.inr ⟨rfl, rfl, by decide⟩) rfl fl_0_41 rfl ?_
  refine A_aload_n (i := 0) (f := 0) (by omega) rfl (by decide +kernel) rfl ?_
  refine A_iconst (a := 0) (by decide +kernel) (by unfold in32; omega) ?_
  refine B_putp (M' := (mset (mset (mset M2 o 6 0) o 7 0) o 8 0)) (q := (RX0, TX0, 9)) (ci := 0) (j := 8) (p := 8) (by decide +kernel) rfl (by decide) rfl (Or.inr ⟨rfl, rfl, by decide⟩) rfl fl_0_45 rfl ?_
  exact A_ret ⟨by decide +kernel, rfl⟩ ⟨rfl, h3⟩
theorem q_0_take {o : Nat} {p1 : Nat} {M : Mem} {P : Mem → Prop} (h : ((5 ≤ ((aln (p1 + 1) : Nat) : Int) ∧ 5 ≤ ((aln (o + 1) : Nat) : Int)) ∧ ((5 ≤ ((aln (p1 + 2) : Nat) : Int) ∧ 5 ≤ ((aln (o + 2) : Nat) : Int)) ∧ ((5 ≤ ((aln (p1 + 3) : Nat) : Int) ∧ 5 ≤ ((aln (o + 3) : Nat) : Int)) ∧ (CD m3_take 2 [(13, ((o + 4 : Nat) : Int)), (13, ((p1 + 4 : Nat) : Int))] (mset (mcpy (mset (mcpy (mcpy M (p1 + 1) (o + 1) 5) (p1 + 2) (o + 2) 5) o 2 ((mcpy (mcpy M (p1 + 1) (o + 1) 5) (p1 + 2) (o + 2) 5) p1 2)) (p1 + 3) (o + 3) 5) o 4 ((mcpy (mset (mcpy (mcpy M (p1 + 1) (o + 1) 5) (p1 + 2) (o + 2) 5) o 2 ((mcpy (mcpy M (p1 + 1) (o + 1) 5) (p1 + 2) (o + 2) 5) p1 2)) (p1 + 3) (o + 3) 5) p1 4)) (fun M5 => ((((mset M5 o 6 (M5 p1 6)) p1 7) = 0 ∨ ((mset M5 o 6 (M5 p1 6)) p1 7) = 1) ∧ ((((mset (mset M5 o 6 (M5 p1 6)) o 7 ((mset M5 o 6 (M5 p1 6)) p1 7)) p1 8) = 0 ∨ ((mset (mset M5 o 6 (M5 p1 6)) o 7 ((mset M5 o 6 (M5 p1 6)) p1 7)) p1 8) = 1) ∧ (P (mset (mset (mset M5 o 6 (M5 p1 6)) o 7 ((mset M5 o 6 (M5 p1 6)) p1 7)) o 8 ((mset (mset M5 o 6 (M5 p1 6)) o 7 ((mset M5 o 6 (M5 p1 6)) p1 7)) p1 8))))))))))) : CD m0_take 3 [(10, (o : Int)), (10, (p1 : Int))] M P := by
  refine CD_of (by decide +kernel) (Nat.le_of_ble_eq_true rfl) ?_
  show A m0_take 3 0 0 [(10, (o : Int)), (10, (p1 : Int))] [] M (Kd P)
  refine A_aload_n (i := 1) (f := 1) (by omega) rfl (by decide +kernel) rfl ?_
  refine B_getr (o' := ((p1 + 1 : Nat) : Int)) (q := (RX0, TX0, 9)) (ci := 0) (j := 0) (by decide +kernel) rfl (by decide) rfl (by omega) fl_0_9 rfl ?_
  refine A_iconst (a := 0) (by decide +kernel) (by unfold in32; omega) ?_
  refine A_aload_n (i := 0) (f := 0) (by omega) rfl (by decide +kernel) rfl ?_
  refine B_getr (o' := ((o + 1 : Nat) : Int)) (q := (RX0, TX0, 9)) (ci := 0) (j := 0) (by decide +kernel) rfl (by decide) rfl (by omega) fl_0_9 rfl ?_
  refine A_iconst (a := 0) (by decide +kernel) (by unfold in32; omega) ?_
  refine A_iconst (a := 5) (by decide +kernel) (by unfold in32; omega) ?_
  refine B_copy (M' := (mcpy M (p1 + 1) (o + 1) 5)) (by decide +kernel) (by omega) (Nat.le_of_ble_eq_true rfl) lk_0_48 jna_copy jst_copy jin_sys ⟨by omega, h.1.1, h.1.2⟩ rfl ?_
  have h1 := h.2
  refine A_aload_n (i := 1) (f := 1) (by omega) rfl (by decide +kernel) rfl ?_
  refine B_getr (o' := ((p1 + 2 : Nat) : Int)) (q := (RX0, TX0, 9)) (ci := 0) (j := 1) (by decide +kernel) rfl (by decide) rfl (by omega) fl_0_15 rfl ?_
  refine A_iconst (a := 0) (by decide +kernel) (by unfold in32; omega) ?_
  refine A_aload_n (i := 0) (f := 0) (by omega) rfl (by decide +kernel) rfl ?_
  refine B_getr (o' := ((o + 2 : Nat) : Int)) (q := (RX0, TX0, 9)) (ci := 0) (j := 1) (by decide +kernel) rfl (by decide) rfl (by omega) fl_0_15 rfl ?_
  refine A_iconst (a := 0) (by decide +kernel) (by unfold in32; omega) ?_
  refine A_iconst (a := 5) (by decide +kernel) (by unfold in32; omega) ?_
  refine B_copy (M' := (mcpy (mcpy M (p1 + 1) (o + 1) 5) (p1 + 2) (o + 2) 5)) (by decide +kernel) (by omega) (Nat.le_of_ble_eq_true rfl) lk_0_48 jna_copy jst_copy jin_sys ⟨by omega, h1.1.1, h1.1.2⟩ rfl ?_
  have h2 := h1.2
  refine A_aload_n (i := 0) (f := 0) (by omega) rfl (by decide +kernel) rfl ?_
  refine A_aload_n (i := 1) (f := 1) (by omega) rfl (by decide +kernel) rfl ?_
  refine B_getp (v := ((mcpy (mcpy M (p1 + 1) (o + 1) 5) (p1 + 2) (o + 2) 5) p1 2)) (q := (RX0, TX0, 9)) (ci := 0) (j := 2) (p := 2) (by decide +kernel) rfl (by decide) rfl (Or.inl rfl) fl_0_28 rfl ?_
  refine B_putp (M' := (mset (mcpy (mcpy M (p1 + 1) (o + 1) 5) (p1 + 2) (o + 2) 5) o 2 ((mcpy (mcpy M (p1 + 1) (o + 1) 5) (p1 + 2) (o + 2) 5) p1 2))) (q := (RX0, TX0, 9)) (ci := 0) (j := 2) (p := 2) (by decide +kernel) rfl (by decide) rfl (Or.inl ⟨rfl, rfl⟩) rfl fl_0_28 rfl ?_
  refine A_aload_n (i := 1) (f := 1) (by omega) rfl (by decide +kernel) rfl ?_
  refine B_getr (o' := ((p1 + 3 : Nat) : Int)) (q := (RX0, TX0, 9)) (ci := 0) (j := 3) (by decide +kernel) rfl (by decide) rfl (by omega) fl_0_18 rfl ?_
  refine A_iconst (a := 0) (by decide +kernel) (by unfold in32; omega) ?_
  refine A_aload_n (i := 0) (f := 0) (by omega) rfl (by decide +kernel) rfl ?_
  refine B_getr (o' := ((o + 3 : Nat) : Int)) (q := (RX0, TX0, 9)) (ci := 0) (j := 3) (by decide +kernel) rfl (by decide) rfl (by omega) fl_0_18 rfl ?_
  refine A_iconst (a := 0) (by decide +kernel) (by unfold in32; omega) ?_
  refine A_iconst (a := 5) (by decide +kernel) (by unfold in32; omega) ?_
  refine B_copy (M' := (mcpy (mset (mcpy (mcpy M (p1 + 1) (o + 1) 5) (p1 + 2) (o + 2) 5) o 2 ((mcpy (mcpy M (p1 + 1) (o + 1) 5) (p1 + 2) (o + 2) 5) p1 2)) (p1 + 3) (o + 3) 5)) (by decide +kernel) (by omega) (Nat.le_of_ble_eq_true rfl) lk_0_48 jna_copy jst_copy jin_sys ⟨by omega, h2.1.1, h2.1.2⟩ rfl ?_
  have h3 := h2.2
  refine A_aload_n (i := 0) (f := 0) (by omega) rfl (by decide +kernel) rfl ?_
  refine A_aload_n (i := 1) (f := 1) (by omega) rfl (by decide +kernel) rfl ?_
  refine B_getp (v := ((mcpy (mset (mcpy (mcpy M (p1 + 1) (o + 1) 5) (p1 + 2) (o + 2) 5) o 2 ((mcpy (mcpy M (p1 + 1) (o + 1) 5) (p1 + 2) (o + 2) 5) p1 2)) (p1 + 3) (o + 3) 5) p1 4)) (q := (RX0, TX0, 9)) (ci := 0) (j := 4) (p := 4) (by decide +kernel) rfl (by decide) rfl (Or.inl rfl) fl_0_32 rfl ?_
  refine B_putp (M' := (mset (mcpy (mset (mcpy (mcpy M (p1 + 1) (o + 1) 5) (p1 + 2) (o + 2) 5) o 2 ((mcpy (mcpy M (p1 + 1) (o + 1) 5) (p1 + 2) (o + 2) 5) p1 2)) (p1 + 3) (o + 3) 5) o 4 ((mcpy (mset (mcpy (mcpy M (p1 + 1) (o + 1) 5) (p1 + 2) (o + 2) 5) o 2 ((mcpy (mcpy M (p1 + 1) (o + 1) 5) (p1 + 2) (o + 2) 5) p1 2)) (p1 + 3) (o + 3) 5) p1 4))) (q := (RX0, TX0, 9)) (ci := 0) (j := 4) (p := 4) (by decide +kernel) rfl (by decide) rfl (Or.inl ⟨rfl, rfl⟩) rfl fl_0_32 rfl ?_
  refine A_aload_n (i := 0) (f := 0) (by omega) rfl (by decide +kernel) rfl ?_
  refine B_getr (o' := ((o + 4 : Nat) : Int)) (q := (RX0, TX0, 9)) (ci := 0) (j := 5) (by decide +kernel) rfl (by decide) rfl (by omega) fl_0_24 rfl ?_
  refine A_aload_n (i := 1) (f := 1) (by omega) rfl (by decide +kernel) rfl ?_
  refine B_getr (o' := ((p1 + 4 : Nat) : Int)) (q := (RX0, TX0, 9)) (ci := 0) (j := 5) (by decide +kernel) rfl (by decide) rfl (by omega) fl_0_24 rfl ?_
  refine A_cVd (q := (RX3, TX3, 6)) (ci := 3) (o := ((o + 4 : Nat) : Int)) (args := [(13, ((p1 + 4 : Nat) : Int))]) (st := []) (by decide +kernel) cv_m3_take rfl rfl in_m3_take se_m3_take lk_0_54 rfl (by omega) (Nat.le_of_ble_eq_true rfl) h3 (fun M5 h6 => ?_)
  refine A_aload_n (i := 0) (f := 0) (by omega) rfl (by decide +kernel) rfl ?_
  refine A_aload_n (i := 1) (f := 1) (by omega) rfl (by decide +kernel) rfl ?_
  refine B_getp (v := (M5 p1 6)) (q := (RX0, TX0, 9)) (ci := 0) (j := 6) (p := 6) (by decide +kernel) rfl (by decide) rfl (Or.inl rfl) fl_0_38 rfl ?_
  refine B_putp (M' := (mset M5 o 6 (M5 p1 6))) (q := (RX0, TX0, 9)) (ci := 0) (j := 6) (p := 6) (by decide +kernel) rfl (by decide) rfl (Or.inl ⟨rfl, rfl⟩) rfl fl_0_38 rfl ?_
  refine A_aload_n (i := 0) (f := 0) (by omega) rfl (by decide +kernel) rfl ?_
  refine A_aload_n (i := 1) (f := 1) (by omega) rfl (by decide +kernel) rfl ?_
  refine B_getp (v := ((mset M5 o 6 (M5 p1 6)) p1 7)) (q := (RX0, TX0, 9)) (ci := 0) (j := 7) (p := 7) (by decide +kernel) rfl (by decide) rfl (Or.inr rfl) fl_0_41 rfl ?_
  refine B_putp (M' := (mset (mset M5 o 6 (M5 p1 6)) o 7 ((mset M5 o 6 (M5 p1 6)) p1 7))) (q := (RX0, TX0, 9)) (ci := 0) (j := 7) (p := 7) (by decide +kernel) rfl (by decide) rfl (Or.inr ⟨rfl, rfl, h6.1⟩) rfl fl_0_41 rfl ?_
  have h7 := h6.2
  refine A_aload_n (i := 0) (f := 0) (by omega) rfl (by decide +kernel) rfl ?_
  refine A_aload_n (i := 1) (f := 1) (by omega) rfl (by decide +kernel) rfl ?_
  refine B_getp (v := ((mset (mset M5 o 6 (M5 p1 6)) o 7 ((mset M5 o 6 (M5 p1 6)) p1 7)) p1 8)) (q := (RX0, TX0, 9)) (ci := 0) (j := 8) (p := 8) (by decide +kernel) rfl (by decide) rfl (Or.inr rfl) fl_0_45 rfl ?_
  refine B_putp (M' := (mset (mset (mset M5 o 6 (M5 p1 6)) o 7 ((mset M5 o 6 (M5 p1 6)) p1 7)) o 8 ((mset (mset M5 o 6 (M5 p1 6)) o 7 ((mset M5 o 6 (M5 p1 6)) p1 7)) p1 8))) (q := (RX0, TX0, 9)) (ci := 0) (j := 8) (p := 8) (by decide +kernel) rfl (by decide) rfl (Or.inr ⟨rfl, rfl, h7.1⟩) rfl fl_0_45 rfl ?_
  have h8 := h7.2
  exact A_ret ⟨by decide +kernel, rfl⟩ ⟨rfl, h8⟩
theorem q_0_personNamed {o : Nat} {x1 : Int} {M : Mem} {P : Int → Mem → Prop} (h : (CI m0_numberOf 2 [(30, ((o + 1 : Nat) : Int)), (0, (M o 2)), (0, x1)] M (fun r1 M2 => (P r1 M2)))) : CI m0_personNamed 3 [(10, (o : Int)), (0, x1)] M P := by
  refine CI_of (by decide +kernel) (Nat.le_of_ble_eq_true rfl) ?_
  show A m0_personNamed 3 0 0 [(10, (o : Int)), (0, x1)] [] M (Ki P)
  refine A_aload_n (i := 0) (f := 0) (by omega) rfl (by decide +kernel) rfl ?_
  refine B_getr (o' := ((o + 1 : Nat) : Int)) (q := (RX0, TX0, 9)) (ci := 0) (j := 0) (by decide +kernel) rfl (by decide) rfl (by omega) fl_0_9 rfl ?_
  refine A_aload_n (i := 0) (f := 0) (by omega) rfl (by decide +kernel) rfl ?_
  refine B_getp (v := (M o 2)) (q := (RX0, TX0, 9)) (ci := 0) (j := 2) (p := 2) (by decide +kernel) rfl (by decide) rfl (Or.inl rfl) fl_0_28 rfl ?_
  refine A_iload_n (i := 1) (f := 1) rfl (by decide +kernel) rfl ?_
  refine A_cSi (args := [(30, ((o + 1 : Nat) : Int)), (0, (M o 2)), (0, x1)]) (st := []) (by decide +kernel) cv_m0_numberOf st_m0_numberOf lk_0_58 rfl (by omega) (Nat.le_of_ble_eq_true rfl) h (fun r1 M2 _ h3 => ?_)
  exact A_ret ⟨by decide +kernel, Or.inl rfl⟩ ⟨_, rfl, h3⟩
theorem q_0_partNamed {o : Nat} {x1 : Int} {M : Mem} {P : Int → Mem → Prop} (h : (CI m0_numberOf 2 [(30, ((o + 3 : Nat) : Int)), (0, (M o 4)), (0, x1)] M (fun r1 M2 => (P r1 M2)))) : CI m0_partNamed 3 [(10, (o : Int)), (0, x1)] M P := by
  refine CI_of (by decide +kernel) (Nat.le_of_ble_eq_true rfl) ?_
  show A m0_partNamed 3 0 0 [(10, (o : Int)), (0, x1)] [] M (Ki P)
  refine A_aload_n (i := 0) (f := 0) (by omega) rfl (by decide +kernel) rfl ?_
  refine B_getr (o' := ((o + 3 : Nat) : Int)) (q := (RX0, TX0, 9)) (ci := 0) (j := 3) (by decide +kernel) rfl (by decide) rfl (by omega) fl_0_18 rfl ?_
  refine A_aload_n (i := 0) (f := 0) (by omega) rfl (by decide +kernel) rfl ?_
  refine B_getp (v := (M o 4)) (q := (RX0, TX0, 9)) (ci := 0) (j := 4) (p := 4) (by decide +kernel) rfl (by decide) rfl (Or.inl rfl) fl_0_32 rfl ?_
  refine A_iload_n (i := 1) (f := 1) rfl (by decide +kernel) rfl ?_
  refine A_cSi (args := [(30, ((o + 3 : Nat) : Int)), (0, (M o 4)), (0, x1)]) (st := []) (by decide +kernel) cv_m0_numberOf st_m0_numberOf lk_0_58 rfl (by omega) (Nat.le_of_ble_eq_true rfl) h (fun r1 M2 _ h3 => ?_)
  exact A_ret ⟨by decide +kernel, Or.inl rfl⟩ ⟨_, rfl, h3⟩
theorem q_0_numberOf {p0 : Nat} {x1 : Int} {x2 : Int} {M : Mem} {P : Int → Mem → Prop} (h : A m0_numberOf 2 0 2 [(30, (p0 : Int)), (0, x1), (0, x2), (0, 0)] [] M (Ki P)) : CI m0_numberOf 2 [(30, (p0 : Int)), (0, x1), (0, x2)] M P := by
  refine CI_of (by decide +kernel) (Nat.le_of_ble_eq_true rfl) ?_
  show A m0_numberOf 2 0 0 [(30, (p0 : Int)), (0, x1), (0, x2), (2, 0)] [] M (Ki P)
  refine A_iconst (a := 0) (by decide +kernel) (by unfold in32; omega) ?_
  refine A_istore_n (i := 3) (f := 3) rfl (by decide +kernel) (by decide) (fun w h0 hw => by simp at hw; first | (rw [← hw]; decide) | (rw [← hw]; simp)) ?_
  exact A_weak (lsub.keep (lsub.keep (lsub.keep (lsub.keep lsub.nil)))) h
theorem r_0_numberOf_2 {p0 : Nat} {x1 : Int} {x2 : Int} {x3 : Int} {M : Mem} {P : Int → Mem → Prop} (h : ((x1 ≤ x3 → (P (-1) M)) ∧ (x3 < x1 → (CI m10_at 1 [(30, (p0 : Int)), (0, x3)] M (fun r4 M5 => ((r4 ≠ x2 → A m0_numberOf 2 0 2 [(30, (p0 : Int)), (0, x1), (0, x2), (0, (w32 (x3 + 1)))] [] M5 (Ki P)) ∧ (r4 = x2 → (P x3 M5)))))))) : A m0_numberOf 2 0 2 [(30, (p0 : Int)), (0, x1), (0, x2), (0, x3)] [] M (Ki P) := by
  refine A_iload_n (i := 3) (f := 3) rfl (by decide +kernel) rfl ?_
  refine A_iload_n (i := 1) (f := 1) rfl (by decide +kernel) rfl ?_
  refine A_ic_ge (off := 20) (tgt := 24) (by decide +kernel) (by omega) (fun b1 => ?_) (fun b1 => ?_)
  · have h2 := h.1 b1
    refine A_iconst (a := (-1)) (by decide +kernel) (by unfold in32; omega) ?_
    exact A_ret ⟨by decide +kernel, Or.inl rfl⟩ ⟨_, rfl, h2⟩
  · have h3 := h.2 (Int.not_le.mp b1)
    refine A_aload_n (i := 0) (f := 0) (by omega) rfl (by decide +kernel) rfl ?_
    refine A_iload_n (i := 3) (f := 3) rfl (by decide +kernel) rfl ?_
    refine A_cSNi (args := [(30, (p0 : Int)), (0, x3)]) (st := []) (by decide +kernel) cv_m10_at st_m10_at lk_0_62 rfl (by omega) (Nat.le_of_ble_eq_true rfl) h3 (fun r4 M5 _ h6 => ?_)
    refine A_iload_n (i := 2) (f := 2) rfl (by decide +kernel) rfl ?_
    refine A_ic_ne (off := 5) (tgt := 18) (by decide +kernel) (by omega) (fun b7 => ?_) (fun b7 => ?_)
    · have h8 := h6.1 b7
      refine A_iinc (i := 3) (n := 1) (by decide +kernel) (by decide) rfl (fun w h0 hw => by simp at hw; first | (rw [← hw]; decide) | (rw [← hw]; simp)) ?_
      refine A_goto (off := (-19)) (tgt := 2) (by decide +kernel) (by omega) ?_
      exact A_weak (lsub.keep (lsub.keep (lsub.keep (lsub.keep lsub.nil)))) h8
    · have h9 := h6.2 (Decidable.not_not.mp b7)
      refine A_iload_n (i := 3) (f := 3) rfl (by decide +kernel) rfl ?_
      exact A_ret ⟨by decide +kernel, Or.inl rfl⟩ ⟨_, rfl, h9⟩
theorem q_0_addPerson {o : Nat} {x1 : Int} {x2 : Int} {M : Mem} {P : Mem → Prop} (h : (CD m10_put 1 [(30, ((o + 1 : Nat) : Int)), (0, (M o 2)), (0, x1)] M (fun M2 => (CD m10_put 1 [(30, ((o + 2 : Nat) : Int)), (0, (M2 o 2)), (0, x2)] M2 (fun M5 => (P (mset M5 o 2 (w32 ((M5 o 2) + 1))))))))) : CD m0_addPerson 2 [(10, (o : Int)), (0, x1), (0, x2)] M P := by
  refine CD_of (by decide +kernel) (Nat.le_of_ble_eq_true rfl) ?_
  show A m0_addPerson 2 0 0 [(10, (o : Int)), (0, x1), (0, x2)] [] M (Kd P)
  refine A_aload_n (i := 0) (f := 0) (by omega) rfl (by decide +kernel) rfl ?_
  refine B_getr (o' := ((o + 1 : Nat) : Int)) (q := (RX0, TX0, 9)) (ci := 0) (j := 0) (by decide +kernel) rfl (by decide) rfl (by omega) fl_0_9 rfl ?_
  refine A_aload_n (i := 0) (f := 0) (by omega) rfl (by decide +kernel) rfl ?_
  refine B_getp (v := (M o 2)) (q := (RX0, TX0, 9)) (ci := 0) (j := 2) (p := 2) (by decide +kernel) rfl (by decide) rfl (Or.inl rfl) fl_0_28 rfl ?_
  refine A_iload_n (i := 1) (f := 1) rfl (by decide +kernel) rfl ?_
  refine A_cSNd (args := [(30, ((o + 1 : Nat) : Int)), (0, (M o 2)), (0, x1)]) (st := []) (by decide +kernel) cv_m10_put st_m10_put lk_0_66 rfl (by omega) (Nat.le_of_ble_eq_true rfl) h (fun M2 h3 => ?_)
  refine A_aload_n (i := 0) (f := 0) (by omega) rfl (by decide +kernel) rfl ?_
  refine B_getr (o' := ((o + 2 : Nat) : Int)) (q := (RX0, TX0, 9)) (ci := 0) (j := 1) (by decide +kernel) rfl (by decide) rfl (by omega) fl_0_15 rfl ?_
  refine A_aload_n (i := 0) (f := 0) (by omega) rfl (by decide +kernel) rfl ?_
  refine B_getp (v := (M2 o 2)) (q := (RX0, TX0, 9)) (ci := 0) (j := 2) (p := 2) (by decide +kernel) rfl (by decide) rfl (Or.inl rfl) fl_0_28 rfl ?_
  refine A_iload_n (i := 2) (f := 2) rfl (by decide +kernel) rfl ?_
  refine A_cSNd (args := [(30, ((o + 2 : Nat) : Int)), (0, (M2 o 2)), (0, x2)]) (st := []) (by decide +kernel) cv_m10_put st_m10_put lk_0_66 rfl (by omega) (Nat.le_of_ble_eq_true rfl) h3 (fun M5 h6 => ?_)
  refine A_aload_n (i := 0) (f := 0) (by omega) rfl (by decide +kernel) rfl ?_
  refine A_dup (by decide +kernel) (by simp) ?_
  refine B_getp (v := (M5 o 2)) (q := (RX0, TX0, 9)) (ci := 0) (j := 2) (p := 2) (by decide +kernel) rfl (by decide) rfl (Or.inl rfl) fl_0_28 rfl ?_
  refine A_iconst (a := 1) (by decide +kernel) (by unfold in32; omega) ?_
  refine A_iadd (by decide +kernel) ?_
  refine B_putp (M' := (mset M5 o 2 (w32 ((M5 o 2) + 1)))) (q := (RX0, TX0, 9)) (ci := 0) (j := 2) (p := 2) (by decide +kernel) rfl (by decide) rfl (Or.inl ⟨rfl, rfl⟩) rfl fl_0_28 rfl ?_
  exact A_ret ⟨by decide +kernel, rfl⟩ ⟨rfl, h6⟩
theorem q_0_addPart {o : Nat} {x1 : Int} {M : Mem} {P : Mem → Prop} (h : (CD m10_put 1 [(30, ((o + 3 : Nat) : Int)), (0, (M o 4)), (0, x1)] M (fun M2 => (P (mset M2 o 4 (w32 ((M2 o 4) + 1))))))) : CD m0_addPart 2 [(10, (o : Int)), (0, x1)] M P := by
  refine CD_of (by decide +kernel) (Nat.le_of_ble_eq_true rfl) ?_
  show A m0_addPart 2 0 0 [(10, (o : Int)), (0, x1)] [] M (Kd P)
  refine A_aload_n (i := 0) (f := 0) (by omega) rfl (by decide +kernel) rfl ?_
  refine B_getr (o' := ((o + 3 : Nat) : Int)) (q := (RX0, TX0, 9)) (ci := 0) (j := 3) (by decide +kernel) rfl (by decide) rfl (by omega) fl_0_18 rfl ?_
  refine A_aload_n (i := 0) (f := 0) (by omega) rfl (by decide +kernel) rfl ?_
  refine B_getp (v := (M o 4)) (q := (RX0, TX0, 9)) (ci := 0) (j := 4) (p := 4) (by decide +kernel) rfl (by decide) rfl (Or.inl rfl) fl_0_32 rfl ?_
  refine A_iload_n (i := 1) (f := 1) rfl (by decide +kernel) rfl ?_
  refine A_cSNd (args := [(30, ((o + 3 : Nat) : Int)), (0, (M o 4)), (0, x1)]) (st := []) (by decide +kernel) cv_m10_put st_m10_put lk_0_66 rfl (by omega) (Nat.le_of_ble_eq_true rfl) h (fun M2 h3 => ?_)
  refine A_aload_n (i := 0) (f := 0) (by omega) rfl (by decide +kernel) rfl ?_
  refine A_dup (by decide +kernel) (by simp) ?_
  refine B_getp (v := (M2 o 4)) (q := (RX0, TX0, 9)) (ci := 0) (j := 4) (p := 4) (by decide +kernel) rfl (by decide) rfl (Or.inl rfl) fl_0_32 rfl ?_
  refine A_iconst (a := 1) (by decide +kernel) (by unfold in32; omega) ?_
  refine A_iadd (by decide +kernel) ?_
  refine B_putp (M' := (mset M2 o 4 (w32 ((M2 o 4) + 1)))) (q := (RX0, TX0, 9)) (ci := 0) (j := 4) (p := 4) (by decide +kernel) rfl (by decide) rfl (Or.inl ⟨rfl, rfl⟩) rfl fl_0_32 rfl ?_
  exact A_ret ⟨by decide +kernel, rfl⟩ ⟨rfl, h3⟩
