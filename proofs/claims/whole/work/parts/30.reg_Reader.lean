/-! CourtTongue$Reader: its regions (made by wip/whole/gall.py) -/
theorem q_7_open {x1 : Int} {M : Mem} {P : Mem → Prop} (h : (CD m0_clear 2 [(10, ((5 : Nat) : Int))] M (fun M2 => (CD m2_clear 1 [(12, ((14 : Nat) : Int))] M2 (fun M5 => (CD m7_next 3 [(17, ((2 : Nat) : Int))] (mset (mset (mset (mset (mset M5 2 2 0) 2 3 0) 2 4 (-1)) 2 12 x1) 2 13 0) (fun M8 => (P M8)))))))) : CD m7_open 4 [(17, ((2 : Nat) : Int)), (0, x1)] M P := by
  refine CD_of (by decide +kernel) (Nat.le_of_ble_eq_true rfl) ?_
  show A m7_open 4 0 0 [(17, ((2 : Nat) : Int)), (0, x1)] [] M (Kd P)
  refine A_aload_n (i := 0) (f := 0) (by omega) rfl (by decide +kernel) rfl ?_
  refine B_getr (o' := ((5 : Nat) : Int)) (q := (RX7, TX7, 18)) (ci := 7) (j := 1) (by decide +kernel) rfl (by decide) rfl (by omega) fl_7_18 rfl ?_
  refine A_cVd (q := (RX0, TX0, 9)) (ci := 0) (o := ((5 : Nat) : Int)) (args := []) (st := []) (by decide +kernel) cv_m0_clear rfl rfl in_m0_clear se_m0_clear lk_7_66 rfl (by omega) (Nat.le_of_ble_eq_true rfl) h (fun M2 h3 => ?_)
  refine A_aload_n (i := 0) (f := 0) (by omega) rfl (by decide +kernel) rfl ?_
  refine B_getr (o' := ((14 : Nat) : Int)) (q := (RX7, TX7, 18)) (ci := 7) (j := 2) (by decide +kernel) rfl (by decide) rfl (by omega) fl_7_25 rfl ?_
  refine A_cVd (q := (RX2, TX2, 2)) (ci := 2) (o := ((14 : Nat) : Int)) (args := []) (st := []) (by decide +kernel) cv_m2_clear rfl rfl in_m2_clear se_m2_clear lk_7_69 rfl (by omega) (Nat.le_of_ble_eq_true rfl) h3 (fun M5 h6 => ?_)
  refine A_aload_n (i := 0) (f := 0) (by omega) rfl (by decide +kernel) rfl ?_
  refine A_iconst (a := 0) (by decide +kernel) (by unfold in32; omega) ?_
  refine B_putp (M' := (mset M5 2 2 0)) (q := (RX7, TX7, 18)) (ci := 7) (j := 3) (p := 2) (by decide +kernel) rfl (by decide) rfl (Or.inl ⟨rfl, rfl⟩) rfl fl_7_70 rfl ?_
  refine A_aload_n (i := 0) (f := 0) (by omega) rfl (by decide +kernel) rfl ?_
  refine A_iconst (a := 0) (by decide +kernel) (by unfold in32; omega) ?_
  refine B_putp (M' := (mset (mset M5 2 2 0) 2 3 0)) (q := (RX7, TX7, 18)) (ci := 7) (j := 4) (p := 3) (by decide +kernel) rfl (by decide) rfl (Or.inl ⟨rfl, rfl⟩) rfl fl_7_73 rfl ?_
  refine A_aload_n (i := 0) (f := 0) (by omega) rfl (by decide +kernel) rfl ?_
  refine A_iconst (a := (-1)) (by decide +kernel) (by unfold in32; omega) ?_
  refine B_putp (M' := (mset (mset (mset M5 2 2 0) 2 3 0) 2 4 (-1))) (q := (RX7, TX7, 18)) (ci := 7) (j := 5) (p := 4) (by decide +kernel) rfl (by decide) rfl (Or.inl ⟨rfl, rfl⟩) rfl fl_7_29 rfl ?_
  refine A_aload_n (i := 0) (f := 0) (by omega) rfl (by decide +kernel) rfl ?_
  refine A_iload_n (i := 1) (f := 1) rfl (by decide +kernel) rfl ?_
  refine B_putp (M' := (mset (mset (mset (mset M5 2 2 0) 2 3 0) 2 4 (-1)) 2 12 x1)) (q := (RX7, TX7, 18)) (ci := 7) (j := 12) (p := 12) (by decide +kernel) rfl (by decide) rfl (Or.inl ⟨rfl, rfl⟩) rfl fl_7_76 rfl ?_
  refine A_aload_n (i := 0) (f := 0) (by omega) rfl (by decide +kernel) rfl ?_
  refine A_iconst (a := 0) (by decide +kernel) (by unfold in32; omega) ?_
  refine B_putp (M' := (mset (mset (mset (mset (mset M5 2 2 0) 2 3 0) 2 4 (-1)) 2 12 x1) 2 13 0)) (q := (RX7, TX7, 18)) (ci := 7) (j := 13) (p := 13) (by decide +kernel) rfl (by decide) rfl (Or.inl ⟨rfl, rfl⟩) rfl fl_7_78 rfl ?_
  refine A_aload_n (i := 0) (f := 0) (by omega) rfl (by decide +kernel) rfl ?_
  refine A_cVd (q := (RX7, TX7, 18)) (ci := 7) (o := ((2 : Nat) : Int)) (args := []) (st := []) (by decide +kernel) cv_m7_next rfl rfl in_m7_next se_m7_next lk_7_81 rfl (by omega) (Nat.le_of_ble_eq_true rfl) h6 (fun M8 h9 => ?_)
  exact A_ret ⟨by decide +kernel, rfl⟩ ⟨rfl, h9⟩
theorem q_7_isGoing  {M : Mem} {P : Int → Mem → Prop} (h : (((M 2 15) = 0 → (P 0 M)) ∧ ((M 2 15) ≠ 0 → (((M 2 3) ≠ 0 → (P 0 M)) ∧ ((M 2 3) = 0 → (P 1 M)))))) : CI m7_isGoing 1 [(17, ((2 : Nat) : Int))] M P := by
  refine CI_of (by decide +kernel) (Nat.le_of_ble_eq_true rfl) ?_
  show A m7_isGoing 1 0 0 [(17, ((2 : Nat) : Int))] [] M (Ki P)
  refine A_aload_n (i := 0) (f := 0) (by omega) rfl (by decide +kernel) rfl ?_
  refine B_getp (v := (M 2 15)) (q := (RX7, TX7, 18)) (ci := 7) (j := 15) (p := 15) (by decide +kernel) rfl (by decide) rfl (Or.inl rfl) fl_7_84 rfl ?_
  refine A_if_eq (off := 14) (tgt := 18) (by decide +kernel) (by omega) (fun b1 => ?_) (fun b1 => ?_)
  · have h2 := h.1 b1
    refine A_iconst (a := 0) (by decide +kernel) (by unfold in32; omega) ?_
    exact A_ret ⟨by decide +kernel, Or.inr ⟨rfl, by decide⟩⟩ ⟨_, rfl, h2⟩
  · have h3 := h.2 b1
    refine A_aload_n (i := 0) (f := 0) (by omega) rfl (by decide +kernel) rfl ?_
    refine B_getp (v := (M 2 3)) (q := (RX7, TX7, 18)) (ci := 7) (j := 4) (p := 3) (by decide +kernel) rfl (by decide) rfl (Or.inl rfl) fl_7_73 rfl ?_
    refine A_if_ne (off := 7) (tgt := 18) (by decide +kernel) (by omega) (fun b4 => ?_) (fun b4 => ?_)
    · have h5 := h3.1 b4
      refine A_iconst (a := 0) (by decide +kernel) (by unfold in32; omega) ?_
      exact A_ret ⟨by decide +kernel, Or.inr ⟨rfl, by decide⟩⟩ ⟨_, rfl, h5⟩
    · have h6 := h3.2 (Decidable.not_not.mp b4)
      refine A_iconst (a := 1) (by decide +kernel) (by unfold in32; omega) ?_
      refine A_goto (off := 4) (tgt := 19) (by decide +kernel) (by omega) ?_
      exact A_ret ⟨by decide +kernel, Or.inr ⟨rfl, by decide⟩⟩ ⟨_, rfl, h6⟩
theorem q_7_readLine  {M : Mem} {P : Mem → Prop} (h : (((M 2 15) ≠ 1 → (((-1) = 0 → (CI m7_readPerson 5 [(17, ((2 : Nat) : Int))] M (fun r6 M7 => ((r6 = 0 → (P M7)) ∧ (r6 ≠ 0 → (CD m7_endLine 4 [(17, ((2 : Nat) : Int))] M7 (fun M13 => (P M13)))))))) ∧ (((-1) = 1 → (CI m7_readFact 5 [(17, ((2 : Nat) : Int)), (0, 0)] M (fun r16 M17 => ((r16 = 0 → (P M17)) ∧ (r16 ≠ 0 → (CD m7_endLine 4 [(17, ((2 : Nat) : Int))] M17 (fun M23 => (P M23)))))))) ∧ (((-1) = 2 → (CI m7_readFact 5 [(17, ((2 : Nat) : Int)), (0, 1)] M (fun r26 M27 => ((r26 = 0 → (P M27)) ∧ (r26 ≠ 0 → (CD m7_endLine 4 [(17, ((2 : Nat) : Int))] M27 (fun M33 => (P M33)))))))) ∧ (((-1) = 3 → (CI m7_readPartName 4 [(17, ((2 : Nat) : Int))] M (fun r36 M37 => ((r36 = 0 → (P M37)) ∧ (r36 ≠ 0 → (CI m7_readFormula 5 [(17, ((2 : Nat) : Int)), (0, (w32 ((M37 5 4) - 1)))] M37 (fun r42 M43 => ((r42 = 0 → (P M43)) ∧ (r42 ≠ 0 → (CD m7_endLine 4 [(17, ((2 : Nat) : Int))] M43 (fun M49 => (P M49)))))))))))) ∧ (((-1) = 4 → (CI m7_readSeason 5 [(17, ((2 : Nat) : Int))] M (fun r52 M53 => ((r52 = 0 → (P M53)) ∧ (r52 ≠ 0 → (CD m7_endLine 4 [(17, ((2 : Nat) : Int))] M53 (fun M59 => (P M59)))))))) ∧ (((-1) = 5 → (CI m7_readRiseWord 4 [(17, ((2 : Nat) : Int))] M (fun r62 M63 => ((r62 = 0 → (P M63)) ∧ (r62 ≠ 0 → (CI m7_readFormula 5 [(17, ((2 : Nat) : Int)), (0, 5)] M63 (fun r68 M69 => ((r68 = 0 → (P M69)) ∧ (r68 ≠ 0 → (CD m7_endLine 4 [(17, ((2 : Nat) : Int))] M69 (fun M75 => (P M75)))))))))))) ∧ (((-1) < 0 ∨ 5 < (-1)) → (CI m7_fail 1 [(17, ((2 : Nat) : Int)), (0, 1)] M (fun r78 M79 => (P M79))))))))))) ∧ ((M 2 15) = 1 → (CI m7_languageWord 1 [(17, ((2 : Nat) : Int)), (0, (M 2 16))] M (fun r81 M82 => ((r81 = 0 → (CI m7_readPerson 5 [(17, ((2 : Nat) : Int))] M82 (fun r86 M87 => ((r86 = 0 → (P M87)) ∧ (r86 ≠ 0 → (CD m7_endLine 4 [(17, ((2 : Nat) : Int))] M87 (fun M93 => (P M93)))))))) ∧ ((r81 = 1 → (CI m7_readFact 5 [(17, ((2 : Nat) : Int)), (0, 0)] M82 (fun r96 M97 => ((r96 = 0 → (P M97)) ∧ (r96 ≠ 0 → (CD m7_endLine 4 [(17, ((2 : Nat) : Int))] M97 (fun M103 => (P M103)))))))) ∧ ((r81 = 2 → (CI m7_readFact 5 [(17, ((2 : Nat) : Int)), (0, 1)] M82 (fun r106 M107 => ((r106 = 0 → (P M107)) ∧ (r106 ≠ 0 → (CD m7_endLine 4 [(17, ((2 : Nat) : Int))] M107 (fun M113 => (P M113)))))))) ∧ ((r81 = 3 → (CI m7_readPartName 4 [(17, ((2 : Nat) : Int))] M82 (fun r116 M117 => ((r116 = 0 → (P M117)) ∧ (r116 ≠ 0 → (CI m7_readFormula 5 [(17, ((2 : Nat) : Int)), (0, (w32 ((M117 5 4) - 1)))] M117 (fun r122 M123 => ((r122 = 0 → (P M123)) ∧ (r122 ≠ 0 → (CD m7_endLine 4 [(17, ((2 : Nat) : Int))] M123 (fun M129 => (P M129)))))))))))) ∧ ((r81 = 4 → (CI m7_readSeason 5 [(17, ((2 : Nat) : Int))] M82 (fun r132 M133 => ((r132 = 0 → (P M133)) ∧ (r132 ≠ 0 → (CD m7_endLine 4 [(17, ((2 : Nat) : Int))] M133 (fun M139 => (P M139)))))))) ∧ ((r81 = 5 → (CI m7_readRiseWord 4 [(17, ((2 : Nat) : Int))] M82 (fun r142 M143 => ((r142 = 0 → (P M143)) ∧ (r142 ≠ 0 → (CI m7_readFormula 5 [(17, ((2 : Nat) : Int)), (0, 5)] M143 (fun r148 M149 => ((r148 = 0 → (P M149)) ∧ (r148 ≠ 0 → (CD m7_endLine 4 [(17, ((2 : Nat) : Int))] M149 (fun M155 => (P M155)))))))))))) ∧ ((r81 < 0 ∨ 5 < r81) → (CI m7_fail 1 [(17, ((2 : Nat) : Int)), (0, 1)] M82 (fun r158 M159 => (P M159))))))))))))))) : CD m7_readLine 6 [(17, ((2 : Nat) : Int))] M P := by
  refine CD_of (by decide +kernel) (Nat.le_of_ble_eq_true rfl) ?_
  show A m7_readLine 6 0 0 [(17, ((2 : Nat) : Int)), (2, 0)] [] M (Kd P)
  refine A_iconst (a := 0) (by decide +kernel) (by unfold in32; omega) ?_
  refine A_istore_n (i := 1) (f := 1) rfl (by decide +kernel) (by decide) (fun w h0 hw => by simp at hw; first | (rw [← hw]; decide) | (rw [← hw]; simp)) ?_
  refine A_aload_n (i := 0) (f := 0) (by omega) rfl (by decide +kernel) rfl ?_
  refine B_getp (v := (M 2 15)) (q := (RX7, TX7, 18)) (ci := 7) (j := 15) (p := 15) (by decide +kernel) rfl (by decide) rfl (Or.inl rfl) fl_7_84 rfl ?_
  refine A_iconst (a := 1) (by decide +kernel) (by unfold in32; omega) ?_
  refine A_ic_ne (off := 14) (tgt := 21) (by decide +kernel) (by omega) (fun b1 => ?_) (fun b1 => ?_)
  · have h2 := h.1 b1
    refine A_iconst (a := (-1)) (by decide +kernel) (by unfold in32; omega) ?_
    have hsw : (-1) = 0 ∨ (-1) = 1 ∨ (-1) = 2 ∨ (-1) = 3 ∨ (-1) = 4 ∨ (-1) = 5 ∨ ((-1) < 0 ∨ 5 < (-1)) := by omega
    rcases hsw with e4 | e4 | e4 | e4 | e4 | e4 | e4
    · have h5 := h2.1 e4
      refine A_tin (len := 38) (dflt := 128) (lo := 0) (hi := 5) (offs := #[38, 46, 55, 64, 96, 104]) (off := 38) (tgt := 60) (by decide +kernel) (by omega) (by omega) (by rw [e4]; rfl) (by omega) ?_
      refine A_aload_n (i := 0) (f := 0) (by omega) rfl (by decide +kernel) rfl ?_
      refine A_cVi (q := (RX7, TX7, 18)) (ci := 7) (o := ((2 : Nat) : Int)) (args := []) (st := []) (by decide +kernel) cv_m7_readPerson rfl rfl in_m7_readPerson se_m7_readPerson lk_7_93 rfl (by omega) (Nat.le_of_ble_eq_true rfl) h5 (fun r6 M7 _ h8 => ?_)
      refine A_istore_n (i := 1) (f := 1) rfl (by decide +kernel) (by decide) (fun w h0 hw => by simp at hw; first | (rw [← hw]; decide) | (rw [← hw]; simp)) ?_
      refine A_goto (off := 91) (tgt := 156) (by decide +kernel) (by omega) ?_
      refine A_iload_n (i := 1) (f := 1) rfl (by decide +kernel) rfl ?_
      refine A_if_eq (off := 7) (tgt := 164) (by decide +kernel) (by omega) (fun b9 => ?_) (fun b9 => ?_)
      · have h10 := h8.1 b9
        exact A_ret ⟨by decide +kernel, rfl⟩ ⟨rfl, h10⟩
      · have h11 := h8.2 b9
        refine A_aload_n (i := 0) (f := 0) (by omega) rfl (by decide +kernel) rfl ?_
        refine A_cVd (q := (RX7, TX7, 18)) (ci := 7) (o := ((2 : Nat) : Int)) (args := []) (st := []) (by decide +kernel) cv_m7_endLine rfl rfl in_m7_endLine se_m7_endLine lk_7_121 rfl (by omega) (Nat.le_of_ble_eq_true rfl) h11 (fun M13 h14 => ?_)
        exact A_ret ⟨by decide +kernel, rfl⟩ ⟨rfl, h14⟩
    · have h15 := h2.2.1 e4
      refine A_tin (len := 38) (dflt := 128) (lo := 0) (hi := 5) (offs := #[38, 46, 55, 64, 96, 104]) (off := 46) (tgt := 68) (by decide +kernel) (by omega) (by omega) (by rw [e4]; rfl) (by omega) ?_
      refine A_aload_n (i := 0) (f := 0) (by omega) rfl (by decide +kernel) rfl ?_
      refine A_iconst (a := 0) (by decide +kernel) (by unfold in32; omega) ?_
      refine A_cVi (q := (RX7, TX7, 18)) (ci := 7) (o := ((2 : Nat) : Int)) (args := [(0, 0)]) (st := []) (by decide +kernel) cv_m7_readFact rfl rfl in_m7_readFact se_m7_readFact lk_7_97 rfl (by omega) (Nat.le_of_ble_eq_true rfl) h15 (fun r16 M17 _ h18 => ?_)
      refine A_istore_n (i := 1) (f := 1) rfl (by decide +kernel) (by decide) (fun w h0 hw => by simp at hw; first | (rw [← hw]; decide) | (rw [← hw]; simp)) ?_
      refine A_goto (off := 82) (tgt := 156) (by decide +kernel) (by omega) ?_
      refine A_iload_n (i := 1) (f := 1) rfl (by decide +kernel) rfl ?_
      refine A_if_eq (off := 7) (tgt := 164) (by decide +kernel) (by omega) (fun b19 => ?_) (fun b19 => ?_)
      · have h20 := h18.1 b19
        exact A_ret ⟨by decide +kernel, rfl⟩ ⟨rfl, h20⟩
      · have h21 := h18.2 b19
        refine A_aload_n (i := 0) (f := 0) (by omega) rfl (by decide +kernel) rfl ?_
        refine A_cVd (q := (RX7, TX7, 18)) (ci := 7) (o := ((2 : Nat) : Int)) (args := []) (st := []) (by decide +kernel) cv_m7_endLine rfl rfl in_m7_endLine se_m7_endLine lk_7_121 rfl (by omega) (Nat.le_of_ble_eq_true rfl) h21 (fun M23 h24 => ?_)
        exact A_ret ⟨by decide +kernel, rfl⟩ ⟨rfl, h24⟩
    · have h25 := h2.2.2.1 e4
      refine A_tin (len := 38) (dflt := 128) (lo := 0) (hi := 5) (offs := #[38, 46, 55, 64, 96, 104]) (off := 55) (tgt := 77) (by decide +kernel) (by omega) (by omega) (by rw [e4]; rfl) (by omega) ?_
      refine A_aload_n (i := 0) (f := 0) (by omega) rfl (by decide +kernel) rfl ?_
      refine A_iconst (a := 1) (by decide +kernel) (by unfold in32; omega) ?_
      refine A_cVi (q := (RX7, TX7, 18)) (ci := 7) (o := ((2 : Nat) : Int)) (args := [(0, 1)]) (st := []) (by decide +kernel) cv_m7_readFact rfl rfl in_m7_readFact se_m7_readFact lk_7_97 rfl (by omega) (Nat.le_of_ble_eq_true rfl) h25 (fun r26 M27 _ h28 => ?_)
      refine A_istore_n (i := 1) (f := 1) rfl (by decide +kernel) (by decide) (fun w h0 hw => by simp at hw; first | (rw [← hw]; decide) | (rw [← hw]; simp)) ?_
      refine A_goto (off := 73) (tgt := 156) (by decide +kernel) (by omega) ?_
      refine A_iload_n (i := 1) (f := 1) rfl (by decide +kernel) rfl ?_
      refine A_if_eq (off := 7) (tgt := 164) (by decide +kernel) (by omega) (fun b29 => ?_) (fun b29 => ?_)
      · have h30 := h28.1 b29
        exact A_ret ⟨by decide +kernel, rfl⟩ ⟨rfl, h30⟩
      · have h31 := h28.2 b29
        refine A_aload_n (i := 0) (f := 0) (by omega) rfl (by decide +kernel) rfl ?_
        refine A_cVd (q := (RX7, TX7, 18)) (ci := 7) (o := ((2 : Nat) : Int)) (args := []) (st := []) (by decide +kernel) cv_m7_endLine rfl rfl in_m7_endLine se_m7_endLine lk_7_121 rfl (by omega) (Nat.le_of_ble_eq_true rfl) h31 (fun M33 h34 => ?_)
        exact A_ret ⟨by decide +kernel, rfl⟩ ⟨rfl, h34⟩
    · have h35 := h2.2.2.2.1 e4
      refine A_tin (len := 38) (dflt := 128) (lo := 0) (hi := 5) (offs := #[38, 46, 55, 64, 96, 104]) (off := 64) (tgt := 86) (by decide +kernel) (by omega) (by omega) (by rw [e4]; rfl) (by omega) ?_
      refine A_aload_n (i := 0) (f := 0) (by omega) rfl (by decide +kernel) rfl ?_
      refine A_cVi (q := (RX7, TX7, 18)) (ci := 7) (o := ((2 : Nat) : Int)) (args := []) (st := []) (by decide +kernel) cv_m7_readPartName rfl rfl in_m7_readPartName se_m7_readPartName lk_7_101 rfl (by omega) (Nat.le_of_ble_eq_true rfl) h35 (fun r36 M37 _ h38 => ?_)
      refine A_if_eq (off := 23) (tgt := 113) (by decide +kernel) (by omega) (fun b39 => ?_) (fun b39 => ?_)
      · have h40 := h38.1 b39
        refine A_iconst (a := 0) (by decide +kernel) (by unfold in32; omega) ?_
        refine A_istore_n (i := 1) (f := 1) rfl (by decide +kernel) (by decide) (fun w h0 hw => by simp at hw; first | (rw [← hw]; decide) | (rw [← hw]; simp)) ?_
        refine A_goto (off := 41) (tgt := 156) (by decide +kernel) (by omega) ?_
        refine A_iload_n (i := 1) (f := 1) rfl (by decide +kernel) rfl ?_
        refine A_if_eq (off := 7) (tgt := 164) (by decide +kernel) (by omega) (fun _ => ?_) (fun hb => absurd (by decide) hb)
        exact A_ret ⟨by decide +kernel, rfl⟩ ⟨rfl, h40⟩
      · have h41 := h38.2 b39
        refine A_aload_n (i := 0) (f := 0) (by omega) rfl (by decide +kernel) rfl ?_
        refine A_aload_n (i := 0) (f := 0) (by omega) rfl (by decide +kernel) rfl ?_
        refine B_getr (o' := ((5 : Nat) : Int)) (q := (RX7, TX7, 18)) (ci := 7) (j := 1) (by decide +kernel) rfl (by decide) rfl (by omega) fl_7_18 rfl ?_
        refine B_getp (v := (M37 5 4)) (q := (RX0, TX0, 9)) (ci := 0) (j := 4) (p := 4) (by decide +kernel) rfl (by decide) rfl (Or.inl rfl) fl_7_104 rfl ?_
        refine A_iconst (a := 1) (by decide +kernel) (by unfold in32; omega) ?_
        refine A_isub (by decide +kernel) ?_
        refine A_cVi (q := (RX7, TX7, 18)) (ci := 7) (o := ((2 : Nat) : Int)) (args := [(0, (w32 ((M37 5 4) - 1)))]) (st := []) (by decide +kernel) cv_m7_readFormula rfl rfl in_m7_readFormula se_m7_readFormula lk_7_107 rfl (by omega) (Nat.le_of_ble_eq_true rfl) h41 (fun r42 M43 _ h44 => ?_)
        refine A_if_eq (off := 7) (tgt := 113) (by decide +kernel) (by omega) (fun b45 => ?_) (fun b45 => ?_)
        · have h46 := h44.1 b45
          refine A_iconst (a := 0) (by decide +kernel) (by unfold in32; omega) ?_
          refine A_istore_n (i := 1) (f := 1) rfl (by decide +kernel) (by decide) (fun w h0 hw => by simp at hw; first | (rw [← hw]; decide) | (rw [← hw]; simp)) ?_
          refine A_goto (off := 41) (tgt := 156) (by decide +kernel) (by omega) ?_
          refine A_iload_n (i := 1) (f := 1) rfl (by decide +kernel) rfl ?_
          refine A_if_eq (off := 7) (tgt := 164) (by decide +kernel) (by omega) (fun _ => ?_) (fun hb => absurd (by decide) hb)
          exact A_ret ⟨by decide +kernel, rfl⟩ ⟨rfl, h46⟩
        · have h47 := h44.2 b45
          refine A_iconst (a := 1) (by decide +kernel) (by unfold in32; omega) ?_
          refine A_goto (off := 4) (tgt := 114) (by decide +kernel) (by omega) ?_
          refine A_istore_n (i := 1) (f := 1) rfl (by decide +kernel) (by decide) (fun w h0 hw => by simp at hw; first | (rw [← hw]; decide) | (rw [← hw]; simp)) ?_
          refine A_goto (off := 41) (tgt := 156) (by decide +kernel) (by omega) ?_
          refine A_iload_n (i := 1) (f := 1) rfl (by decide +kernel) rfl ?_
          refine A_if_eq (off := 7) (tgt := 164) (by decide +kernel) (by omega) (fun hb => absurd hb (by decide)) (fun _ => ?_)
          refine A_aload_n (i := 0) (f := 0) (by omega) rfl (by decide +kernel) rfl ?_
          refine A_cVd (q := (RX7, TX7, 18)) (ci := 7) (o := ((2 : Nat) : Int)) (args := []) (st := []) (by decide +kernel) cv_m7_endLine rfl rfl in_m7_endLine se_m7_endLine lk_7_121 rfl (by omega) (Nat.le_of_ble_eq_true rfl) h47 (fun M49 h50 => ?_)
          exact A_ret ⟨by decide +kernel, rfl⟩ ⟨rfl, h50⟩
    · have h51 := h2.2.2.2.2.1 e4
      refine A_tin (len := 38) (dflt := 128) (lo := 0) (hi := 5) (offs := #[38, 46, 55, 64, 96, 104]) (off := 96) (tgt := 118) (by decide +kernel) (by omega) (by omega) (by rw [e4]; rfl) (by omega) ?_
      refine A_aload_n (i := 0) (f := 0) (by omega) rfl (by decide +kernel) rfl ?_
      refine A_cVi (q := (RX7, TX7, 18)) (ci := 7) (o := ((2 : Nat) : Int)) (args := []) (st := []) (by decide +kernel) cv_m7_readSeason rfl rfl in_m7_readSeason se_m7_readSeason lk_7_110 rfl (by omega) (Nat.le_of_ble_eq_true rfl) h51 (fun r52 M53 _ h54 => ?_)
      refine A_istore_n (i := 1) (f := 1) rfl (by decide +kernel) (by decide) (fun w h0 hw => by simp at hw; first | (rw [← hw]; decide) | (rw [← hw]; simp)) ?_
      refine A_goto (off := 33) (tgt := 156) (by decide +kernel) (by omega) ?_
      refine A_iload_n (i := 1) (f := 1) rfl (by decide +kernel) rfl ?_
      refine A_if_eq (off := 7) (tgt := 164) (by decide +kernel) (by omega) (fun b55 => ?_) (fun b55 => ?_)
      · have h56 := h54.1 b55
        exact A_ret ⟨by decide +kernel, rfl⟩ ⟨rfl, h56⟩
      · have h57 := h54.2 b55
        refine A_aload_n (i := 0) (f := 0) (by omega) rfl (by decide +kernel) rfl ?_
        refine A_cVd (q := (RX7, TX7, 18)) (ci := 7) (o := ((2 : Nat) : Int)) (args := []) (st := []) (by decide +kernel) cv_m7_endLine rfl rfl in_m7_endLine se_m7_endLine lk_7_121 rfl (by omega) (Nat.le_of_ble_eq_true rfl) h57 (fun M59 h60 => ?_)
        exact A_ret ⟨by decide +kernel, rfl⟩ ⟨rfl, h60⟩
    · have h61 := h2.2.2.2.2.2.1 e4
      refine A_tin (len := 38) (dflt := 128) (lo := 0) (hi := 5) (offs := #[38, 46, 55, 64, 96, 104]) (off := 104) (tgt := 126) (by decide +kernel) (by omega) (by omega) (by rw [e4]; rfl) (by omega) ?_
      refine A_aload_n (i := 0) (f := 0) (by omega) rfl (by decide +kernel) rfl ?_
      refine A_cVi (q := (RX7, TX7, 18)) (ci := 7) (o := ((2 : Nat) : Int)) (args := []) (st := []) (by decide +kernel) cv_m7_readRiseWord rfl rfl in_m7_readRiseWord se_m7_readRiseWord lk_7_113 rfl (by omega) (Nat.le_of_ble_eq_true rfl) h61 (fun r62 M63 _ h64 => ?_)
      refine A_if_eq (off := 15) (tgt := 145) (by decide +kernel) (by omega) (fun b65 => ?_) (fun b65 => ?_)
      · have h66 := h64.1 b65
        refine A_iconst (a := 0) (by decide +kernel) (by unfold in32; omega) ?_
        refine A_istore_n (i := 1) (f := 1) rfl (by decide +kernel) (by decide) (fun w h0 hw => by simp at hw; first | (rw [← hw]; decide) | (rw [← hw]; simp)) ?_
        refine A_goto (off := 9) (tgt := 156) (by decide +kernel) (by omega) ?_
        refine A_iload_n (i := 1) (f := 1) rfl (by decide +kernel) rfl ?_
        refine A_if_eq (off := 7) (tgt := 164) (by decide +kernel) (by omega) (fun _ => ?_) (fun hb => absurd (by decide) hb)
        exact A_ret ⟨by decide +kernel, rfl⟩ ⟨rfl, h66⟩
      · have h67 := h64.2 b65
        refine A_aload_n (i := 0) (f := 0) (by omega) rfl (by decide +kernel) rfl ?_
        refine A_iconst (a := 5) (by decide +kernel) (by unfold in32; omega) ?_
        refine A_cVi (q := (RX7, TX7, 18)) (ci := 7) (o := ((2 : Nat) : Int)) (args := [(0, 5)]) (st := []) (by decide +kernel) cv_m7_readFormula rfl rfl in_m7_readFormula se_m7_readFormula lk_7_107 rfl (by omega) (Nat.le_of_ble_eq_true rfl) h67 (fun r68 M69 _ h70 => ?_)
        refine A_if_eq (off := 7) (tgt := 145) (by decide +kernel) (by omega) (fun b71 => ?_) (fun b71 => ?_)
        · have h72 := h70.1 b71
          refine A_iconst (a := 0) (by decide +kernel) (by unfold in32; omega) ?_
          refine A_istore_n (i := 1) (f := 1) rfl (by decide +kernel) (by decide) (fun w h0 hw => by simp at hw; first | (rw [← hw]; decide) | (rw [← hw]; simp)) ?_
          refine A_goto (off := 9) (tgt := 156) (by decide +kernel) (by omega) ?_
          refine A_iload_n (i := 1) (f := 1) rfl (by decide +kernel) rfl ?_
          refine A_if_eq (off := 7) (tgt := 164) (by decide +kernel) (by omega) (fun _ => ?_) (fun hb => absurd (by decide) hb)
          exact A_ret ⟨by decide +kernel, rfl⟩ ⟨rfl, h72⟩
        · have h73 := h70.2 b71
          refine A_iconst (a := 1) (by decide +kernel) (by unfold in32; omega) ?_
          refine A_goto (off := 4) (tgt := 146) (by decide +kernel) (by omega) ?_
          refine A_istore_n (i := 1) (f := 1) rfl (by decide +kernel) (by decide) (fun w h0 hw => by simp at hw; first | (rw [← hw]; decide) | (rw [← hw]; simp)) ?_
          refine A_goto (off := 9) (tgt := 156) (by decide +kernel) (by omega) ?_
          refine A_iload_n (i := 1) (f := 1) rfl (by decide +kernel) rfl ?_
          refine A_if_eq (off := 7) (tgt := 164) (by decide +kernel) (by omega) (fun hb => absurd hb (by decide)) (fun _ => ?_)
          refine A_aload_n (i := 0) (f := 0) (by omega) rfl (by decide +kernel) rfl ?_
          refine A_cVd (q := (RX7, TX7, 18)) (ci := 7) (o := ((2 : Nat) : Int)) (args := []) (st := []) (by decide +kernel) cv_m7_endLine rfl rfl in_m7_endLine se_m7_endLine lk_7_121 rfl (by omega) (Nat.le_of_ble_eq_true rfl) h73 (fun M75 h76 => ?_)
          exact A_ret ⟨by decide +kernel, rfl⟩ ⟨rfl, h76⟩
    · have h77 := h2.2.2.2.2.2.2 e4
      refine A_tout (len := 38) (dflt := 128) (lo := 0) (hi := 5) (offs := #[38, 46, 55, 64, 96, 104]) (tgt := 150) (by decide +kernel) e4 (by omega) ?_
      refine A_aload_n (i := 0) (f := 0) (by omega) rfl (by decide +kernel) rfl ?_
      refine A_iconst (a := 1) (by decide +kernel) (by unfold in32; omega) ?_
      refine A_cVi (q := (RX7, TX7, 18)) (ci := 7) (o := ((2 : Nat) : Int)) (args := [(0, 1)]) (st := []) (by decide +kernel) cv_m7_fail rfl rfl in_m7_fail se_m7_fail lk_7_118 rfl (by omega) (Nat.le_of_ble_eq_true rfl) h77 (fun r78 M79 _ h80 => ?_)
      refine A_pop (by decide +kernel) (by simp) ?_
      refine A_iload_n (i := 1) (f := 1) rfl (by decide +kernel) rfl ?_
      refine A_if_eq (off := 7) (tgt := 164) (by decide +kernel) (by omega) (fun _ => ?_) (fun hb => absurd (by decide) hb)
      exact A_ret ⟨by decide +kernel, rfl⟩ ⟨rfl, h80⟩
  · have h3 := h.2 (Decidable.not_not.mp b1)
    refine A_aload_n (i := 0) (f := 0) (by omega) rfl (by decide +kernel) rfl ?_
    refine A_aload_n (i := 0) (f := 0) (by omega) rfl (by decide +kernel) rfl ?_
    refine B_getp (v := (M 2 16)) (q := (RX7, TX7, 18)) (ci := 7) (j := 16) (p := 16) (by decide +kernel) rfl (by decide) rfl (Or.inl rfl) fl_7_87 rfl ?_
    refine A_cVi (q := (RX7, TX7, 18)) (ci := 7) (o := ((2 : Nat) : Int)) (args := [(0, (M 2 16))]) (st := []) (by decide +kernel) cv_m7_languageWord rfl rfl in_m7_languageWord se_m7_languageWord lk_7_90 rfl (by omega) (Nat.le_of_ble_eq_true rfl) h3 (fun r81 M82 _ h83 => ?_)
    refine A_goto (off := 4) (tgt := 22) (by decide +kernel) (by omega) ?_
    have hsw : r81 = 0 ∨ r81 = 1 ∨ r81 = 2 ∨ r81 = 3 ∨ r81 = 4 ∨ r81 = 5 ∨ (r81 < 0 ∨ 5 < r81) := by omega
    rcases hsw with e84 | e84 | e84 | e84 | e84 | e84 | e84
    · have h85 := h83.1 e84
      refine A_tin (len := 38) (dflt := 128) (lo := 0) (hi := 5) (offs := #[38, 46, 55, 64, 96, 104]) (off := 38) (tgt := 60) (by decide +kernel) (by omega) (by omega) (by rw [e84]; rfl) (by omega) ?_
      refine A_aload_n (i := 0) (f := 0) (by omega) rfl (by decide +kernel) rfl ?_
      refine A_cVi (q := (RX7, TX7, 18)) (ci := 7) (o := ((2 : Nat) : Int)) (args := []) (st := []) (by decide +kernel) cv_m7_readPerson rfl rfl in_m7_readPerson se_m7_readPerson lk_7_93 rfl (by omega) (Nat.le_of_ble_eq_true rfl) h85 (fun r86 M87 _ h88 => ?_)
      refine A_istore_n (i := 1) (f := 1) rfl (by decide +kernel) (by decide) (fun w h0 hw => by simp at hw; first | (rw [← hw]; decide) | (rw [← hw]; simp)) ?_
      refine A_goto (off := 91) (tgt := 156) (by decide +kernel) (by omega) ?_
      refine A_iload_n (i := 1) (f := 1) rfl (by decide +kernel) rfl ?_
      refine A_if_eq (off := 7) (tgt := 164) (by decide +kernel) (by omega) (fun b89 => ?_) (fun b89 => ?_)
      · have h90 := h88.1 b89
        exact A_ret ⟨by decide +kernel, rfl⟩ ⟨rfl, h90⟩
      · have h91 := h88.2 b89
        refine A_aload_n (i := 0) (f := 0) (by omega) rfl (by decide +kernel) rfl ?_
        refine A_cVd (q := (RX7, TX7, 18)) (ci := 7) (o := ((2 : Nat) : Int)) (args := []) (st := []) (by decide +kernel) cv_m7_endLine rfl rfl in_m7_endLine se_m7_endLine lk_7_121 rfl (by omega) (Nat.le_of_ble_eq_true rfl) h91 (fun M93 h94 => ?_)
        exact A_ret ⟨by decide +kernel, rfl⟩ ⟨rfl, h94⟩
    · have h95 := h83.2.1 e84
      refine A_tin (len := 38) (dflt := 128) (lo := 0) (hi := 5) (offs := #[38, 46, 55, 64, 96, 104]) (off := 46) (tgt := 68) (by decide +kernel) (by omega) (by omega) (by rw [e84]; rfl) (by omega) ?_
      refine A_aload_n (i := 0) (f := 0) (by omega) rfl (by decide +kernel) rfl ?_
      refine A_iconst (a := 0) (by decide +kernel) (by unfold in32; omega) ?_
      refine A_cVi (q := (RX7, TX7, 18)) (ci := 7) (o := ((2 : Nat) : Int)) (args := [(0, 0)]) (st := []) (by decide +kernel) cv_m7_readFact rfl rfl in_m7_readFact se_m7_readFact lk_7_97 rfl (by omega) (Nat.le_of_ble_eq_true rfl) h95 (fun r96 M97 _ h98 => ?_)
      refine A_istore_n (i := 1) (f := 1) rfl (by decide +kernel) (by decide) (fun w h0 hw => by simp at hw; first | (rw [← hw]; decide) | (rw [← hw]; simp)) ?_
      refine A_goto (off := 82) (tgt := 156) (by decide +kernel) (by omega) ?_
      refine A_iload_n (i := 1) (f := 1) rfl (by decide +kernel) rfl ?_
      refine A_if_eq (off := 7) (tgt := 164) (by decide +kernel) (by omega) (fun b99 => ?_) (fun b99 => ?_)
      · have h100 := h98.1 b99
        exact A_ret ⟨by decide +kernel, rfl⟩ ⟨rfl, h100⟩
      · have h101 := h98.2 b99
        refine A_aload_n (i := 0) (f := 0) (by omega) rfl (by decide +kernel) rfl ?_
        refine A_cVd (q := (RX7, TX7, 18)) (ci := 7) (o := ((2 : Nat) : Int)) (args := []) (st := []) (by decide +kernel) cv_m7_endLine rfl rfl in_m7_endLine se_m7_endLine lk_7_121 rfl (by omega) (Nat.le_of_ble_eq_true rfl) h101 (fun M103 h104 => ?_)
        exact A_ret ⟨by decide +kernel, rfl⟩ ⟨rfl, h104⟩
    · have h105 := h83.2.2.1 e84
      refine A_tin (len := 38) (dflt := 128) (lo := 0) (hi := 5) (offs := #[38, 46, 55, 64, 96, 104]) (off := 55) (tgt := 77) (by decide +kernel) (by omega) (by omega) (by rw [e84]; rfl) (by omega) ?_
      refine A_aload_n (i := 0) (f := 0) (by omega) rfl (by decide +kernel) rfl ?_
      refine A_iconst (a := 1) (by decide +kernel) (by unfold in32; omega) ?_
      refine A_cVi (q := (RX7, TX7, 18)) (ci := 7) (o := ((2 : Nat) : Int)) (args := [(0, 1)]) (st := []) (by decide +kernel) cv_m7_readFact rfl rfl in_m7_readFact se_m7_readFact lk_7_97 rfl (by omega) (Nat.le_of_ble_eq_true rfl) h105 (fun r106 M107 _ h108 => ?_)
      refine A_istore_n (i := 1) (f := 1) rfl (by decide +kernel) (by decide) (fun w h0 hw => by simp at hw; first | (rw [← hw]; decide) | (rw [← hw]; simp)) ?_
      refine A_goto (off := 73) (tgt := 156) (by decide +kernel) (by omega) ?_
      refine A_iload_n (i := 1) (f := 1) rfl (by decide +kernel) rfl ?_
      refine A_if_eq (off := 7) (tgt := 164) (by decide +kernel) (by omega) (fun b109 => ?_) (fun b109 => ?_)
      · have h110 := h108.1 b109
        exact A_ret ⟨by decide +kernel, rfl⟩ ⟨rfl, h110⟩
      · have h111 := h108.2 b109
        refine A_aload_n (i := 0) (f := 0) (by omega) rfl (by decide +kernel) rfl ?_
        refine A_cVd (q := (RX7, TX7, 18)) (ci := 7) (o := ((2 : Nat) : Int)) (args := []) (st := []) (by decide +kernel) cv_m7_endLine rfl rfl in_m7_endLine se_m7_endLine lk_7_121 rfl (by omega) (Nat.le_of_ble_eq_true rfl) h111 (fun M113 h114 => ?_)
        exact A_ret ⟨by decide +kernel, rfl⟩ ⟨rfl, h114⟩
    · have h115 := h83.2.2.2.1 e84
      refine A_tin (len := 38) (dflt := 128) (lo := 0) (hi := 5) (offs := #[38, 46, 55, 64, 96, 104]) (off := 64) (tgt := 86) (by decide +kernel) (by omega) (by omega) (by rw [e84]; rfl) (by omega) ?_
      refine A_aload_n (i := 0) (f := 0) (by omega) rfl (by decide +kernel) rfl ?_
      refine A_cVi (q := (RX7, TX7, 18)) (ci := 7) (o := ((2 : Nat) : Int)) (args := []) (st := []) (by decide +kernel) cv_m7_readPartName rfl rfl in_m7_readPartName se_m7_readPartName lk_7_101 rfl (by omega) (Nat.le_of_ble_eq_true rfl) h115 (fun r116 M117 _ h118 => ?_)
      refine A_if_eq (off := 23) (tgt := 113) (by decide +kernel) (by omega) (fun b119 => ?_) (fun b119 => ?_)
      · have h120 := h118.1 b119
        refine A_iconst (a := 0) (by decide +kernel) (by unfold in32; omega) ?_
        refine A_istore_n (i := 1) (f := 1) rfl (by decide +kernel) (by decide) (fun w h0 hw => by simp at hw; first | (rw [← hw]; decide) | (rw [← hw]; simp)) ?_
        refine A_goto (off := 41) (tgt := 156) (by decide +kernel) (by omega) ?_
        refine A_iload_n (i := 1) (f := 1) rfl (by decide +kernel) rfl ?_
        refine A_if_eq (off := 7) (tgt := 164) (by decide +kernel) (by omega) (fun _ => ?_) (fun hb => absurd (by decide) hb)
        exact A_ret ⟨by decide +kernel, rfl⟩ ⟨rfl, h120⟩
      · have h121 := h118.2 b119
        refine A_aload_n (i := 0) (f := 0) (by omega) rfl (by decide +kernel) rfl ?_
        refine A_aload_n (i := 0) (f := 0) (by omega) rfl (by decide +kernel) rfl ?_
        refine B_getr (o' := ((5 : Nat) : Int)) (q := (RX7, TX7, 18)) (ci := 7) (j := 1) (by decide +kernel) rfl (by decide) rfl (by omega) fl_7_18 rfl ?_
        refine B_getp (v := (M117 5 4)) (q := (RX0, TX0, 9)) (ci := 0) (j := 4) (p := 4) (by decide +kernel) rfl (by decide) rfl (Or.inl rfl) fl_7_104 rfl ?_
        refine A_iconst (a := 1) (by decide +kernel) (by unfold in32; omega) ?_
        refine A_isub (by decide +kernel) ?_
        refine A_cVi (q := (RX7, TX7, 18)) (ci := 7) (o := ((2 : Nat) : Int)) (args := [(0, (w32 ((M117 5 4) - 1)))]) (st := []) (by decide +kernel) cv_m7_readFormula rfl rfl in_m7_readFormula se_m7_readFormula lk_7_107 rfl (by omega) (Nat.le_of_ble_eq_true rfl) h121 (fun r122 M123 _ h124 => ?_)
        refine A_if_eq (off := 7) (tgt := 113) (by decide +kernel) (by omega) (fun b125 => ?_) (fun b125 => ?_)
        · have h126 := h124.1 b125
          refine A_iconst (a := 0) (by decide +kernel) (by unfold in32; omega) ?_
          refine A_istore_n (i := 1) (f := 1) rfl (by decide +kernel) (by decide) (fun w h0 hw => by simp at hw; first | (rw [← hw]; decide) | (rw [← hw]; simp)) ?_
          refine A_goto (off := 41) (tgt := 156) (by decide +kernel) (by omega) ?_
          refine A_iload_n (i := 1) (f := 1) rfl (by decide +kernel) rfl ?_
          refine A_if_eq (off := 7) (tgt := 164) (by decide +kernel) (by omega) (fun _ => ?_) (fun hb => absurd (by decide) hb)
          exact A_ret ⟨by decide +kernel, rfl⟩ ⟨rfl, h126⟩
        · have h127 := h124.2 b125
          refine A_iconst (a := 1) (by decide +kernel) (by unfold in32; omega) ?_
          refine A_goto (off := 4) (tgt := 114) (by decide +kernel) (by omega) ?_
          refine A_istore_n (i := 1) (f := 1) rfl (by decide +kernel) (by decide) (fun w h0 hw => by simp at hw; first | (rw [← hw]; decide) | (rw [← hw]; simp)) ?_
          refine A_goto (off := 41) (tgt := 156) (by decide +kernel) (by omega) ?_
          refine A_iload_n (i := 1) (f := 1) rfl (by decide +kernel) rfl ?_
          refine A_if_eq (off := 7) (tgt := 164) (by decide +kernel) (by omega) (fun hb => absurd hb (by decide)) (fun _ => ?_)
          refine A_aload_n (i := 0) (f := 0) (by omega) rfl (by decide +kernel) rfl ?_
          refine A_cVd (q := (RX7, TX7, 18)) (ci := 7) (o := ((2 : Nat) : Int)) (args := []) (st := []) (by decide +kernel) cv_m7_endLine rfl rfl in_m7_endLine se_m7_endLine lk_7_121 rfl (by omega) (Nat.le_of_ble_eq_true rfl) h127 (fun M129 h130 => ?_)
          exact A_ret ⟨by decide +kernel, rfl⟩ ⟨rfl, h130⟩
    · have h131 := h83.2.2.2.2.1 e84
      refine A_tin (len := 38) (dflt := 128) (lo := 0) (hi := 5) (offs := #[38, 46, 55, 64, 96, 104]) (off := 96) (tgt := 118) (by decide +kernel) (by omega) (by omega) (by rw [e84]; rfl) (by omega) ?_
      refine A_aload_n (i := 0) (f := 0) (by omega) rfl (by decide +kernel) rfl ?_
      refine A_cVi (q := (RX7, TX7, 18)) (ci := 7) (o := ((2 : Nat) : Int)) (args := []) (st := []) (by decide +kernel) cv_m7_readSeason rfl rfl in_m7_readSeason se_m7_readSeason lk_7_110 rfl (by omega) (Nat.le_of_ble_eq_true rfl) h131 (fun r132 M133 _ h134 => ?_)
      refine A_istore_n (i := 1) (f := 1) rfl (by decide +kernel) (by decide) (fun w h0 hw => by simp at hw; first | (rw [← hw]; decide) | (rw [← hw]; simp)) ?_
      refine A_goto (off := 33) (tgt := 156) (by decide +kernel) (by omega) ?_
      refine A_iload_n (i := 1) (f := 1) rfl (by decide +kernel) rfl ?_
      refine A_if_eq (off := 7) (tgt := 164) (by decide +kernel) (by omega) (fun b135 => ?_) (fun b135 => ?_)
      · have h136 := h134.1 b135
        exact A_ret ⟨by decide +kernel, rfl⟩ ⟨rfl, h136⟩
      · have h137 := h134.2 b135
        refine A_aload_n (i := 0) (f := 0) (by omega) rfl (by decide +kernel) rfl ?_
        refine A_cVd (q := (RX7, TX7, 18)) (ci := 7) (o := ((2 : Nat) : Int)) (args := []) (st := []) (by decide +kernel) cv_m7_endLine rfl rfl in_m7_endLine se_m7_endLine lk_7_121 rfl (by omega) (Nat.le_of_ble_eq_true rfl) h137 (fun M139 h140 => ?_)
        exact A_ret ⟨by decide +kernel, rfl⟩ ⟨rfl, h140⟩
    · have h141 := h83.2.2.2.2.2.1 e84
      refine A_tin (len := 38) (dflt := 128) (lo := 0) (hi := 5) (offs := #[38, 46, 55, 64, 96, 104]) (off := 104) (tgt := 126) (by decide +kernel) (by omega) (by omega) (by rw [e84]; rfl) (by omega) ?_
      refine A_aload_n (i := 0) (f := 0) (by omega) rfl (by decide +kernel) rfl ?_
      refine A_cVi (q := (RX7, TX7, 18)) (ci := 7) (o := ((2 : Nat) : Int)) (args := []) (st := []) (by decide +kernel) cv_m7_readRiseWord rfl rfl in_m7_readRiseWord se_m7_readRiseWord lk_7_113 rfl (by omega) (Nat.le_of_ble_eq_true rfl) h141 (fun r142 M143 _ h144 => ?_)
      refine A_if_eq (off := 15) (tgt := 145) (by decide +kernel) (by omega) (fun b145 => ?_) (fun b145 => ?_)
      · have h146 := h144.1 b145
        refine A_iconst (a := 0) (by decide +kernel) (by unfold in32; omega) ?_
        refine A_istore_n (i := 1) (f := 1) rfl (by decide +kernel) (by decide) (fun w h0 hw => by simp at hw; first | (rw [← hw]; decide) | (rw [← hw]; simp)) ?_
        refine A_goto (off := 9) (tgt := 156) (by decide +kernel) (by omega) ?_
        refine A_iload_n (i := 1) (f := 1) rfl (by decide +kernel) rfl ?_
        refine A_if_eq (off := 7) (tgt := 164) (by decide +kernel) (by omega) (fun _ => ?_) (fun hb => absurd (by decide) hb)
        exact A_ret ⟨by decide +kernel, rfl⟩ ⟨rfl, h146⟩
      · have h147 := h144.2 b145
        refine A_aload_n (i := 0) (f := 0) (by omega) rfl (by decide +kernel) rfl ?_
        refine A_iconst (a := 5) (by decide +kernel) (by unfold in32; omega) ?_
        refine A_cVi (q := (RX7, TX7, 18)) (ci := 7) (o := ((2 : Nat) : Int)) (args := [(0, 5)]) (st := []) (by decide +kernel) cv_m7_readFormula rfl rfl in_m7_readFormula se_m7_readFormula lk_7_107 rfl (by omega) (Nat.le_of_ble_eq_true rfl) h147 (fun r148 M149 _ h150 => ?_)
        refine A_if_eq (off := 7) (tgt := 145) (by decide +kernel) (by omega) (fun b151 => ?_) (fun b151 => ?_)
        · have h152 := h150.1 b151
          refine A_iconst (a := 0) (by decide +kernel) (by unfold in32; omega) ?_
          refine A_istore_n (i := 1) (f := 1) rfl (by decide +kernel) (by decide) (fun w h0 hw => by simp at hw; first | (rw [← hw]; decide) | (rw [← hw]; simp)) ?_
          refine A_goto (off := 9) (tgt := 156) (by decide +kernel) (by omega) ?_
          refine A_iload_n (i := 1) (f := 1) rfl (by decide +kernel) rfl ?_
          refine A_if_eq (off := 7) (tgt := 164) (by decide +kernel) (by omega) (fun _ => ?_) (fun hb => absurd (by decide) hb)
          exact A_ret ⟨by decide +kernel, rfl⟩ ⟨rfl, h152⟩
        · have h153 := h150.2 b151
          refine A_iconst (a := 1) (by decide +kernel) (by unfold in32; omega) ?_
          refine A_goto (off := 4) (tgt := 146) (by decide +kernel) (by omega) ?_
          refine A_istore_n (i := 1) (f := 1) rfl (by decide +kernel) (by decide) (fun w h0 hw => by simp at hw; first | (rw [← hw]; decide) | (rw [← hw]; simp)) ?_
          refine A_goto (off := 9) (tgt := 156) (by decide +kernel) (by omega) ?_
          refine A_iload_n (i := 1) (f := 1) rfl (by decide +kernel) rfl ?_
          refine A_if_eq (off := 7) (tgt := 164) (by decide +kernel) (by omega) (fun hb => absurd hb (by decide)) (fun _ => ?_)
          refine A_aload_n (i := 0) (f := 0) (by omega) rfl (by decide +kernel) rfl ?_
          refine A_cVd (q := (RX7, TX7, 18)) (ci := 7) (o := ((2 : Nat) : Int)) (args := []) (st := []) (by decide +kernel) cv_m7_endLine rfl rfl in_m7_endLine se_m7_endLine lk_7_121 rfl (by omega) (Nat.le_of_ble_eq_true rfl) h153 (fun M155 h156 => ?_)
          exact A_ret ⟨by decide +kernel, rfl⟩ ⟨rfl, h156⟩
    · have h157 := h83.2.2.2.2.2.2 e84
      refine A_tout (len := 38) (dflt := 128) (lo := 0) (hi := 5) (offs := #[38, 46, 55, 64, 96, 104]) (tgt := 150) (by decide +kernel) e84 (by omega) ?_
      refine A_aload_n (i := 0) (f := 0) (by omega) rfl (by decide +kernel) rfl ?_
      refine A_iconst (a := 1) (by decide +kernel) (by unfold in32; omega) ?_
      refine A_cVi (q := (RX7, TX7, 18)) (ci := 7) (o := ((2 : Nat) : Int)) (args := [(0, 1)]) (st := []) (by decide +kernel) cv_m7_fail rfl rfl in_m7_fail se_m7_fail lk_7_118 rfl (by omega) (Nat.le_of_ble_eq_true rfl) h157 (fun r158 M159 _ h160 => ?_)
      refine A_pop (by decide +kernel) (by simp) ?_
      refine A_iload_n (i := 1) (f := 1) rfl (by decide +kernel) rfl ?_
      refine A_if_eq (off := 7) (tgt := 164) (by decide +kernel) (by omega) (fun _ => ?_) (fun hb => absurd (by decide) hb)
      exact A_ret ⟨by decide +kernel, rfl⟩ ⟨rfl, h160⟩
theorem q_7_endLine  {M : Mem} {P : Mem → Prop} (h : (((M 2 17) = 10032 → (CD m7_next 3 [(17, ((2 : Nat) : Int))] (mset M 2 2 (w32 ((M 2 2) + 1))) (fun M5 => (P M5)))) ∧ ((M 2 17) ≠ 10032 → (CI m7_fail 1 [(17, ((2 : Nat) : Int)), (0, 1)] M (fun r7 M8 => (P M8)))))) : CD m7_endLine 4 [(17, ((2 : Nat) : Int))] M P := by
  refine CD_of (by decide +kernel) (Nat.le_of_ble_eq_true rfl) ?_
  show A m7_endLine 4 0 0 [(17, ((2 : Nat) : Int))] [] M (Kd P)
  refine A_aload_n (i := 0) (f := 0) (by omega) rfl (by decide +kernel) rfl ?_
  refine B_getp (v := (M 2 17)) (q := (RX7, TX7, 18)) (ci := 7) (j := 17) (p := 17) (by decide +kernel) rfl (by decide) rfl (Or.inl rfl) fl_7_124 rfl ?_
  refine A_sipush (a := 10032) (by decide +kernel) (by unfold in32; omega) (by decide +kernel) ?_
  refine A_ic_eq (off := 10) (tgt := 17) (by decide +kernel) (by omega) (fun b1 => ?_) (fun b1 => ?_)
  · have h2 := h.1 b1
    refine A_aload_n (i := 0) (f := 0) (by omega) rfl (by decide +kernel) rfl ?_
    refine A_dup (by decide +kernel) (by simp) ?_
    refine B_getp (v := (M 2 2)) (q := (RX7, TX7, 18)) (ci := 7) (j := 3) (p := 2) (by decide +kernel) rfl (by decide) rfl (Or.inl rfl) fl_7_70 rfl ?_
    refine A_iconst (a := 1) (by decide +kernel) (by unfold in32; omega) ?_
    refine A_iadd (by decide +kernel) ?_
    refine B_putp (M' := (mset M 2 2 (w32 ((M 2 2) + 1)))) (q := (RX7, TX7, 18)) (ci := 7) (j := 3) (p := 2) (by decide +kernel) rfl (by decide) rfl (Or.inl ⟨rfl, rfl⟩) rfl fl_7_70 rfl ?_
    refine A_aload_n (i := 0) (f := 0) (by omega) rfl (by decide +kernel) rfl ?_
    refine A_cVd (q := (RX7, TX7, 18)) (ci := 7) (o := ((2 : Nat) : Int)) (args := []) (st := []) (by decide +kernel) cv_m7_next rfl rfl in_m7_next se_m7_next lk_7_81 rfl (by omega) (Nat.le_of_ble_eq_true rfl) h2 (fun M5 h6 => ?_)
    exact A_ret ⟨by decide +kernel, rfl⟩ ⟨rfl, h6⟩
  · have h3 := h.2 b1
    refine A_aload_n (i := 0) (f := 0) (by omega) rfl (by decide +kernel) rfl ?_
    refine A_iconst (a := 1) (by decide +kernel) (by unfold in32; omega) ?_
    refine A_cVi (q := (RX7, TX7, 18)) (ci := 7) (o := ((2 : Nat) : Int)) (args := [(0, 1)]) (st := []) (by decide +kernel) cv_m7_fail rfl rfl in_m7_fail se_m7_fail lk_7_118 rfl (by omega) (Nat.le_of_ble_eq_true rfl) h3 (fun r7 M8 _ h9 => ?_)
    refine A_pop (by decide +kernel) (by simp) ?_
    exact A_ret ⟨by decide +kernel, rfl⟩ ⟨rfl, h9⟩
theorem q_7_readPerson  {M : Mem} {P : Int → Mem → Prop} (h : (((M 5 2) < 5 → (CD m7_next 3 [(17, ((2 : Nat) : Int))] M (fun M5 => (CI m7_isName 2 [(17, ((2 : Nat) : Int))] M5 (fun r7 M8 => ((r7 ≠ 0 → (CI m0_personNamed 3 [(10, ((5 : Nat) : Int)), (0, (M8 2 16))] M8 (fun r13 M14 => ((r13 = (-1) → (CD m7_next 3 [(17, ((2 : Nat) : Int))] M14 (fun M20 => (CI m7_readNumber 4 [(17, ((2 : Nat) : Int)), (0, 99)] M20 (fun r22 M23 => ((r22 ≠ (-1) → (CD m0_addPerson 2 [(10, ((5 : Nat) : Int)), (0, (M14 2 16)), (0, r22)] M23 (fun M29 => (P 1 M29)))) ∧ (r22 = (-1) → (P 0 M23)))))))) ∧ (r13 ≠ (-1) → (CI m7_fail 1 [(17, ((2 : Nat) : Int)), (0, 3)] M14 (fun r31 M32 => ((r31 = 0 ∨ r31 = 1) ∧ P r31 M32)))))))) ∧ (r7 = 0 → (CI m7_fail 1 [(17, ((2 : Nat) : Int)), (0, 1)] M8 (fun r34 M35 => ((r34 = 0 ∨ r34 = 1) ∧ P r34 M35)))))))))) ∧ (5 ≤ (M 5 2) → (CI m7_fail 1 [(17, ((2 : Nat) : Int)), (0, 2)] M (fun r37 M38 => ((r37 = 0 ∨ r37 = 1) ∧ P r37 M38)))))) : CI m7_readPerson 5 [(17, ((2 : Nat) : Int))] M P := by
  refine CI_of (by decide +kernel) (Nat.le_of_ble_eq_true rfl) ?_
  show A m7_readPerson 5 0 0 [(17, ((2 : Nat) : Int)), (2, 0), (2, 0)] [] M (Ki P)
  refine A_aload_n (i := 0) (f := 0) (by omega) rfl (by decide +kernel) rfl ?_
  refine B_getr (o' := ((5 : Nat) : Int)) (q := (RX7, TX7, 18)) (ci := 7) (j := 1) (by decide +kernel) rfl (by decide) rfl (by omega) fl_7_18 rfl ?_
  refine B_getp (v := (M 5 2)) (q := (RX0, TX0, 9)) (ci := 0) (j := 2) (p := 2) (by decide +kernel) rfl (by decide) rfl (Or.inl rfl) fl_7_127 rfl ?_
  refine A_iconst (a := 5) (by decide +kernel) (by unfold in32; omega) ?_
  refine A_ic_lt (off := 9) (tgt := 17) (by decide +kernel) (by omega) (fun b1 => ?_) (fun b1 => ?_)
  · have h2 := h.1 b1
    refine A_aload_n (i := 0) (f := 0) (by omega) rfl (by decide +kernel) rfl ?_
    refine A_cVd (q := (RX7, TX7, 18)) (ci := 7) (o := ((2 : Nat) : Int)) (args := []) (st := []) (by decide +kernel) cv_m7_next rfl rfl in_m7_next se_m7_next lk_7_81 rfl (by omega) (Nat.le_of_ble_eq_true rfl) h2 (fun M5 h6 => ?_)
    refine A_aload_n (i := 0) (f := 0) (by omega) rfl (by decide +kernel) rfl ?_
    refine A_cVi (q := (RX7, TX7, 18)) (ci := 7) (o := ((2 : Nat) : Int)) (args := []) (st := []) (by decide +kernel) cv_m7_isName rfl rfl in_m7_isName se_m7_isName lk_7_130 rfl (by omega) (Nat.le_of_ble_eq_true rfl) h6 (fun r7 M8 _ h9 => ?_)
    refine A_if_ne (off := 9) (tgt := 34) (by decide +kernel) (by omega) (fun b10 => ?_) (fun b10 => ?_)
    · have h11 := h9.1 b10
      refine A_aload_n (i := 0) (f := 0) (by omega) rfl (by decide +kernel) rfl ?_
      refine B_getr (o' := ((5 : Nat) : Int)) (q := (RX7, TX7, 18)) (ci := 7) (j := 1) (by decide +kernel) rfl (by decide) rfl (by omega) fl_7_18 rfl ?_
      refine A_aload_n (i := 0) (f := 0) (by omega) rfl (by decide +kernel) rfl ?_
      refine B_getp (v := (M8 2 16)) (q := (RX7, TX7, 18)) (ci := 7) (j := 16) (p := 16) (by decide +kernel) rfl (by decide) rfl (Or.inl rfl) fl_7_87 rfl ?_
      refine A_cVi (q := (RX0, TX0, 9)) (ci := 0) (o := ((5 : Nat) : Int)) (args := [(0, (M8 2 16))]) (st := []) (by decide +kernel) cv_m0_personNamed rfl rfl in_m0_personNamed se_m0_personNamed lk_7_133 rfl (by omega) (Nat.le_of_ble_eq_true rfl) h11 (fun r13 M14 _ h15 => ?_)
      refine A_iconst (a := (-1)) (by decide +kernel) (by unfold in32; omega) ?_
      refine A_ic_eq (off := 9) (tgt := 55) (by decide +kernel) (by omega) (fun b16 => ?_) (fun b16 => ?_)
      · have h17 := h15.1 b16
        refine A_aload_n (i := 0) (f := 0) (by omega) rfl (by decide +kernel) rfl ?_
        refine B_getp (v := (M14 2 16)) (q := (RX7, TX7, 18)) (ci := 7) (j := 16) (p := 16) (by decide +kernel) rfl (by decide) rfl (Or.inl rfl) fl_7_87 rfl ?_
        refine A_istore_n (i := 1) (f := 1) rfl (by decide +kernel) (by decide) (fun w h0 hw => by simp at hw; first | (rw [← hw]; decide) | (rw [← hw]; simp)) ?_
        refine A_aload_n (i := 0) (f := 0) (by omega) rfl (by decide +kernel) rfl ?_
        refine A_cVd (q := (RX7, TX7, 18)) (ci := 7) (o := ((2 : Nat) : Int)) (args := []) (st := []) (by decide +kernel) cv_m7_next rfl rfl in_m7_next se_m7_next lk_7_81 rfl (by omega) (Nat.le_of_ble_eq_true rfl) h17 (fun M20 h21 => ?_)
        refine A_aload_n (i := 0) (f := 0) (by omega) rfl (by decide +kernel) rfl ?_
        refine A_bipush (a := 99) (by decide +kernel) (by unfold in32; omega) (by decide +kernel) ?_
        refine A_cVi (q := (RX7, TX7, 18)) (ci := 7) (o := ((2 : Nat) : Int)) (args := [(0, 99)]) (st := []) (by decide +kernel) cv_m7_readNumber rfl rfl in_m7_readNumber se_m7_readNumber lk_7_136 rfl (by omega) (Nat.le_of_ble_eq_true rfl) h21 (fun r22 M23 _ h24 => ?_)
        refine A_istore_n (i := 2) (f := 2) rfl (by decide +kernel) (by decide) (fun w h0 hw => by simp at hw; first | (rw [← hw]; decide) | (rw [← hw]; simp)) ?_
        refine A_iload_n (i := 2) (f := 2) rfl (by decide +kernel) rfl ?_
        refine A_iconst (a := (-1)) (by decide +kernel) (by unfold in32; omega) ?_
        refine A_ic_ne (off := 5) (tgt := 78) (by decide +kernel) (by omega) (fun b25 => ?_) (fun b25 => ?_)
        · have h26 := h24.1 b25
          refine A_aload_n (i := 0) (f := 0) (by omega) rfl (by decide +kernel) rfl ?_
          refine B_getr (o' := ((5 : Nat) : Int)) (q := (RX7, TX7, 18)) (ci := 7) (j := 1) (by decide +kernel) rfl (by decide) rfl (by omega) fl_7_18 rfl ?_
          refine A_iload_n (i := 1) (f := 1) rfl (by decide +kernel) rfl ?_
          refine A_iload_n (i := 2) (f := 2) rfl (by decide +kernel) rfl ?_
          refine A_cVd (q := (RX0, TX0, 9)) (ci := 0) (o := ((5 : Nat) : Int)) (args := [(0, (M14 2 16)), (0, r22)]) (st := []) (by decide +kernel) cv_m0_addPerson rfl rfl in_m0_addPerson se_m0_addPerson lk_7_139 rfl (by omega) (Nat.le_of_ble_eq_true rfl) h26 (fun M29 h30 => ?_)
          refine A_iconst (a := 1) (by decide +kernel) (by unfold in32; omega) ?_
          exact A_ret ⟨by decide +kernel, Or.inr ⟨rfl, by decide⟩⟩ ⟨_, rfl, h30⟩
        · have h27 := h24.2 (Decidable.not_not.mp b25)
          refine A_iconst (a := 0) (by decide +kernel) (by unfold in32; omega) ?_
          exact A_ret ⟨by decide +kernel, Or.inr ⟨rfl, by decide⟩⟩ ⟨_, rfl, h27⟩
      · have h18 := h15.2 b16
        refine A_aload_n (i := 0) (f := 0) (by omega) rfl (by decide +kernel) rfl ?_
        refine A_iconst (a := 3) (by decide +kernel) (by unfold in32; omega) ?_
        refine A_cVi (q := (RX7, TX7, 18)) (ci := 7) (o := ((2 : Nat) : Int)) (args := [(0, 3)]) (st := []) (by decide +kernel) cv_m7_fail rfl rfl in_m7_fail se_m7_fail lk_7_118 rfl (by omega) (Nat.le_of_ble_eq_true rfl) h18 (fun r31 M32 _ h33 => ?_)
        exact A_ret ⟨by decide +kernel, Or.inr ⟨rfl, h33.1⟩⟩ ⟨_, rfl, h33.2⟩
    · have h12 := h9.2 (Decidable.not_not.mp b10)
      refine A_aload_n (i := 0) (f := 0) (by omega) rfl (by decide +kernel) rfl ?_
      refine A_iconst (a := 1) (by decide +kernel) (by unfold in32; omega) ?_
      refine A_cVi (q := (RX7, TX7, 18)) (ci := 7) (o := ((2 : Nat) : Int)) (args := [(0, 1)]) (st := []) (by decide +kernel) cv_m7_fail rfl rfl in_m7_fail se_m7_fail lk_7_118 rfl (by omega) (Nat.le_of_ble_eq_true rfl) h12 (fun r34 M35 _ h36 => ?_)
      exact A_ret ⟨by decide +kernel, Or.inr ⟨rfl, h36.1⟩⟩ ⟨_, rfl, h36.2⟩
  · have h3 := h.2 (Int.not_lt.mp b1)
    refine A_aload_n (i := 0) (f := 0) (by omega) rfl (by decide +kernel) rfl ?_
    refine A_iconst (a := 2) (by decide +kernel) (by unfold in32; omega) ?_
    refine A_cVi (q := (RX7, TX7, 18)) (ci := 7) (o := ((2 : Nat) : Int)) (args := [(0, 2)]) (st := []) (by decide +kernel) cv_m7_fail rfl rfl in_m7_fail se_m7_fail lk_7_118 rfl (by omega) (Nat.le_of_ble_eq_true rfl) h3 (fun r37 M38 _ h39 => ?_)
    exact A_ret ⟨by decide +kernel, Or.inr ⟨rfl, h39.1⟩⟩ ⟨_, rfl, h39.2⟩
theorem q_7_readFact {x1 : Int} {M : Mem} {P : Int → Mem → Prop} (h : (((M 14 1) < 16 → (CD m7_next 3 [(17, ((2 : Nat) : Int))] M (fun M5 => (CI m7_personHere 4 [(17, ((2 : Nat) : Int))] M5 (fun r7 M8 => ((r7 ≠ (-1) → (CD m7_next 3 [(17, ((2 : Nat) : Int))] M8 (fun M14 => (CI m7_personHere 4 [(17, ((2 : Nat) : Int))] M14 (fun r16 M17 => ((r16 ≠ (-1) → ((r7 ≠ r16 → (CD m7_next 3 [(17, ((2 : Nat) : Int))] M17 (fun M26 => ((x1 ≠ 0 → (CI m2_tells 4 [(12, ((14 : Nat) : Int)), (0, r7), (0, r16), (0, x1), (0, (-1))] M26 (fun r31 M32 => ((r31 = 0 → (CD m2_add 2 [(12, ((14 : Nat) : Int)), (0, r7), (0, r16), (0, x1), (0, (-1))] M32 (fun M38 => (CI m5_bendsInSomeSeason 4 [(15, ((16 : Nat) : Int)), (12, ((14 : Nat) : Int)), (0, (M38 5 2))] M38 (fun r40 M41 => ((r40 = 0 → (P 1 M41)) ∧ (r40 ≠ 0 → (CI m7_failAt 1 [(17, ((2 : Nat) : Int)), (0, 5), (0, (M17 2 14))] M41 (fun r46 M47 => ((r46 = 0 → (P 0 M47)) ∧ (r46 ≠ 0 → (P 1 M47)))))))))))) ∧ (r31 ≠ 0 → (CI m7_failAt 1 [(17, ((2 : Nat) : Int)), (0, 3), (0, (M17 2 14))] M32 (fun r52 M53 => ((r52 = 0 ∨ r52 = 1) ∧ P r52 M53)))))))) ∧ (x1 = 0 → (CI m7_isWord 2 [(17, ((2 : Nat) : Int)), (0, 6)] M26 (fun r55 M56 => ((r55 = 0 → (CI m2_tells 4 [(12, ((14 : Nat) : Int)), (0, r7), (0, r16), (0, x1), (0, (-1))] M56 (fun r61 M62 => ((r61 = 0 → (CD m2_add 2 [(12, ((14 : Nat) : Int)), (0, r7), (0, r16), (0, x1), (0, (-1))] M62 (fun M68 => (CI m5_bendsInSomeSeason 4 [(15, ((16 : Nat) : Int)), (12, ((14 : Nat) : Int)), (0, (M68 5 2))] M68 (fun r70 M71 => ((r70 = 0 → (P 1 M71)) ∧ (r70 ≠ 0 → (CI m7_failAt 1 [(17, ((2 : Nat) : Int)), (0, 5), (0, (M17 2 14))] M71 (fun r76 M77 => ((r76 = 0 → (P 0 M77)) ∧ (r76 ≠ 0 → (P 1 M77)))))))))))) ∧ (r61 ≠ 0 → (CI m7_failAt 1 [(17, ((2 : Nat) : Int)), (0, 3), (0, (M17 2 14))] M62 (fun r82 M83 => ((r82 = 0 ∨ r82 = 1) ∧ P r82 M83)))))))) ∧ (r55 ≠ 0 → (CD m7_next 3 [(17, ((2 : Nat) : Int))] M56 (fun M86 => (CI m7_readNumber 4 [(17, ((2 : Nat) : Int)), (0, 3)] M86 (fun r88 M89 => ((r88 ≠ (-1) → (CI m2_tells 4 [(12, ((14 : Nat) : Int)), (0, r7), (0, r16), (0, x1), (0, r88)] M89 (fun r94 M95 => ((r94 = 0 → (CD m2_add 2 [(12, ((14 : Nat) : Int)), (0, r7), (0, r16), (0, x1), (0, r88)] M95 (fun M101 => (CI m5_bendsInSomeSeason 4 [(15, ((16 : Nat) : Int)), (12, ((14 : Nat) : Int)), (0, (M101 5 2))] M101 (fun r103 M104 => ((r103 = 0 → (P 1 M104)) ∧ (r103 ≠ 0 → (CI m7_failAt 1 [(17, ((2 : Nat) : Int)), (0, 5), (0, (M17 2 14))] M104 (fun r109 M110 => ((r109 = 0 → (P 0 M110)) ∧ (r109 ≠ 0 → (P 1 M110)))))))))))) ∧ (r94 ≠ 0 → (CI m7_failAt 1 [(17, ((2 : Nat) : Int)), (0, 3), (0, (M17 2 14))] M95 (fun r115 M116 => ((r115 = 0 ∨ r115 = 1) ∧ P r115 M116)))))))) ∧ (r88 = (-1) → (P 0 M89)))))))))))))))) ∧ (r7 = r16 → (CI m7_fail 1 [(17, ((2 : Nat) : Int)), (0, 5)] M17 (fun r118 M119 => ((r118 = 0 ∨ r118 = 1) ∧ P r118 M119)))))) ∧ (r16 = (-1) → (P 0 M17)))))))) ∧ (r7 = (-1) → (P 0 M8)))))))) ∧ (16 ≤ (M 14 1) → (CI m7_fail 1 [(17, ((2 : Nat) : Int)), (0, 2)] M (fun r121 M122 => ((r121 = 0 ∨ r121 = 1) ∧ P r121 M122)))))) : CI m7_readFact 5 [(17, ((2 : Nat) : Int)), (0, x1)] M P := by
  refine CI_of (by decide +kernel) (Nat.le_of_ble_eq_true rfl) ?_
  show A m7_readFact 5 0 0 [(17, ((2 : Nat) : Int)), (0, x1), (2, 0), (2, 0), (2, 0), (2, 0)] [] M (Ki P)
  refine A_aload_n (i := 0) (f := 0) (by omega) rfl (by decide +kernel) rfl ?_
  refine B_getr (o' := ((14 : Nat) : Int)) (q := (RX7, TX7, 18)) (ci := 7) (j := 2) (by decide +kernel) rfl (by decide) rfl (by omega) fl_7_25 rfl ?_
  refine B_getp (v := (M 14 1)) (q := (RX2, TX2, 2)) (ci := 2) (j := 1) (p := 1) (by decide +kernel) rfl (by decide) rfl (Or.inl rfl) fl_7_143 rfl ?_
  refine A_bipush (a := 16) (by decide +kernel) (by unfold in32; omega) (by decide +kernel) ?_
  refine A_ic_lt (off := 9) (tgt := 18) (by decide +kernel) (by omega) (fun b1 => ?_) (fun b1 => ?_)
  · have h2 := h.1 b1
    refine A_aload_n (i := 0) (f := 0) (by omega) rfl (by decide +kernel) rfl ?_
    refine A_cVd (q := (RX7, TX7, 18)) (ci := 7) (o := ((2 : Nat) : Int)) (args := []) (st := []) (by decide +kernel) cv_m7_next rfl rfl in_m7_next se_m7_next lk_7_81 rfl (by omega) (Nat.le_of_ble_eq_true rfl) h2 (fun M5 h6 => ?_)
    refine A_aload_n (i := 0) (f := 0) (by omega) rfl (by decide +kernel) rfl ?_
    refine A_cVi (q := (RX7, TX7, 18)) (ci := 7) (o := ((2 : Nat) : Int)) (args := []) (st := []) (by decide +kernel) cv_m7_personHere rfl rfl in_m7_personHere se_m7_personHere lk_7_146 rfl (by omega) (Nat.le_of_ble_eq_true rfl) h6 (fun r7 M8 _ h9 => ?_)
    refine A_istore_n (i := 2) (f := 2) rfl (by decide +kernel) (by decide) (fun w h0 hw => by simp at hw; first | (rw [← hw]; decide) | (rw [← hw]; simp)) ?_
    refine A_iload_n (i := 2) (f := 2) rfl (by decide +kernel) rfl ?_
    refine A_iconst (a := (-1)) (by decide +kernel) (by unfold in32; omega) ?_
    refine A_ic_ne (off := 5) (tgt := 34) (by decide +kernel) (by omega) (fun b10 => ?_) (fun b10 => ?_)
    · have h11 := h9.1 b10
      refine A_aload_n (i := 0) (f := 0) (by omega) rfl (by decide +kernel) rfl ?_
      refine A_cVd (q := (RX7, TX7, 18)) (ci := 7) (o := ((2 : Nat) : Int)) (args := []) (st := []) (by decide +kernel) cv_m7_next rfl rfl in_m7_next se_m7_next lk_7_81 rfl (by omega) (Nat.le_of_ble_eq_true rfl) h11 (fun M14 h15 => ?_)
      refine A_aload_n (i := 0) (f := 0) (by omega) rfl (by decide +kernel) rfl ?_
      refine A_cVi (q := (RX7, TX7, 18)) (ci := 7) (o := ((2 : Nat) : Int)) (args := []) (st := []) (by decide +kernel) cv_m7_personHere rfl rfl in_m7_personHere se_m7_personHere lk_7_146 rfl (by omega) (Nat.le_of_ble_eq_true rfl) h15 (fun r16 M17 _ h18 => ?_)
      refine A_istore_n (i := 3) (f := 3) rfl (by decide +kernel) (by decide) (fun w h0 hw => by simp at hw; first | (rw [← hw]; decide) | (rw [← hw]; simp)) ?_
      refine A_iload_n (i := 3) (f := 3) rfl (by decide +kernel) rfl ?_
      refine A_iconst (a := (-1)) (by decide +kernel) (by unfold in32; omega) ?_
      refine A_ic_ne (off := 5) (tgt := 50) (by decide +kernel) (by omega) (fun b19 => ?_) (fun b19 => ?_)
      · have h20 := h18.1 b19
        refine A_iload_n (i := 2) (f := 2) rfl (by decide +kernel) rfl ?_
        refine A_iload_n (i := 3) (f := 3) rfl (by decide +kernel) rfl ?_
        refine A_ic_ne (off := 9) (tgt := 61) (by decide +kernel) (by omega) (fun b22 => ?_) (fun b22 => ?_)
        · have h23 := h20.1 b22
          refine A_aload_n (i := 0) (f := 0) (by omega) rfl (by decide +kernel) rfl ?_
          refine B_getp (v := (M17 2 14)) (q := (RX7, TX7, 18)) (ci := 7) (j := 14) (p := 14) (by decide +kernel) rfl (by decide) rfl (Or.inl rfl) fl_7_149 rfl ?_
          refine A_istore (i := 4) (by decide +kernel) (by decide) (fun w h0 hw => by simp at hw; first | (rw [← hw]; decide) | (rw [← hw]; simp)) ?_
          refine A_aload_n (i := 0) (f := 0) (by omega) rfl (by decide +kernel) rfl ?_
          refine A_cVd (q := (RX7, TX7, 18)) (ci := 7) (o := ((2 : Nat) : Int)) (args := []) (st := []) (by decide +kernel) cv_m7_next rfl rfl in_m7_next se_m7_next lk_7_81 rfl (by omega) (Nat.le_of_ble_eq_true rfl) h23 (fun M26 h27 => ?_)
          refine A_iconst (a := (-1)) (by decide +kernel) (by unfold in32; omega) ?_
          refine A_istore (i := 5) (by decide +kernel) (by decide) (fun w h0 hw => by simp at hw; first | (rw [← hw]; decide) | (rw [← hw]; simp)) ?_
          refine A_iload_n (i := 1) (f := 1) rfl (by decide +kernel) rfl ?_
          refine A_if_ne (off := 31) (tgt := 106) (by decide +kernel) (by omega) (fun b28 => ?_) (fun b28 => ?_)
          · have h29 := h27.1 b28
            refine A_aload_n (i := 0) (f := 0) (by omega) rfl (by decide +kernel) rfl ?_
            refine B_getr (o' := ((14 : Nat) : Int)) (q := (RX7, TX7, 18)) (ci := 7) (j := 2) (by decide +kernel) rfl (by decide) rfl (by omega) fl_7_25 rfl ?_
            refine A_iload_n (i := 2) (f := 2) rfl (by decide +kernel) rfl ?_
            refine A_iload_n (i := 3) (f := 3) rfl (by decide +kernel) rfl ?_
            refine A_iload_n (i := 1) (f := 1) rfl (by decide +kernel) rfl ?_
            refine A_iload (i := 5) (by decide +kernel) rfl ?_
            refine A_cVi (q := (RX2, TX2, 2)) (ci := 2) (o := ((14 : Nat) : Int)) (args := [(0, r7), (0, r16), (0, x1), (0, (-1))]) (st := []) (by decide +kernel) cv_m2_tells rfl rfl in_m2_tells se_m2_tells lk_7_155 rfl (by omega) (Nat.le_of_ble_eq_true rfl) h29 (fun r31 M32 _ h33 => ?_)
            refine A_if_eq (off := 11) (tgt := 129) (by decide +kernel) (by omega) (fun b34 => ?_) (fun b34 => ?_)
            · have h35 := h33.1 b34
              refine A_aload_n (i := 0) (f := 0) (by omega) rfl (by decide +kernel) rfl ?_
              refine B_getr (o' := ((14 : Nat) : Int)) (q := (RX7, TX7, 18)) (ci := 7) (j := 2) (by decide +kernel) rfl (by decide) rfl (by omega) fl_7_25 rfl ?_
              refine A_iload_n (i := 2) (f := 2) rfl (by decide +kernel) rfl ?_
              refine A_iload_n (i := 3) (f := 3) rfl (by decide +kernel) rfl ?_
              refine A_iload_n (i := 1) (f := 1) rfl (by decide +kernel) rfl ?_
              refine A_iload (i := 5) (by decide +kernel) rfl ?_
              refine A_cVd (q := (RX2, TX2, 2)) (ci := 2) (o := ((14 : Nat) : Int)) (args := [(0, r7), (0, r16), (0, x1), (0, (-1))]) (st := []) (by decide +kernel) cv_m2_add rfl rfl in_m2_add se_m2_add lk_7_163 rfl (by omega) (Nat.le_of_ble_eq_true rfl) h35 (fun M38 h39 => ?_)
              refine A_aload_n (i := 0) (f := 0) (by omega) rfl (by decide +kernel) rfl ?_
              refine B_getr (o' := ((16 : Nat) : Int)) (q := (RX7, TX7, 18)) (ci := 7) (j := 6) (by decide +kernel) rfl (by decide) rfl (by omega) fl_7_36 rfl ?_
              refine A_aload_n (i := 0) (f := 0) (by omega) rfl (by decide +kernel) rfl ?_
              refine B_getr (o' := ((14 : Nat) : Int)) (q := (RX7, TX7, 18)) (ci := 7) (j := 2) (by decide +kernel) rfl (by decide) rfl (by omega) fl_7_25 rfl ?_
              refine A_aload_n (i := 0) (f := 0) (by omega) rfl (by decide +kernel) rfl ?_
              refine B_getr (o' := ((5 : Nat) : Int)) (q := (RX7, TX7, 18)) (ci := 7) (j := 1) (by decide +kernel) rfl (by decide) rfl (by omega) fl_7_18 rfl ?_
              refine B_getp (v := (M38 5 2)) (q := (RX0, TX0, 9)) (ci := 0) (j := 2) (p := 2) (by decide +kernel) rfl (by decide) rfl (Or.inl rfl) fl_7_127 rfl ?_
              refine A_cVi (q := (RX5, TX5, 5)) (ci := 5) (o := ((16 : Nat) : Int)) (args := [(12, ((14 : Nat) : Int)), (0, (M38 5 2))]) (st := []) (by decide +kernel) cv_m5_bendsInSomeSeason rfl rfl in_m5_bendsInSomeSeason se_m5_bendsInSomeSeason lk_7_167 rfl (by omega) (Nat.le_of_ble_eq_true rfl) h39 (fun r40 M41 _ h42 => ?_)
              refine A_if_eq (off := 13) (tgt := 172) (by decide +kernel) (by omega) (fun b43 => ?_) (fun b43 => ?_)
              · have h44 := h42.1 b43
                refine A_iconst (a := 1) (by decide +kernel) (by unfold in32; omega) ?_
                refine A_goto (off := 4) (tgt := 177) (by decide +kernel) (by omega) ?_
                exact A_ret ⟨by decide +kernel, Or.inr ⟨rfl, by decide⟩⟩ ⟨_, rfl, h44⟩
              · have h45 := h42.2 b43
                refine A_aload_n (i := 0) (f := 0) (by omega) rfl (by decide +kernel) rfl ?_
                refine A_iconst (a := 5) (by decide +kernel) (by unfold in32; omega) ?_
                refine A_iload (i := 4) (by decide +kernel) rfl ?_
                refine A_cVi (q := (RX7, TX7, 18)) (ci := 7) (o := ((2 : Nat) : Int)) (args := [(0, 5), (0, (M17 2 14))]) (st := []) (by decide +kernel) cv_m7_failAt rfl rfl in_m7_failAt se_m7_failAt lk_7_159 rfl (by omega) (Nat.le_of_ble_eq_true rfl) h45 (fun r46 M47 _ h48 => ?_)
                refine A_if_eq (off := 7) (tgt := 176) (by decide +kernel) (by omega) (fun b49 => ?_) (fun b49 => ?_)
                · have h50 := h48.1 b49
                  refine A_iconst (a := 0) (by decide +kernel) (by unfold in32; omega) ?_
                  exact A_ret ⟨by decide +kernel, Or.inr ⟨rfl, by decide⟩⟩ ⟨_, rfl, h50⟩
                · have h51 := h48.2 b49
                  refine A_iconst (a := 1) (by decide +kernel) (by unfold in32; omega) ?_
                  refine A_goto (off := 4) (tgt := 177) (by decide +kernel) (by omega) ?_
                  exact A_ret ⟨by decide +kernel, Or.inr ⟨rfl, by decide⟩⟩ ⟨_, rfl, h51⟩
            · have h36 := h33.2 b34
              refine A_aload_n (i := 0) (f := 0) (by omega) rfl (by decide +kernel) rfl ?_
              refine A_iconst (a := 3) (by decide +kernel) (by unfold in32; omega) ?_
              refine A_iload (i := 4) (by decide +kernel) rfl ?_
              refine A_cVi (q := (RX7, TX7, 18)) (ci := 7) (o := ((2 : Nat) : Int)) (args := [(0, 3), (0, (M17 2 14))]) (st := []) (by decide +kernel) cv_m7_failAt rfl rfl in_m7_failAt se_m7_failAt lk_7_159 rfl (by omega) (Nat.le_of_ble_eq_true rfl) h36 (fun r52 M53 _ h54 => ?_)
              exact A_ret ⟨by decide +kernel, Or.inr ⟨rfl, h54.1⟩⟩ ⟨_, rfl, h54.2⟩
          · have h30 := h27.2 (Decidable.not_not.mp b28)
            refine A_aload_n (i := 0) (f := 0) (by omega) rfl (by decide +kernel) rfl ?_
            refine A_bipush (a := 6) (by decide +kernel) (by unfold in32; omega) (by decide +kernel) ?_
            refine A_cVi (q := (RX7, TX7, 18)) (ci := 7) (o := ((2 : Nat) : Int)) (args := [(0, 6)]) (st := []) (by decide +kernel) cv_m7_isWord rfl rfl in_m7_isWord se_m7_isWord lk_7_152 rfl (by omega) (Nat.le_of_ble_eq_true rfl) h30 (fun r55 M56 _ h57 => ?_)
            refine A_if_eq (off := 22) (tgt := 106) (by decide +kernel) (by omega) (fun b58 => ?_) (fun b58 => ?_)
            · have h59 := h57.1 b58
              refine A_aload_n (i := 0) (f := 0) (by omega) rfl (by decide +kernel) rfl ?_
              refine B_getr (o' := ((14 : Nat) : Int)) (q := (RX7, TX7, 18)) (ci := 7) (j := 2) (by decide +kernel) rfl (by decide) rfl (by omega) fl_7_25 rfl ?_
              refine A_iload_n (i := 2) (f := 2) rfl (by decide +kernel) rfl ?_
              refine A_iload_n (i := 3) (f := 3) rfl (by decide +kernel) rfl ?_
              refine A_iload_n (i := 1) (f := 1) rfl (by decide +kernel) rfl ?_
              refine A_iload (i := 5) (by decide +kernel) rfl ?_
              refine A_cVi (q := (RX2, TX2, 2)) (ci := 2) (o := ((14 : Nat) : Int)) (args := [(0, r7), (0, r16), (0, x1), (0, (-1))]) (st := []) (by decide +kernel) cv_m2_tells rfl rfl in_m2_tells se_m2_tells lk_7_155 rfl (by omega) (Nat.le_of_ble_eq_true rfl) h59 (fun r61 M62 _ h63 => ?_)
              refine A_if_eq (off := 11) (tgt := 129) (by decide +kernel) (by omega) (fun b64 => ?_) (fun b64 => ?_)
              · have h65 := h63.1 b64
                refine A_aload_n (i := 0) (f := 0) (by omega) rfl (by decide +kernel) rfl ?_
                refine B_getr (o' := ((14 : Nat) : Int)) (q := (RX7, TX7, 18)) (ci := 7) (j := 2) (by decide +kernel) rfl (by decide) rfl (by omega) fl_7_25 rfl ?_
                refine A_iload_n (i := 2) (f := 2) rfl (by decide +kernel) rfl ?_
                refine A_iload_n (i := 3) (f := 3) rfl (by decide +kernel) rfl ?_
                refine A_iload_n (i := 1) (f := 1) rfl (by decide +kernel) rfl ?_
                refine A_iload (i := 5) (by decide +kernel) rfl ?_
                refine A_cVd (q := (RX2, TX2, 2)) (ci := 2) (o := ((14 : Nat) : Int)) (args := [(0, r7), (0, r16), (0, x1), (0, (-1))]) (st := []) (by decide +kernel) cv_m2_add rfl rfl in_m2_add se_m2_add lk_7_163 rfl (by omega) (Nat.le_of_ble_eq_true rfl) h65 (fun M68 h69 => ?_)
                refine A_aload_n (i := 0) (f := 0) (by omega) rfl (by decide +kernel) rfl ?_
                refine B_getr (o' := ((16 : Nat) : Int)) (q := (RX7, TX7, 18)) (ci := 7) (j := 6) (by decide +kernel) rfl (by decide) rfl (by omega) fl_7_36 rfl ?_
                refine A_aload_n (i := 0) (f := 0) (by omega) rfl (by decide +kernel) rfl ?_
                refine B_getr (o' := ((14 : Nat) : Int)) (q := (RX7, TX7, 18)) (ci := 7) (j := 2) (by decide +kernel) rfl (by decide) rfl (by omega) fl_7_25 rfl ?_
                refine A_aload_n (i := 0) (f := 0) (by omega) rfl (by decide +kernel) rfl ?_
                refine B_getr (o' := ((5 : Nat) : Int)) (q := (RX7, TX7, 18)) (ci := 7) (j := 1) (by decide +kernel) rfl (by decide) rfl (by omega) fl_7_18 rfl ?_
                refine B_getp (v := (M68 5 2)) (q := (RX0, TX0, 9)) (ci := 0) (j := 2) (p := 2) (by decide +kernel) rfl (by decide) rfl (Or.inl rfl) fl_7_127 rfl ?_
                refine A_cVi (q := (RX5, TX5, 5)) (ci := 5) (o := ((16 : Nat) : Int)) (args := [(12, ((14 : Nat) : Int)), (0, (M68 5 2))]) (st := []) (by decide +kernel) cv_m5_bendsInSomeSeason rfl rfl in_m5_bendsInSomeSeason se_m5_bendsInSomeSeason lk_7_167 rfl (by omega) (Nat.le_of_ble_eq_true rfl) h69 (fun r70 M71 _ h72 => ?_)
                refine A_if_eq (off := 13) (tgt := 172) (by decide +kernel) (by omega) (fun b73 => ?_) (fun b73 => ?_)
                · have h74 := h72.1 b73
                  refine A_iconst (a := 1) (by decide +kernel) (by unfold in32; omega) ?_
                  refine A_goto (off := 4) (tgt := 177) (by decide +kernel) (by omega) ?_
                  exact A_ret ⟨by decide +kernel, Or.inr ⟨rfl, by decide⟩⟩ ⟨_, rfl, h74⟩
                · have h75 := h72.2 b73
                  refine A_aload_n (i := 0) (f := 0) (by omega) rfl (by decide +kernel) rfl ?_
                  refine A_iconst (a := 5) (by decide +kernel) (by unfold in32; omega) ?_
                  refine A_iload (i := 4) (by decide +kernel) rfl ?_
                  refine A_cVi (q := (RX7, TX7, 18)) (ci := 7) (o := ((2 : Nat) : Int)) (args := [(0, 5), (0, (M17 2 14))]) (st := []) (by decide +kernel) cv_m7_failAt rfl rfl in_m7_failAt se_m7_failAt lk_7_159 rfl (by omega) (Nat.le_of_ble_eq_true rfl) h75 (fun r76 M77 _ h78 => ?_)
                  refine A_if_eq (off := 7) (tgt := 176) (by decide +kernel) (by omega) (fun b79 => ?_) (fun b79 => ?_)
                  · have h80 := h78.1 b79
                    refine A_iconst (a := 0) (by decide +kernel) (by unfold in32; omega) ?_
                    exact A_ret ⟨by decide +kernel, Or.inr ⟨rfl, by decide⟩⟩ ⟨_, rfl, h80⟩
                  · have h81 := h78.2 b79
                    refine A_iconst (a := 1) (by decide +kernel) (by unfold in32; omega) ?_
                    refine A_goto (off := 4) (tgt := 177) (by decide +kernel) (by omega) ?_
                    exact A_ret ⟨by decide +kernel, Or.inr ⟨rfl, by decide⟩⟩ ⟨_, rfl, h81⟩
              · have h66 := h63.2 b64
                refine A_aload_n (i := 0) (f := 0) (by omega) rfl (by decide +kernel) rfl ?_
                refine A_iconst (a := 3) (by decide +kernel) (by unfold in32; omega) ?_
                refine A_iload (i := 4) (by decide +kernel) rfl ?_
                refine A_cVi (q := (RX7, TX7, 18)) (ci := 7) (o := ((2 : Nat) : Int)) (args := [(0, 3), (0, (M17 2 14))]) (st := []) (by decide +kernel) cv_m7_failAt rfl rfl in_m7_failAt se_m7_failAt lk_7_159 rfl (by omega) (Nat.le_of_ble_eq_true rfl) h66 (fun r82 M83 _ h84 => ?_)
                exact A_ret ⟨by decide +kernel, Or.inr ⟨rfl, h84.1⟩⟩ ⟨_, rfl, h84.2⟩
            · have h60 := h57.2 b58
              refine A_aload_n (i := 0) (f := 0) (by omega) rfl (by decide +kernel) rfl ?_
              refine A_cVd (q := (RX7, TX7, 18)) (ci := 7) (o := ((2 : Nat) : Int)) (args := []) (st := []) (by decide +kernel) cv_m7_next rfl rfl in_m7_next se_m7_next lk_7_81 rfl (by omega) (Nat.le_of_ble_eq_true rfl) h60 (fun M86 h87 => ?_)
              refine A_aload_n (i := 0) (f := 0) (by omega) rfl (by decide +kernel) rfl ?_
              refine A_iconst (a := 3) (by decide +kernel) (by unfold in32; omega) ?_
              refine A_cVi (q := (RX7, TX7, 18)) (ci := 7) (o := ((2 : Nat) : Int)) (args := [(0, 3)]) (st := []) (by decide +kernel) cv_m7_readNumber rfl rfl in_m7_readNumber se_m7_readNumber lk_7_136 rfl (by omega) (Nat.le_of_ble_eq_true rfl) h87 (fun r88 M89 _ h90 => ?_)
              refine A_istore (i := 5) (by decide +kernel) (by decide) (fun w h0 hw => by simp at hw; first | (rw [← hw]; decide) | (rw [← hw]; simp)) ?_
              refine A_iload (i := 5) (by decide +kernel) rfl ?_
              refine A_iconst (a := (-1)) (by decide +kernel) (by unfold in32; omega) ?_
              refine A_ic_ne (off := 5) (tgt := 106) (by decide +kernel) (by omega) (fun b91 => ?_) (fun b91 => ?_)
              · have h92 := h90.1 b91
                refine A_aload_n (i := 0) (f := 0) (by omega) rfl (by decide +kernel) rfl ?_
                refine B_getr (o' := ((14 : Nat) : Int)) (q := (RX7, TX7, 18)) (ci := 7) (j := 2) (by decide +kernel) rfl (by decide) rfl (by omega) fl_7_25 rfl ?_
                refine A_iload_n (i := 2) (f := 2) rfl (by decide +kernel) rfl ?_
                refine A_iload_n (i := 3) (f := 3) rfl (by decide +kernel) rfl ?_
                refine A_iload_n (i := 1) (f := 1) rfl (by decide +kernel) rfl ?_
                refine A_iload (i := 5) (by decide +kernel) rfl ?_
                refine A_cVi (q := (RX2, TX2, 2)) (ci := 2) (o := ((14 : Nat) : Int)) (args := [(0, r7), (0, r16), (0, x1), (0, r88)]) (st := []) (by decide +kernel) cv_m2_tells rfl rfl in_m2_tells se_m2_tells lk_7_155 rfl (by omega) (Nat.le_of_ble_eq_true rfl) h92 (fun r94 M95 _ h96 => ?_)
                refine A_if_eq (off := 11) (tgt := 129) (by decide +kernel) (by omega) (fun b97 => ?_) (fun b97 => ?_)
                · have h98 := h96.1 b97
                  refine A_aload_n (i := 0) (f := 0) (by omega) rfl (by decide +kernel) rfl ?_
                  refine B_getr (o' := ((14 : Nat) : Int)) (q := (RX7, TX7, 18)) (ci := 7) (j := 2) (by decide +kernel) rfl (by decide) rfl (by omega) fl_7_25 rfl ?_
                  refine A_iload_n (i := 2) (f := 2) rfl (by decide +kernel) rfl ?_
                  refine A_iload_n (i := 3) (f := 3) rfl (by decide +kernel) rfl ?_
                  refine A_iload_n (i := 1) (f := 1) rfl (by decide +kernel) rfl ?_
                  refine A_iload (i := 5) (by decide +kernel) rfl ?_
                  refine A_cVd (q := (RX2, TX2, 2)) (ci := 2) (o := ((14 : Nat) : Int)) (args := [(0, r7), (0, r16), (0, x1), (0, r88)]) (st := []) (by decide +kernel) cv_m2_add rfl rfl in_m2_add se_m2_add lk_7_163 rfl (by omega) (Nat.le_of_ble_eq_true rfl) h98 (fun M101 h102 => ?_)
                  refine A_aload_n (i := 0) (f := 0) (by omega) rfl (by decide +kernel) rfl ?_
                  refine B_getr (o' := ((16 : Nat) : Int)) (q := (RX7, TX7, 18)) (ci := 7) (j := 6) (by decide +kernel) rfl (by decide) rfl (by omega) fl_7_36 rfl ?_
                  refine A_aload_n (i := 0) (f := 0) (by omega) rfl (by decide +kernel) rfl ?_
                  refine B_getr (o' := ((14 : Nat) : Int)) (q := (RX7, TX7, 18)) (ci := 7) (j := 2) (by decide +kernel) rfl (by decide) rfl (by omega) fl_7_25 rfl ?_
                  refine A_aload_n (i := 0) (f := 0) (by omega) rfl (by decide +kernel) rfl ?_
                  refine B_getr (o' := ((5 : Nat) : Int)) (q := (RX7, TX7, 18)) (ci := 7) (j := 1) (by decide +kernel) rfl (by decide) rfl (by omega) fl_7_18 rfl ?_
                  refine B_getp (v := (M101 5 2)) (q := (RX0, TX0, 9)) (ci := 0) (j := 2) (p := 2) (by decide +kernel) rfl (by decide) rfl (Or.inl rfl) fl_7_127 rfl ?_
                  refine A_cVi (q := (RX5, TX5, 5)) (ci := 5) (o := ((16 : Nat) : Int)) (args := [(12, ((14 : Nat) : Int)), (0, (M101 5 2))]) (st := []) (by decide +kernel) cv_m5_bendsInSomeSeason rfl rfl in_m5_bendsInSomeSeason se_m5_bendsInSomeSeason lk_7_167 rfl (by omega) (Nat.le_of_ble_eq_true rfl) h102 (fun r103 M104 _ h105 => ?_)
                  refine A_if_eq (off := 13) (tgt := 172) (by decide +kernel) (by omega) (fun b106 => ?_) (fun b106 => ?_)
                  · have h107 := h105.1 b106
                    refine A_iconst (a := 1) (by decide +kernel) (by unfold in32; omega) ?_
                    refine A_goto (off := 4) (tgt := 177) (by decide +kernel) (by omega) ?_
                    exact A_ret ⟨by decide +kernel, Or.inr ⟨rfl, by decide⟩⟩ ⟨_, rfl, h107⟩
                  · have h108 := h105.2 b106
                    refine A_aload_n (i := 0) (f := 0) (by omega) rfl (by decide +kernel) rfl ?_
                    refine A_iconst (a := 5) (by decide +kernel) (by unfold in32; omega) ?_
                    refine A_iload (i := 4) (by decide +kernel) rfl ?_
                    refine A_cVi (q := (RX7, TX7, 18)) (ci := 7) (o := ((2 : Nat) : Int)) (args := [(0, 5), (0, (M17 2 14))]) (st := []) (by decide +kernel) cv_m7_failAt rfl rfl in_m7_failAt se_m7_failAt lk_7_159 rfl (by omega) (Nat.le_of_ble_eq_true rfl) h108 (fun r109 M110 _ h111 => ?_)
                    refine A_if_eq (off := 7) (tgt := 176) (by decide +kernel) (by omega) (fun b112 => ?_) (fun b112 => ?_)
                    · have h113 := h111.1 b112
                      refine A_iconst (a := 0) (by decide +kernel) (by unfold in32; omega) ?_
                      exact A_ret ⟨by decide +kernel, Or.inr ⟨rfl, by decide⟩⟩ ⟨_, rfl, h113⟩
                    · have h114 := h111.2 b112
                      refine A_iconst (a := 1) (by decide +kernel) (by unfold in32; omega) ?_
                      refine A_goto (off := 4) (tgt := 177) (by decide +kernel) (by omega) ?_
                      exact A_ret ⟨by decide +kernel, Or.inr ⟨rfl, by decide⟩⟩ ⟨_, rfl, h114⟩
                · have h99 := h96.2 b97
                  refine A_aload_n (i := 0) (f := 0) (by omega) rfl (by decide +kernel) rfl ?_
                  refine A_iconst (a := 3) (by decide +kernel) (by unfold in32; omega) ?_
                  refine A_iload (i := 4) (by decide +kernel) rfl ?_
                  refine A_cVi (q := (RX7, TX7, 18)) (ci := 7) (o := ((2 : Nat) : Int)) (args := [(0, 3), (0, (M17 2 14))]) (st := []) (by decide +kernel) cv_m7_failAt rfl rfl in_m7_failAt se_m7_failAt lk_7_159 rfl (by omega) (Nat.le_of_ble_eq_true rfl) h99 (fun r115 M116 _ h117 => ?_)
                  exact A_ret ⟨by decide +kernel, Or.inr ⟨rfl, h117.1⟩⟩ ⟨_, rfl, h117.2⟩
              · have h93 := h90.2 (Decidable.not_not.mp b91)
                refine A_iconst (a := 0) (by decide +kernel) (by unfold in32; omega) ?_
                exact A_ret ⟨by decide +kernel, Or.inr ⟨rfl, by decide⟩⟩ ⟨_, rfl, h93⟩
        · have h24 := h20.2 (Decidable.not_not.mp b22)
          refine A_aload_n (i := 0) (f := 0) (by omega) rfl (by decide +kernel) rfl ?_
          refine A_iconst (a := 5) (by decide +kernel) (by unfold in32; omega) ?_
          refine A_cVi (q := (RX7, TX7, 18)) (ci := 7) (o := ((2 : Nat) : Int)) (args := [(0, 5)]) (st := []) (by decide +kernel) cv_m7_fail rfl rfl in_m7_fail se_m7_fail lk_7_118 rfl (by omega) (Nat.le_of_ble_eq_true rfl) h24 (fun r118 M119 _ h120 => ?_)
          exact A_ret ⟨by decide +kernel, Or.inr ⟨rfl, h120.1⟩⟩ ⟨_, rfl, h120.2⟩
      · have h21 := h18.2 (Decidable.not_not.mp b19)
        refine A_iconst (a := 0) (by decide +kernel) (by unfold in32; omega) ?_
        exact A_ret ⟨by decide +kernel, Or.inr ⟨rfl, by decide⟩⟩ ⟨_, rfl, h21⟩
    · have h12 := h9.2 (Decidable.not_not.mp b10)
      refine A_iconst (a := 0) (by decide +kernel) (by unfold in32; omega) ?_
      exact A_ret ⟨by decide +kernel, Or.inr ⟨rfl, by decide⟩⟩ ⟨_, rfl, h12⟩
  · have h3 := h.2 (Int.not_lt.mp b1)
    refine A_aload_n (i := 0) (f := 0) (by omega) rfl (by decide +kernel) rfl ?_
    refine A_iconst (a := 2) (by decide +kernel) (by unfold in32; omega) ?_
    refine A_cVi (q := (RX7, TX7, 18)) (ci := 7) (o := ((2 : Nat) : Int)) (args := [(0, 2)]) (st := []) (by decide +kernel) cv_m7_fail rfl rfl in_m7_fail se_m7_fail lk_7_118 rfl (by omega) (Nat.le_of_ble_eq_true rfl) h3 (fun r121 M122 _ h123 => ?_)
    exact A_ret ⟨by decide +kernel, Or.inr ⟨rfl, h123.1⟩⟩ ⟨_, rfl, h123.2⟩
theorem q_7_readPartName  {M : Mem} {P : Int → Mem → Prop} (h : (((M 5 4) < 5 → (CD m7_next 3 [(17, ((2 : Nat) : Int))] M (fun M5 => (CI m7_isName 2 [(17, ((2 : Nat) : Int))] M5 (fun r7 M8 => ((r7 ≠ 0 → (CI m0_partNamed 3 [(10, ((5 : Nat) : Int)), (0, (M8 2 16))] M8 (fun r13 M14 => ((r13 = (-1) → (CD m0_addPart 2 [(10, ((5 : Nat) : Int)), (0, (M14 2 16))] M14 (fun M20 => (CD m7_next 3 [(17, ((2 : Nat) : Int))] M20 (fun M23 => (P 1 M23)))))) ∧ (r13 ≠ (-1) → (CI m7_fail 1 [(17, ((2 : Nat) : Int)), (0, 3)] M14 (fun r25 M26 => ((r25 = 0 ∨ r25 = 1) ∧ P r25 M26)))))))) ∧ (r7 = 0 → (CI m7_fail 1 [(17, ((2 : Nat) : Int)), (0, 1)] M8 (fun r28 M29 => ((r28 = 0 ∨ r28 = 1) ∧ P r28 M29)))))))))) ∧ (5 ≤ (M 5 4) → (CI m7_fail 1 [(17, ((2 : Nat) : Int)), (0, 2)] M (fun r31 M32 => ((r31 = 0 ∨ r31 = 1) ∧ P r31 M32)))))) : CI m7_readPartName 4 [(17, ((2 : Nat) : Int))] M P := by
  refine CI_of (by decide +kernel) (Nat.le_of_ble_eq_true rfl) ?_
  show A m7_readPartName 4 0 0 [(17, ((2 : Nat) : Int))] [] M (Ki P)
  refine A_aload_n (i := 0) (f := 0) (by omega) rfl (by decide +kernel) rfl ?_
  refine B_getr (o' := ((5 : Nat) : Int)) (q := (RX7, TX7, 18)) (ci := 7) (j := 1) (by decide +kernel) rfl (by decide) rfl (by omega) fl_7_18 rfl ?_
  refine B_getp (v := (M 5 4)) (q := (RX0, TX0, 9)) (ci := 0) (j := 4) (p := 4) (by decide +kernel) rfl (by decide) rfl (Or.inl rfl) fl_7_104 rfl ?_
  refine A_iconst (a := 5) (by decide +kernel) (by unfold in32; omega) ?_
  refine A_ic_lt (off := 9) (tgt := 17) (by decide +kernel) (by omega) (fun b1 => ?_) (fun b1 => ?_)
  · have h2 := h.1 b1
    refine A_aload_n (i := 0) (f := 0) (by omega) rfl (by decide +kernel) rfl ?_
    refine A_cVd (q := (RX7, TX7, 18)) (ci := 7) (o := ((2 : Nat) : Int)) (args := []) (st := []) (by decide +kernel) cv_m7_next rfl rfl in_m7_next se_m7_next lk_7_81 rfl (by omega) (Nat.le_of_ble_eq_true rfl) h2 (fun M5 h6 => ?_)
    refine A_aload_n (i := 0) (f := 0) (by omega) rfl (by decide +kernel) rfl ?_
    refine A_cVi (q := (RX7, TX7, 18)) (ci := 7) (o := ((2 : Nat) : Int)) (args := []) (st := []) (by decide +kernel) cv_m7_isName rfl rfl in_m7_isName se_m7_isName lk_7_130 rfl (by omega) (Nat.le_of_ble_eq_true rfl) h6 (fun r7 M8 _ h9 => ?_)
    refine A_if_ne (off := 9) (tgt := 34) (by decide +kernel) (by omega) (fun b10 => ?_) (fun b10 => ?_)
    · have h11 := h9.1 b10
      refine A_aload_n (i := 0) (f := 0) (by omega) rfl (by decide +kernel) rfl ?_
      refine B_getr (o' := ((5 : Nat) : Int)) (q := (RX7, TX7, 18)) (ci := 7) (j := 1) (by decide +kernel) rfl (by decide) rfl (by omega) fl_7_18 rfl ?_
      refine A_aload_n (i := 0) (f := 0) (by omega) rfl (by decide +kernel) rfl ?_
      refine B_getp (v := (M8 2 16)) (q := (RX7, TX7, 18)) (ci := 7) (j := 16) (p := 16) (by decide +kernel) rfl (by decide) rfl (Or.inl rfl) fl_7_87 rfl ?_
      refine A_cVi (q := (RX0, TX0, 9)) (ci := 0) (o := ((5 : Nat) : Int)) (args := [(0, (M8 2 16))]) (st := []) (by decide +kernel) cv_m0_partNamed rfl rfl in_m0_partNamed se_m0_partNamed lk_7_171 rfl (by omega) (Nat.le_of_ble_eq_true rfl) h11 (fun r13 M14 _ h15 => ?_)
      refine A_iconst (a := (-1)) (by decide +kernel) (by unfold in32; omega) ?_
      refine A_ic_eq (off := 9) (tgt := 55) (by decide +kernel) (by omega) (fun b16 => ?_) (fun b16 => ?_)
      · have h17 := h15.1 b16
        refine A_aload_n (i := 0) (f := 0) (by omega) rfl (by decide +kernel) rfl ?_
        refine B_getr (o' := ((5 : Nat) : Int)) (q := (RX7, TX7, 18)) (ci := 7) (j := 1) (by decide +kernel) rfl (by decide) rfl (by omega) fl_7_18 rfl ?_
        refine A_aload_n (i := 0) (f := 0) (by omega) rfl (by decide +kernel) rfl ?_
        refine B_getp (v := (M14 2 16)) (q := (RX7, TX7, 18)) (ci := 7) (j := 16) (p := 16) (by decide +kernel) rfl (by decide) rfl (Or.inl rfl) fl_7_87 rfl ?_
        refine A_cVd (q := (RX0, TX0, 9)) (ci := 0) (o := ((5 : Nat) : Int)) (args := [(0, (M14 2 16))]) (st := []) (by decide +kernel) cv_m0_addPart rfl rfl in_m0_addPart se_m0_addPart lk_7_174 rfl (by omega) (Nat.le_of_ble_eq_true rfl) h17 (fun M20 h21 => ?_)
        refine A_aload_n (i := 0) (f := 0) (by omega) rfl (by decide +kernel) rfl ?_
        refine A_cVd (q := (RX7, TX7, 18)) (ci := 7) (o := ((2 : Nat) : Int)) (args := []) (st := []) (by decide +kernel) cv_m7_next rfl rfl in_m7_next se_m7_next lk_7_81 rfl (by omega) (Nat.le_of_ble_eq_true rfl) h21 (fun M23 h24 => ?_)
        refine A_iconst (a := 1) (by decide +kernel) (by unfold in32; omega) ?_
        exact A_ret ⟨by decide +kernel, Or.inr ⟨rfl, by decide⟩⟩ ⟨_, rfl, h24⟩
      · have h18 := h15.2 b16
        refine A_aload_n (i := 0) (f := 0) (by omega) rfl (by decide +kernel) rfl ?_
        refine A_iconst (a := 3) (by decide +kernel) (by unfold in32; omega) ?_
        refine A_cVi (q := (RX7, TX7, 18)) (ci := 7) (o := ((2 : Nat) : Int)) (args := [(0, 3)]) (st := []) (by decide +kernel) cv_m7_fail rfl rfl in_m7_fail se_m7_fail lk_7_118 rfl (by omega) (Nat.le_of_ble_eq_true rfl) h18 (fun r25 M26 _ h27 => ?_)
        exact A_ret ⟨by decide +kernel, Or.inr ⟨rfl, h27.1⟩⟩ ⟨_, rfl, h27.2⟩
    · have h12 := h9.2 (Decidable.not_not.mp b10)
      refine A_aload_n (i := 0) (f := 0) (by omega) rfl (by decide +kernel) rfl ?_
      refine A_iconst (a := 1) (by decide +kernel) (by unfold in32; omega) ?_
      refine A_cVi (q := (RX7, TX7, 18)) (ci := 7) (o := ((2 : Nat) : Int)) (args := [(0, 1)]) (st := []) (by decide +kernel) cv_m7_fail rfl rfl in_m7_fail se_m7_fail lk_7_118 rfl (by omega) (Nat.le_of_ble_eq_true rfl) h12 (fun r28 M29 _ h30 => ?_)
      exact A_ret ⟨by decide +kernel, Or.inr ⟨rfl, h30.1⟩⟩ ⟨_, rfl, h30.2⟩
  · have h3 := h.2 (Int.not_lt.mp b1)
    refine A_aload_n (i := 0) (f := 0) (by omega) rfl (by decide +kernel) rfl ?_
    refine A_iconst (a := 2) (by decide +kernel) (by unfold in32; omega) ?_
    refine A_cVi (q := (RX7, TX7, 18)) (ci := 7) (o := ((2 : Nat) : Int)) (args := [(0, 2)]) (st := []) (by decide +kernel) cv_m7_fail rfl rfl in_m7_fail se_m7_fail lk_7_118 rfl (by omega) (Nat.le_of_ble_eq_true rfl) h3 (fun r31 M32 _ h33 => ?_)
    exact A_ret ⟨by decide +kernel, Or.inr ⟨rfl, h33.1⟩⟩ ⟨_, rfl, h33.2⟩
theorem q_7_readSeason  {M : Mem} {P : Int → Mem → Prop} (h : (((M 5 7) = 0 → (CD m7_next 3 [(17, ((2 : Nat) : Int))] (mset M 5 7 1) (fun M5 => (CI m7_readNumber 4 [(17, ((2 : Nat) : Int)), (0, 3)] M5 (fun r7 M8 => ((r7 ≠ (-1) → (P 1 (mset M8 5 6 r7))) ∧ (r7 = (-1) → (P 0 M8)))))))) ∧ ((M 5 7) ≠ 0 → (CI m7_fail 1 [(17, ((2 : Nat) : Int)), (0, 3)] M (fun r13 M14 => ((r13 = 0 ∨ r13 = 1) ∧ P r13 M14)))))) : CI m7_readSeason 5 [(17, ((2 : Nat) : Int))] M P := by
  refine CI_of (by decide +kernel) (Nat.le_of_ble_eq_true rfl) ?_
  show A m7_readSeason 5 0 0 [(17, ((2 : Nat) : Int)), (2, 0)] [] M (Ki P)
  refine A_aload_n (i := 0) (f := 0) (by omega) rfl (by decide +kernel) rfl ?_
  refine B_getr (o' := ((5 : Nat) : Int)) (q := (RX7, TX7, 18)) (ci := 7) (j := 1) (by decide +kernel) rfl (by decide) rfl (by omega) fl_7_18 rfl ?_
  refine B_getp (v := (M 5 7)) (q := (RX0, TX0, 9)) (ci := 0) (j := 7) (p := 7) (by decide +kernel) rfl (by decide) rfl (Or.inr rfl) fl_7_178 rfl ?_
  refine A_if_eq (off := 9) (tgt := 16) (by decide +kernel) (by omega) (fun b1 => ?_) (fun b1 => ?_)
  · have h2 := h.1 b1
    refine A_aload_n (i := 0) (f := 0) (by omega) rfl (by decide +kernel) rfl ?_
    refine B_getr (o' := ((5 : Nat) : Int)) (q := (RX7, TX7, 18)) (ci := 7) (j := 1) (by decide +kernel) rfl (by decide) rfl (by omega) fl_7_18 rfl ?_
    refine A_iconst (a := 1) (by decide +kernel) (by unfold in32; omega) ?_
    refine B_putp (M' := (mset M 5 7 1)) (q := (RX0, TX0, 9)) (ci := 0) (j := 7) (p := 7) (by decide +kernel) rfl (by decide) rfl (Or.inr ⟨rfl, rfl, by decide⟩) rfl fl_7_178 rfl ?_
    refine A_aload_n (i := 0) (f := 0) (by omega) rfl (by decide +kernel) rfl ?_
    refine A_cVd (q := (RX7, TX7, 18)) (ci := 7) (o := ((2 : Nat) : Int)) (args := []) (st := []) (by decide +kernel) cv_m7_next rfl rfl in_m7_next se_m7_next lk_7_81 rfl (by omega) (Nat.le_of_ble_eq_true rfl) h2 (fun M5 h6 => ?_)
    refine A_aload_n (i := 0) (f := 0) (by omega) rfl (by decide +kernel) rfl ?_
    refine A_iconst (a := 3) (by decide +kernel) (by unfold in32; omega) ?_
    refine A_cVi (q := (RX7, TX7, 18)) (ci := 7) (o := ((2 : Nat) : Int)) (args := [(0, 3)]) (st := []) (by decide +kernel) cv_m7_readNumber rfl rfl in_m7_readNumber se_m7_readNumber lk_7_136 rfl (by omega) (Nat.le_of_ble_eq_true rfl) h6 (fun r7 M8 _ h9 => ?_)
    refine A_istore_n (i := 1) (f := 1) rfl (by decide +kernel) (by decide) (fun w h0 hw => by simp at hw; first | (rw [← hw]; decide) | (rw [← hw]; simp)) ?_
    refine A_iload_n (i := 1) (f := 1) rfl (by decide +kernel) rfl ?_
    refine A_iconst (a := (-1)) (by decide +kernel) (by unfold in32; omega) ?_
    refine A_ic_ne (off := 5) (tgt := 41) (by decide +kernel) (by omega) (fun b10 => ?_) (fun b10 => ?_)
    · have h11 := h9.1 b10
      refine A_aload_n (i := 0) (f := 0) (by omega) rfl (by decide +kernel) rfl ?_
      refine B_getr (o' := ((5 : Nat) : Int)) (q := (RX7, TX7, 18)) (ci := 7) (j := 1) (by decide +kernel) rfl (by decide) rfl (by omega) fl_7_18 rfl ?_
      refine A_iload_n (i := 1) (f := 1) rfl (by decide +kernel) rfl ?_
      refine B_putp (M' := (mset M8 5 6 r7)) (q := (RX0, TX0, 9)) (ci := 0) (j := 6) (p := 6) (by decide +kernel) rfl (by decide) rfl (Or.inl ⟨rfl, rfl⟩) rfl fl_7_182 rfl ?_
      refine A_iconst (a := 1) (by decide +kernel) (by unfold in32; omega) ?_
      exact A_ret ⟨by decide +kernel, Or.inr ⟨rfl, by decide⟩⟩ ⟨_, rfl, h11⟩
    · have h12 := h9.2 (Decidable.not_not.mp b10)
      refine A_iconst (a := 0) (by decide +kernel) (by unfold in32; omega) ?_
      exact A_ret ⟨by decide +kernel, Or.inr ⟨rfl, by decide⟩⟩ ⟨_, rfl, h12⟩
  · have h3 := h.2 b1
    refine A_aload_n (i := 0) (f := 0) (by omega) rfl (by decide +kernel) rfl ?_
    refine A_iconst (a := 3) (by decide +kernel) (by unfold in32; omega) ?_
    refine A_cVi (q := (RX7, TX7, 18)) (ci := 7) (o := ((2 : Nat) : Int)) (args := [(0, 3)]) (st := []) (by decide +kernel) cv_m7_fail rfl rfl in_m7_fail se_m7_fail lk_7_118 rfl (by omega) (Nat.le_of_ble_eq_true rfl) h3 (fun r13 M14 _ h15 => ?_)
    exact A_ret ⟨by decide +kernel, Or.inr ⟨rfl, h15.1⟩⟩ ⟨_, rfl, h15.2⟩
theorem q_7_readRiseWord  {M : Mem} {P : Int → Mem → Prop} (h : (((M 5 8) = 0 → (CD m7_next 3 [(17, ((2 : Nat) : Int))] (mset M 5 8 1) (fun M5 => (P 1 M5)))) ∧ ((M 5 8) ≠ 0 → (CI m7_fail 1 [(17, ((2 : Nat) : Int)), (0, 3)] M (fun r7 M8 => ((r7 = 0 ∨ r7 = 1) ∧ P r7 M8)))))) : CI m7_readRiseWord 4 [(17, ((2 : Nat) : Int))] M P := by
  refine CI_of (by decide +kernel) (Nat.le_of_ble_eq_true rfl) ?_
  show A m7_readRiseWord 4 0 0 [(17, ((2 : Nat) : Int))] [] M (Ki P)
  refine A_aload_n (i := 0) (f := 0) (by omega) rfl (by decide +kernel) rfl ?_
  refine B_getr (o' := ((5 : Nat) : Int)) (q := (RX7, TX7, 18)) (ci := 7) (j := 1) (by decide +kernel) rfl (by decide) rfl (by omega) fl_7_18 rfl ?_
  refine B_getp (v := (M 5 8)) (q := (RX0, TX0, 9)) (ci := 0) (j := 8) (p := 8) (by decide +kernel) rfl (by decide) rfl (Or.inr rfl) fl_7_185 rfl ?_
  refine A_if_eq (off := 9) (tgt := 16) (by decide +kernel) (by omega) (fun b1 => ?_) (fun b1 => ?_)
  · have h2 := h.1 b1
    refine A_aload_n (i := 0) (f := 0) (by omega) rfl (by decide +kernel) rfl ?_
    refine B_getr (o' := ((5 : Nat) : Int)) (q := (RX7, TX7, 18)) (ci := 7) (j := 1) (by decide +kernel) rfl (by decide) rfl (by omega) fl_7_18 rfl ?_
    refine A_iconst (a := 1) (by decide +kernel) (by unfold in32; omega) ?_
    refine B_putp (M' := (mset M 5 8 1)) (q := (RX0, TX0, 9)) (ci := 0) (j := 8) (p := 8) (by decide +kernel) rfl (by decide) rfl (Or.inr ⟨rfl, rfl, by decide⟩) rfl fl_7_185 rfl ?_
    refine A_aload_n (i := 0) (f := 0) (by omega) rfl (by decide +kernel) rfl ?_
    refine A_cVd (q := (RX7, TX7, 18)) (ci := 7) (o := ((2 : Nat) : Int)) (args := []) (st := []) (by decide +kernel) cv_m7_next rfl rfl in_m7_next se_m7_next lk_7_81 rfl (by omega) (Nat.le_of_ble_eq_true rfl) h2 (fun M5 h6 => ?_)
    refine A_iconst (a := 1) (by decide +kernel) (by unfold in32; omega) ?_
    exact A_ret ⟨by decide +kernel, Or.inr ⟨rfl, by decide⟩⟩ ⟨_, rfl, h6⟩
  · have h3 := h.2 b1
    refine A_aload_n (i := 0) (f := 0) (by omega) rfl (by decide +kernel) rfl ?_
    refine A_iconst (a := 3) (by decide +kernel) (by unfold in32; omega) ?_
    refine A_cVi (q := (RX7, TX7, 18)) (ci := 7) (o := ((2 : Nat) : Int)) (args := [(0, 3)]) (st := []) (by decide +kernel) cv_m7_fail rfl rfl in_m7_fail se_m7_fail lk_7_118 rfl (by omega) (Nat.le_of_ble_eq_true rfl) h3 (fun r7 M8 _ h9 => ?_)
    exact A_ret ⟨by decide +kernel, Or.inr ⟨rfl, h9.1⟩⟩ ⟨_, rfl, h9.2⟩
theorem q_7_readNumber {x1 : Int} {M : Mem} {P : Int → Mem → Prop} (h : (((M 2 15) = 2 → (((M 2 16) ≤ x1 → (CD m7_next 3 [(17, ((2 : Nat) : Int))] M (fun M8 => (P (M 2 16) M8)))) ∧ (x1 < (M 2 16) → (CI m7_fail 1 [(17, ((2 : Nat) : Int)), (0, 2)] M (fun r10 M11 => (P (-1) M11)))))) ∧ ((M 2 15) ≠ 2 → (CI m7_fail 1 [(17, ((2 : Nat) : Int)), (0, 1)] M (fun r13 M14 => (P (-1) M14)))))) : CI m7_readNumber 4 [(17, ((2 : Nat) : Int)), (0, x1)] M P := by
  refine CI_of (by decide +kernel) (Nat.le_of_ble_eq_true rfl) ?_
  show A m7_readNumber 4 0 0 [(17, ((2 : Nat) : Int)), (0, x1), (2, 0)] [] M (Ki P)
  refine A_aload_n (i := 0) (f := 0) (by omega) rfl (by decide +kernel) rfl ?_
  refine B_getp (v := (M 2 15)) (q := (RX7, TX7, 18)) (ci := 7) (j := 15) (p := 15) (by decide +kernel) rfl (by decide) rfl (Or.inl rfl) fl_7_84 rfl ?_
  refine A_iconst (a := 2) (by decide +kernel) (by unfold in32; omega) ?_
  refine A_ic_eq (off := 11) (tgt := 16) (by decide +kernel) (by omega) (fun b1 => ?_) (fun b1 => ?_)
  · have h2 := h.1 b1
    refine A_aload_n (i := 0) (f := 0) (by omega) rfl (by decide +kernel) rfl ?_
    refine B_getp (v := (M 2 16)) (q := (RX7, TX7, 18)) (ci := 7) (j := 16) (p := 16) (by decide +kernel) rfl (by decide) rfl (Or.inl rfl) fl_7_87 rfl ?_
    refine A_iload_n (i := 1) (f := 1) rfl (by decide +kernel) rfl ?_
    refine A_ic_le (off := 11) (tgt := 32) (by decide +kernel) (by omega) (fun b4 => ?_) (fun b4 => ?_)
    · have h5 := h2.1 b4
      refine A_aload_n (i := 0) (f := 0) (by omega) rfl (by decide +kernel) rfl ?_
      refine B_getp (v := (M 2 16)) (q := (RX7, TX7, 18)) (ci := 7) (j := 16) (p := 16) (by decide +kernel) rfl (by decide) rfl (Or.inl rfl) fl_7_87 rfl ?_
      refine A_istore_n (i := 2) (f := 2) rfl (by decide +kernel) (by decide) (fun w h0 hw => by simp at hw; first | (rw [← hw]; decide) | (rw [← hw]; simp)) ?_
      refine A_aload_n (i := 0) (f := 0) (by omega) rfl (by decide +kernel) rfl ?_
      refine A_cVd (q := (RX7, TX7, 18)) (ci := 7) (o := ((2 : Nat) : Int)) (args := []) (st := []) (by decide +kernel) cv_m7_next rfl rfl in_m7_next se_m7_next lk_7_81 rfl (by omega) (Nat.le_of_ble_eq_true rfl) h5 (fun M8 h9 => ?_)
      refine A_iload_n (i := 2) (f := 2) rfl (by decide +kernel) rfl ?_
      exact A_ret ⟨by decide +kernel, Or.inl rfl⟩ ⟨_, rfl, h9⟩
    · have h6 := h2.2 (Int.not_le.mp b4)
      refine A_aload_n (i := 0) (f := 0) (by omega) rfl (by decide +kernel) rfl ?_
      refine A_iconst (a := 2) (by decide +kernel) (by unfold in32; omega) ?_
      refine A_cVi (q := (RX7, TX7, 18)) (ci := 7) (o := ((2 : Nat) : Int)) (args := [(0, 2)]) (st := []) (by decide +kernel) cv_m7_fail rfl rfl in_m7_fail se_m7_fail lk_7_118 rfl (by omega) (Nat.le_of_ble_eq_true rfl) h6 (fun r10 M11 _ h12 => ?_)
      refine A_pop (by decide +kernel) (by simp) ?_
      refine A_iconst (a := (-1)) (by decide +kernel) (by unfold in32; omega) ?_
      exact A_ret ⟨by decide +kernel, Or.inl rfl⟩ ⟨_, rfl, h12⟩
  · have h3 := h.2 b1
    refine A_aload_n (i := 0) (f := 0) (by omega) rfl (by decide +kernel) rfl ?_
    refine A_iconst (a := 1) (by decide +kernel) (by unfold in32; omega) ?_
    refine A_cVi (q := (RX7, TX7, 18)) (ci := 7) (o := ((2 : Nat) : Int)) (args := [(0, 1)]) (st := []) (by decide +kernel) cv_m7_fail rfl rfl in_m7_fail se_m7_fail lk_7_118 rfl (by omega) (Nat.le_of_ble_eq_true rfl) h3 (fun r13 M14 _ h15 => ?_)
    refine A_pop (by decide +kernel) (by simp) ?_
    refine A_iconst (a := (-1)) (by decide +kernel) (by unfold in32; omega) ?_
    exact A_ret ⟨by decide +kernel, Or.inl rfl⟩ ⟨_, rfl, h15⟩
theorem q_7_personHere  {M : Mem} {P : Int → Mem → Prop} (h : (CI m7_isName 2 [(17, ((2 : Nat) : Int))] M (fun r1 M2 => ((r1 ≠ 0 → (CI m0_personNamed 3 [(10, ((5 : Nat) : Int)), (0, (M2 2 16))] M2 (fun r7 M8 => ((r7 ≠ (-1) → (P r7 M8)) ∧ (r7 = (-1) → (CI m7_fail 1 [(17, ((2 : Nat) : Int)), (0, 4)] M8 (fun r13 M14 => (P r7 M14)))))))) ∧ (r1 = 0 → (CI m7_fail 1 [(17, ((2 : Nat) : Int)), (0, 1)] M2 (fun r16 M17 => (P (-1) M17)))))))) : CI m7_personHere 4 [(17, ((2 : Nat) : Int))] M P := by
  refine CI_of (by decide +kernel) (Nat.le_of_ble_eq_true rfl) ?_
  show A m7_personHere 4 0 0 [(17, ((2 : Nat) : Int)), (2, 0)] [] M (Ki P)
  refine A_aload_n (i := 0) (f := 0) (by omega) rfl (by decide +kernel) rfl ?_
  refine A_cVi (q := (RX7, TX7, 18)) (ci := 7) (o := ((2 : Nat) : Int)) (args := []) (st := []) (by decide +kernel) cv_m7_isName rfl rfl in_m7_isName se_m7_isName lk_7_130 rfl (by omega) (Nat.le_of_ble_eq_true rfl) h (fun r1 M2 _ h3 => ?_)
  refine A_if_ne (off := 11) (tgt := 15) (by decide +kernel) (by omega) (fun b4 => ?_) (fun b4 => ?_)
  · have h5 := h3.1 b4
    refine A_aload_n (i := 0) (f := 0) (by omega) rfl (by decide +kernel) rfl ?_
    refine B_getr (o' := ((5 : Nat) : Int)) (q := (RX7, TX7, 18)) (ci := 7) (j := 1) (by decide +kernel) rfl (by decide) rfl (by omega) fl_7_18 rfl ?_
    refine A_aload_n (i := 0) (f := 0) (by omega) rfl (by decide +kernel) rfl ?_
    refine B_getp (v := (M2 2 16)) (q := (RX7, TX7, 18)) (ci := 7) (j := 16) (p := 16) (by decide +kernel) rfl (by decide) rfl (Or.inl rfl) fl_7_87 rfl ?_
    refine A_cVi (q := (RX0, TX0, 9)) (ci := 0) (o := ((5 : Nat) : Int)) (args := [(0, (M2 2 16))]) (st := []) (by decide +kernel) cv_m0_personNamed rfl rfl in_m0_personNamed se_m0_personNamed lk_7_133 rfl (by omega) (Nat.le_of_ble_eq_true rfl) h5 (fun r7 M8 _ h9 => ?_)
    refine A_istore_n (i := 1) (f := 1) rfl (by decide +kernel) (by decide) (fun w h0 hw => by simp at hw; first | (rw [← hw]; decide) | (rw [← hw]; simp)) ?_
    refine A_iload_n (i := 1) (f := 1) rfl (by decide +kernel) rfl ?_
    refine A_iconst (a := (-1)) (by decide +kernel) (by unfold in32; omega) ?_
    refine A_ic_ne (off := 9) (tgt := 38) (by decide +kernel) (by omega) (fun b10 => ?_) (fun b10 => ?_)
    · have h11 := h9.1 b10
      refine A_iload_n (i := 1) (f := 1) rfl (by decide +kernel) rfl ?_
      exact A_ret ⟨by decide +kernel, Or.inl rfl⟩ ⟨_, rfl, h11⟩
    · have h12 := h9.2 (Decidable.not_not.mp b10)
      refine A_aload_n (i := 0) (f := 0) (by omega) rfl (by decide +kernel) rfl ?_
      refine A_iconst (a := 4) (by decide +kernel) (by unfold in32; omega) ?_
      refine A_cVi (q := (RX7, TX7, 18)) (ci := 7) (o := ((2 : Nat) : Int)) (args := [(0, 4)]) (st := []) (by decide +kernel) cv_m7_fail rfl rfl in_m7_fail se_m7_fail lk_7_118 rfl (by omega) (Nat.le_of_ble_eq_true rfl) h12 (fun r13 M14 _ h15 => ?_)
      refine A_pop (by decide +kernel) (by simp) ?_
      refine A_iload_n (i := 1) (f := 1) rfl (by decide +kernel) rfl ?_
      exact A_ret ⟨by decide +kernel, Or.inl rfl⟩ ⟨_, rfl, h15⟩
  · have h6 := h3.2 (Decidable.not_not.mp b4)
    refine A_aload_n (i := 0) (f := 0) (by omega) rfl (by decide +kernel) rfl ?_
    refine A_iconst (a := 1) (by decide +kernel) (by unfold in32; omega) ?_
    refine A_cVi (q := (RX7, TX7, 18)) (ci := 7) (o := ((2 : Nat) : Int)) (args := [(0, 1)]) (st := []) (by decide +kernel) cv_m7_fail rfl rfl in_m7_fail se_m7_fail lk_7_118 rfl (by omega) (Nat.le_of_ble_eq_true rfl) h6 (fun r16 M17 _ h18 => ?_)
    refine A_pop (by decide +kernel) (by simp) ?_
    refine A_iconst (a := (-1)) (by decide +kernel) (by unfold in32; omega) ?_
    exact A_ret ⟨by decide +kernel, Or.inl rfl⟩ ⟨_, rfl, h18⟩
theorem q_7_isName  {M : Mem} {P : Int → Mem → Prop} (h : (((M 2 15) ≠ 1 → (P 0 M)) ∧ ((M 2 15) = 1 → (CI m7_languageWord 1 [(17, ((2 : Nat) : Int)), (0, (M 2 16))] M (fun r4 M5 => ((r4 ≠ (-1) → (P 0 M5)) ∧ (r4 = (-1) → (P 1 M5)))))))) : CI m7_isName 2 [(17, ((2 : Nat) : Int))] M P := by
  refine CI_of (by decide +kernel) (Nat.le_of_ble_eq_true rfl) ?_
  show A m7_isName 2 0 0 [(17, ((2 : Nat) : Int))] [] M (Ki P)
  refine A_aload_n (i := 0) (f := 0) (by omega) rfl (by decide +kernel) rfl ?_
  refine B_getp (v := (M 2 15)) (q := (RX7, TX7, 18)) (ci := 7) (j := 15) (p := 15) (by decide +kernel) rfl (by decide) rfl (Or.inl rfl) fl_7_84 rfl ?_
  refine A_iconst (a := 1) (by decide +kernel) (by unfold in32; omega) ?_
  refine A_ic_ne (off := 19) (tgt := 24) (by decide +kernel) (by omega) (fun b1 => ?_) (fun b1 => ?_)
  · have h2 := h.1 b1
    refine A_iconst (a := 0) (by decide +kernel) (by unfold in32; omega) ?_
    exact A_ret ⟨by decide +kernel, Or.inr ⟨rfl, by decide⟩⟩ ⟨_, rfl, h2⟩
  · have h3 := h.2 (Decidable.not_not.mp b1)
    refine A_aload_n (i := 0) (f := 0) (by omega) rfl (by decide +kernel) rfl ?_
    refine A_aload_n (i := 0) (f := 0) (by omega) rfl (by decide +kernel) rfl ?_
    refine B_getp (v := (M 2 16)) (q := (RX7, TX7, 18)) (ci := 7) (j := 16) (p := 16) (by decide +kernel) rfl (by decide) rfl (Or.inl rfl) fl_7_87 rfl ?_
    refine A_cVi (q := (RX7, TX7, 18)) (ci := 7) (o := ((2 : Nat) : Int)) (args := [(0, (M 2 16))]) (st := []) (by decide +kernel) cv_m7_languageWord rfl rfl in_m7_languageWord se_m7_languageWord lk_7_90 rfl (by omega) (Nat.le_of_ble_eq_true rfl) h3 (fun r4 M5 _ h6 => ?_)
    refine A_iconst (a := (-1)) (by decide +kernel) (by unfold in32; omega) ?_
    refine A_ic_ne (off := 7) (tgt := 24) (by decide +kernel) (by omega) (fun b7 => ?_) (fun b7 => ?_)
    · have h8 := h6.1 b7
      refine A_iconst (a := 0) (by decide +kernel) (by unfold in32; omega) ?_
      exact A_ret ⟨by decide +kernel, Or.inr ⟨rfl, by decide⟩⟩ ⟨_, rfl, h8⟩
    · have h9 := h6.2 (Decidable.not_not.mp b7)
      refine A_iconst (a := 1) (by decide +kernel) (by unfold in32; omega) ?_
      refine A_goto (off := 4) (tgt := 25) (by decide +kernel) (by omega) ?_
      exact A_ret ⟨by decide +kernel, Or.inr ⟨rfl, by decide⟩⟩ ⟨_, rfl, h9⟩
theorem q_7_isWord {x1 : Int} {M : Mem} {P : Int → Mem → Prop} (h : (((M 2 15) ≠ 1 → (P 0 M)) ∧ ((M 2 15) = 1 → (CI m7_languageWord 1 [(17, ((2 : Nat) : Int)), (0, (M 2 16))] M (fun r4 M5 => ((r4 ≠ x1 → (P 0 M5)) ∧ (r4 = x1 → (P 1 M5)))))))) : CI m7_isWord 2 [(17, ((2 : Nat) : Int)), (0, x1)] M P := by
  refine CI_of (by decide +kernel) (Nat.le_of_ble_eq_true rfl) ?_
  show A m7_isWord 2 0 0 [(17, ((2 : Nat) : Int)), (0, x1)] [] M (Ki P)
  refine A_aload_n (i := 0) (f := 0) (by omega) rfl (by decide +kernel) rfl ?_
  refine B_getp (v := (M 2 15)) (q := (RX7, TX7, 18)) (ci := 7) (j := 15) (p := 15) (by decide +kernel) rfl (by decide) rfl (Or.inl rfl) fl_7_84 rfl ?_
  refine A_iconst (a := 1) (by decide +kernel) (by unfold in32; omega) ?_
  refine A_ic_ne (off := 19) (tgt := 24) (by decide +kernel) (by omega) (fun b1 => ?_) (fun b1 => ?_)
  · have h2 := h.1 b1
    refine A_iconst (a := 0) (by decide +kernel) (by unfold in32; omega) ?_
    exact A_ret ⟨by decide +kernel, Or.inr ⟨rfl, by decide⟩⟩ ⟨_, rfl, h2⟩
  · have h3 := h.2 (Decidable.not_not.mp b1)
    refine A_aload_n (i := 0) (f := 0) (by omega) rfl (by decide +kernel) rfl ?_
    refine A_aload_n (i := 0) (f := 0) (by omega) rfl (by decide +kernel) rfl ?_
    refine B_getp (v := (M 2 16)) (q := (RX7, TX7, 18)) (ci := 7) (j := 16) (p := 16) (by decide +kernel) rfl (by decide) rfl (Or.inl rfl) fl_7_87 rfl ?_
    refine A_cVi (q := (RX7, TX7, 18)) (ci := 7) (o := ((2 : Nat) : Int)) (args := [(0, (M 2 16))]) (st := []) (by decide +kernel) cv_m7_languageWord rfl rfl in_m7_languageWord se_m7_languageWord lk_7_90 rfl (by omega) (Nat.le_of_ble_eq_true rfl) h3 (fun r4 M5 _ h6 => ?_)
    refine A_iload_n (i := 1) (f := 1) rfl (by decide +kernel) rfl ?_
    refine A_ic_ne (off := 7) (tgt := 24) (by decide +kernel) (by omega) (fun b7 => ?_) (fun b7 => ?_)
    · have h8 := h6.1 b7
      refine A_iconst (a := 0) (by decide +kernel) (by unfold in32; omega) ?_
      exact A_ret ⟨by decide +kernel, Or.inr ⟨rfl, by decide⟩⟩ ⟨_, rfl, h8⟩
    · have h9 := h6.2 (Decidable.not_not.mp b7)
      refine A_iconst (a := 1) (by decide +kernel) (by unfold in32; omega) ?_
      refine A_goto (off := 4) (tgt := 25) (by decide +kernel) (by omega) ?_
      exact A_ret ⟨by decide +kernel, Or.inr ⟨rfl, by decide⟩⟩ ⟨_, rfl, h9⟩
theorem q_7_fail {x1 : Int} {M : Mem} {P : Int → Mem → Prop} (h : (P 0 (mset (mset M 2 3 x1) 2 4 ((mset M 2 3 x1) 2 14)))) : CI m7_fail 1 [(17, ((2 : Nat) : Int)), (0, x1)] M P := by
  refine CI_of (by decide +kernel) (Nat.le_of_ble_eq_true rfl) ?_
  show A m7_fail 1 0 0 [(17, ((2 : Nat) : Int)), (0, x1)] [] M (Ki P)
  refine A_aload_n (i := 0) (f := 0) (by omega) rfl (by decide +kernel) rfl ?_
  refine A_iload_n (i := 1) (f := 1) rfl (by decide +kernel) rfl ?_
  refine B_putp (M' := (mset M 2 3 x1)) (q := (RX7, TX7, 18)) (ci := 7) (j := 4) (p := 3) (by decide +kernel) rfl (by decide) rfl (Or.inl ⟨rfl, rfl⟩) rfl fl_7_73 rfl ?_
  refine A_aload_n (i := 0) (f := 0) (by omega) rfl (by decide +kernel) rfl ?_
  refine A_aload_n (i := 0) (f := 0) (by omega) rfl (by decide +kernel) rfl ?_
  refine B_getp (v := ((mset M 2 3 x1) 2 14)) (q := (RX7, TX7, 18)) (ci := 7) (j := 14) (p := 14) (by decide +kernel) rfl (by decide) rfl (Or.inl rfl) fl_7_149 rfl ?_
  refine B_putp (M' := (mset (mset M 2 3 x1) 2 4 ((mset M 2 3 x1) 2 14))) (q := (RX7, TX7, 18)) (ci := 7) (j := 5) (p := 4) (by decide +kernel) rfl (by decide) rfl (Or.inl ⟨rfl, rfl⟩) rfl fl_7_29 rfl ?_
  refine A_iconst (a := 0) (by decide +kernel) (by unfold in32; omega) ?_
  exact A_ret ⟨by decide +kernel, Or.inr ⟨rfl, by decide⟩⟩ ⟨_, rfl, h⟩
theorem q_7_failAt {x1 : Int} {x2 : Int} {M : Mem} {P : Int → Mem → Prop} (h : (P 0 (mset (mset M 2 3 x1) 2 4 x2))) : CI m7_failAt 1 [(17, ((2 : Nat) : Int)), (0, x1), (0, x2)] M P := by
  refine CI_of (by decide +kernel) (Nat.le_of_ble_eq_true rfl) ?_
  show A m7_failAt 1 0 0 [(17, ((2 : Nat) : Int)), (0, x1), (0, x2)] [] M (Ki P)
  refine A_aload_n (i := 0) (f := 0) (by omega) rfl (by decide +kernel) rfl ?_
  refine A_iload_n (i := 1) (f := 1) rfl (by decide +kernel) rfl ?_
  refine B_putp (M' := (mset M 2 3 x1)) (q := (RX7, TX7, 18)) (ci := 7) (j := 4) (p := 3) (by decide +kernel) rfl (by decide) rfl (Or.inl ⟨rfl, rfl⟩) rfl fl_7_73 rfl ?_
  refine A_aload_n (i := 0) (f := 0) (by omega) rfl (by decide +kernel) rfl ?_
  refine A_iload_n (i := 2) (f := 2) rfl (by decide +kernel) rfl ?_
  refine B_putp (M' := (mset (mset M 2 3 x1) 2 4 x2)) (q := (RX7, TX7, 18)) (ci := 7) (j := 5) (p := 4) (by decide +kernel) rfl (by decide) rfl (Or.inl ⟨rfl, rfl⟩) rfl fl_7_29 rfl ?_
  refine A_iconst (a := 0) (by decide +kernel) (by unfold in32; omega) ?_
  exact A_ret ⟨by decide +kernel, Or.inr ⟨rfl, by decide⟩⟩ ⟨_, rfl, h⟩
theorem q_7_readFormula {x1 : Int} {M : Mem} {P : Int → Mem → Prop} (h : (CD m3_begin 2 [(13, ((9 : Nat) : Int)), (0, x1)] (mset (mset (mset M 2 8 0) 2 9 0) 2 10 1) (fun M2 => A m7_readFormula 5 0 30 [(17, ((2 : Nat) : Int)), (0, x1), (0, 1), (0, 0)] [] M2 (Ki P)))) : CI m7_readFormula 5 [(17, ((2 : Nat) : Int)), (0, x1)] M P := by
  refine CI_of (by decide +kernel) (Nat.le_of_ble_eq_true rfl) ?_
  show A m7_readFormula 5 0 0 [(17, ((2 : Nat) : Int)), (0, x1), (2, 0), (2, 0)] [] M (Ki P)
  refine A_aload_n (i := 0) (f := 0) (by omega) rfl (by decide +kernel) rfl ?_
  refine A_iconst (a := 0) (by decide +kernel) (by unfold in32; omega) ?_
  refine B_putp (M' := (mset M 2 8 0)) (q := (RX7, TX7, 18)) (ci := 7) (j := 9) (p := 8) (by decide +kernel) rfl (by decide) rfl (Or.inl ⟨rfl, rfl⟩) rfl fl_7_188 rfl ?_
  refine A_aload_n (i := 0) (f := 0) (by omega) rfl (by decide +kernel) rfl ?_
  refine A_iconst (a := 0) (by decide +kernel) (by unfold in32; omega) ?_
  refine B_putp (M' := (mset (mset M 2 8 0) 2 9 0)) (q := (RX7, TX7, 18)) (ci := 7) (j := 10) (p := 9) (by decide +kernel) rfl (by decide) rfl (Or.inl ⟨rfl, rfl⟩) rfl fl_7_191 rfl ?_
  refine A_aload_n (i := 0) (f := 0) (by omega) rfl (by decide +kernel) rfl ?_
  refine A_iconst (a := 1) (by decide +kernel) (by unfold in32; omega) ?_
  refine B_putp (M' := (mset (mset (mset M 2 8 0) 2 9 0) 2 10 1)) (q := (RX7, TX7, 18)) (ci := 7) (j := 11) (p := 10) (by decide +kernel) rfl (by decide) rfl (Or.inr ⟨rfl, rfl, by decide⟩) rfl fl_7_194 rfl ?_
  refine A_aload_n (i := 0) (f := 0) (by omega) rfl (by decide +kernel) rfl ?_
  refine B_getr (o' := ((5 : Nat) : Int)) (q := (RX7, TX7, 18)) (ci := 7) (j := 1) (by decide +kernel) rfl (by decide) rfl (by omega) fl_7_18 rfl ?_
  refine B_getr (o' := ((9 : Nat) : Int)) (q := (RX0, TX0, 9)) (ci := 0) (j := 5) (by decide +kernel) rfl (by decide) rfl (by omega) fl_7_197 rfl ?_
  refine A_iload_n (i := 1) (f := 1) rfl (by decide +kernel) rfl ?_
  refine A_cVd (q := (RX3, TX3, 6)) (ci := 3) (o := ((9 : Nat) : Int)) (args := [(0, x1)]) (st := []) (by decide +kernel) cv_m3_begin rfl rfl in_m3_begin se_m3_begin lk_7_201 rfl (by omega) (Nat.le_of_ble_eq_true rfl) h (fun M2 h3 => ?_)
  refine A_iconst (a := 1) (by decide +kernel) (by unfold in32; omega) ?_
  refine A_istore_n (i := 2) (f := 2) rfl (by decide +kernel) (by decide) (fun w h0 hw => by simp at hw; first | (rw [← hw]; decide) | (rw [← hw]; simp)) ?_
  refine A_iconst (a := 0) (by decide +kernel) (by unfold in32; omega) ?_
  refine A_istore_n (i := 3) (f := 3) rfl (by decide +kernel) (by decide) (fun w h0 hw => by simp at hw; first | (rw [← hw]; decide) | (rw [← hw]; simp)) ?_
  exact A_weak (lsub.keep (lsub.keep (lsub.keep (lsub.keep lsub.nil)))) h3
theorem r_7_readFormula_30 {x1 : Int} {x2 : Int} {x3 : Int} {M : Mem} {P : Int → Mem → Prop} (h : (((M 2 12) < x3 → (((M 2 3) = 0 → (CD m7_layWaiting 3 [(17, ((2 : Nat) : Int)), (0, 1)] M (fun M8 => (CD m3_end 2 [(13, ((9 : Nat) : Int)), (0, x1)] M8 (fun M11 => (P 1 M11)))))) ∧ ((M 2 3) ≠ 0 → (P 0 M)))) ∧ (x3 ≤ (M 2 12) → ((x2 = 0 → (((M 2 3) = 0 → (CD m7_layWaiting 3 [(17, ((2 : Nat) : Int)), (0, 1)] M (fun M20 => (CD m3_end 2 [(13, ((9 : Nat) : Int)), (0, x1)] M20 (fun M23 => (P 1 M23)))))) ∧ ((M 2 3) ≠ 0 → (P 0 M)))) ∧ (x2 ≠ 0 → (((M 2 10) = 0 → (CI m7_takeSign 4 [(17, ((2 : Nat) : Int))] M (fun r28 M29 => ((r28 = 0 → A m7_readFormula 5 0 30 [(17, ((2 : Nat) : Int)), (0, x1), (0, r28), (0, (w32 (x3 + 1)))] [] M29 (Ki P)) ∧ (r28 ≠ 0 → (CD m7_next 3 [(17, ((2 : Nat) : Int))] M29 (fun M35 => A m7_readFormula 5 0 30 [(17, ((2 : Nat) : Int)), (0, x1), (0, r28), (0, (w32 (x3 + 1)))] [] M35 (Ki P)))))))) ∧ ((M 2 10) ≠ 0 → (CI m7_takeOperand 4 [(17, ((2 : Nat) : Int))] M (fun r37 M38 => ((r37 = 0 → A m7_readFormula 5 0 30 [(17, ((2 : Nat) : Int)), (0, x1), (0, r37), (0, (w32 (x3 + 1)))] [] M38 (Ki P)) ∧ (r37 ≠ 0 → (CD m7_next 3 [(17, ((2 : Nat) : Int))] M38 (fun M44 => A m7_readFormula 5 0 30 [(17, ((2 : Nat) : Int)), (0, x1), (0, r37), (0, (w32 (x3 + 1)))] [] M44 (Ki P)))))))))))))) : A m7_readFormula 5 0 30 [(17, ((2 : Nat) : Int)), (0, x1), (0, x2), (0, x3)] [] M (Ki P) := by
  refine A_iload_n (i := 3) (f := 3) rfl (by decide +kernel) rfl ?_
  refine A_aload_n (i := 0) (f := 0) (by omega) rfl (by decide +kernel) rfl ?_
  refine B_getp (v := (M 2 12)) (q := (RX7, TX7, 18)) (ci := 7) (j := 12) (p := 12) (by decide +kernel) rfl (by decide) rfl (Or.inl rfl) fl_7_76 rfl ?_
  refine A_ic_gt (off := 40) (tgt := 75) (by decide +kernel) (by omega) (fun b1 => ?_) (fun b1 => ?_)
  · have h2 := h.1 b1
    refine A_aload_n (i := 0) (f := 0) (by omega) rfl (by decide +kernel) rfl ?_
    refine B_getp (v := (M 2 3)) (q := (RX7, TX7, 18)) (ci := 7) (j := 4) (p := 3) (by decide +kernel) rfl (by decide) rfl (Or.inl rfl) fl_7_73 rfl ?_
    refine A_if_eq (off := 5) (tgt := 84) (by decide +kernel) (by omega) (fun b4 => ?_) (fun b4 => ?_)
    · have h5 := h2.1 b4
      refine A_aload_n (i := 0) (f := 0) (by omega) rfl (by decide +kernel) rfl ?_
      refine A_iconst (a := 1) (by decide +kernel) (by unfold in32; omega) ?_
      refine A_cVd (q := (RX7, TX7, 18)) (ci := 7) (o := ((2 : Nat) : Int)) (args := [(0, 1)]) (st := []) (by decide +kernel) cv_m7_layWaiting rfl rfl in_m7_layWaiting se_m7_layWaiting lk_7_210 rfl (by omega) (Nat.le_of_ble_eq_true rfl) h5 (fun M8 h9 => ?_)
      refine A_aload_n (i := 0) (f := 0) (by omega) rfl (by decide +kernel) rfl ?_
      refine B_getr (o' := ((5 : Nat) : Int)) (q := (RX7, TX7, 18)) (ci := 7) (j := 1) (by decide +kernel) rfl (by decide) rfl (by omega) fl_7_18 rfl ?_
      refine B_getr (o' := ((9 : Nat) : Int)) (q := (RX0, TX0, 9)) (ci := 0) (j := 5) (by decide +kernel) rfl (by decide) rfl (by omega) fl_7_197 rfl ?_
      refine A_iload_n (i := 1) (f := 1) rfl (by decide +kernel) rfl ?_
      refine A_cVd (q := (RX3, TX3, 6)) (ci := 3) (o := ((9 : Nat) : Int)) (args := [(0, x1)]) (st := []) (by decide +kernel) cv_m3_end rfl rfl in_m3_end se_m3_end lk_7_213 rfl (by omega) (Nat.le_of_ble_eq_true rfl) h9 (fun M11 h12 => ?_)
      refine A_iconst (a := 1) (by decide +kernel) (by unfold in32; omega) ?_
      exact A_ret ⟨by decide +kernel, Or.inr ⟨rfl, by decide⟩⟩ ⟨_, rfl, h12⟩
    · have h6 := h2.2 b4
      refine A_iconst (a := 0) (by decide +kernel) (by unfold in32; omega) ?_
      exact A_ret ⟨by decide +kernel, Or.inr ⟨rfl, by decide⟩⟩ ⟨_, rfl, h6⟩
  · have h3 := h.2 (Int.not_lt.mp b1)
    refine A_iload_n (i := 2) (f := 2) rfl (by decide +kernel) rfl ?_
    refine A_if_eq (off := 36) (tgt := 75) (by decide +kernel) (by omega) (fun b13 => ?_) (fun b13 => ?_)
    · have h14 := h3.1 b13
      refine A_aload_n (i := 0) (f := 0) (by omega) rfl (by decide +kernel) rfl ?_
      refine B_getp (v := (M 2 3)) (q := (RX7, TX7, 18)) (ci := 7) (j := 4) (p := 3) (by decide +kernel) rfl (by decide) rfl (Or.inl rfl) fl_7_73 rfl ?_
      refine A_if_eq (off := 5) (tgt := 84) (by decide +kernel) (by omega) (fun b16 => ?_) (fun b16 => ?_)
      · have h17 := h14.1 b16
        refine A_aload_n (i := 0) (f := 0) (by omega) rfl (by decide +kernel) rfl ?_
        refine A_iconst (a := 1) (by decide +kernel) (by unfold in32; omega) ?_
        refine A_cVd (q := (RX7, TX7, 18)) (ci := 7) (o := ((2 : Nat) : Int)) (args := [(0, 1)]) (st := []) (by decide +kernel) cv_m7_layWaiting rfl rfl in_m7_layWaiting se_m7_layWaiting lk_7_210 rfl (by omega) (Nat.le_of_ble_eq_true rfl) h17 (fun M20 h21 => ?_)
        refine A_aload_n (i := 0) (f := 0) (by omega) rfl (by decide +kernel) rfl ?_
        refine B_getr (o' := ((5 : Nat) : Int)) (q := (RX7, TX7, 18)) (ci := 7) (j := 1) (by decide +kernel) rfl (by decide) rfl (by omega) fl_7_18 rfl ?_
        refine B_getr (o' := ((9 : Nat) : Int)) (q := (RX0, TX0, 9)) (ci := 0) (j := 5) (by decide +kernel) rfl (by decide) rfl (by omega) fl_7_197 rfl ?_
        refine A_iload_n (i := 1) (f := 1) rfl (by decide +kernel) rfl ?_
        refine A_cVd (q := (RX3, TX3, 6)) (ci := 3) (o := ((9 : Nat) : Int)) (args := [(0, x1)]) (st := []) (by decide +kernel) cv_m3_end rfl rfl in_m3_end se_m3_end lk_7_213 rfl (by omega) (Nat.le_of_ble_eq_true rfl) h21 (fun M23 h24 => ?_)
        refine A_iconst (a := 1) (by decide +kernel) (by unfold in32; omega) ?_
        exact A_ret ⟨by decide +kernel, Or.inr ⟨rfl, by decide⟩⟩ ⟨_, rfl, h24⟩
      · have h18 := h14.2 b16
        refine A_iconst (a := 0) (by decide +kernel) (by unfold in32; omega) ?_
        exact A_ret ⟨by decide +kernel, Or.inr ⟨rfl, by decide⟩⟩ ⟨_, rfl, h18⟩
    · have h15 := h3.2 b13
      refine A_aload_n (i := 0) (f := 0) (by omega) rfl (by decide +kernel) rfl ?_
      refine B_getp (v := (M 2 10)) (q := (RX7, TX7, 18)) (ci := 7) (j := 11) (p := 10) (by decide +kernel) rfl (by decide) rfl (Or.inr rfl) fl_7_194 rfl ?_
      refine A_if_eq (off := 10) (tgt := 56) (by decide +kernel) (by omega) (fun b25 => ?_) (fun b25 => ?_)
      · have h26 := h15.1 b25
        refine A_aload_n (i := 0) (f := 0) (by omega) rfl (by decide +kernel) rfl ?_
        refine A_cVi (q := (RX7, TX7, 18)) (ci := 7) (o := ((2 : Nat) : Int)) (args := []) (st := []) (by decide +kernel) cv_m7_takeSign rfl rfl in_m7_takeSign se_m7_takeSign lk_7_207 rfl (by omega) (Nat.le_of_ble_eq_true rfl) h26 (fun r28 M29 _ h30 => ?_)
        refine A_istore_n (i := 2) (f := 2) rfl (by decide +kernel) (by decide) (fun w h0 hw => by simp at hw; first | (rw [← hw]; decide) | (rw [← hw]; simp)) ?_
        refine A_iload_n (i := 2) (f := 2) rfl (by decide +kernel) rfl ?_
        refine A_if_eq (off := 7) (tgt := 69) (by decide +kernel) (by omega) (fun b31 => ?_) (fun b31 => ?_)
        · have h32 := h30.1 b31
          refine A_iinc (i := 3) (n := 1) (by decide +kernel) (by decide) rfl (fun w h0 hw => by simp at hw; first | (rw [← hw]; decide) | (rw [← hw]; simp)) ?_
          refine A_goto (off := (-42)) (tgt := 30) (by decide +kernel) (by omega) ?_
          exact A_weak (lsub.keep (lsub.keep (lsub.keep (lsub.keep lsub.nil)))) h32
        · have h33 := h30.2 b31
          refine A_aload_n (i := 0) (f := 0) (by omega) rfl (by decide +kernel) rfl ?_
          refine A_cVd (q := (RX7, TX7, 18)) (ci := 7) (o := ((2 : Nat) : Int)) (args := []) (st := []) (by decide +kernel) cv_m7_next rfl rfl in_m7_next se_m7_next lk_7_81 rfl (by omega) (Nat.le_of_ble_eq_true rfl) h33 (fun M35 h36 => ?_)
          refine A_iinc (i := 3) (n := 1) (by decide +kernel) (by decide) rfl (fun w h0 hw => by simp at hw; first | (rw [← hw]; decide) | (rw [← hw]; simp)) ?_
          refine A_goto (off := (-42)) (tgt := 30) (by decide +kernel) (by omega) ?_
          exact A_weak (lsub.keep (lsub.keep (lsub.keep (lsub.keep lsub.nil)))) h36
      · have h27 := h15.2 b25
        refine A_aload_n (i := 0) (f := 0) (by omega) rfl (by decide +kernel) rfl ?_
        refine A_cVi (q := (RX7, TX7, 18)) (ci := 7) (o := ((2 : Nat) : Int)) (args := []) (st := []) (by decide +kernel) cv_m7_takeOperand rfl rfl in_m7_takeOperand se_m7_takeOperand lk_7_204 rfl (by omega) (Nat.le_of_ble_eq_true rfl) h27 (fun r37 M38 _ h39 => ?_)
        refine A_goto (off := 7) (tgt := 60) (by decide +kernel) (by omega) ?_
        refine A_istore_n (i := 2) (f := 2) rfl (by decide +kernel) (by decide) (fun w h0 hw => by simp at hw; first | (rw [← hw]; decide) | (rw [← hw]; simp)) ?_
        refine A_iload_n (i := 2) (f := 2) rfl (by decide +kernel) rfl ?_
        refine A_if_eq (off := 7) (tgt := 69) (by decide +kernel) (by omega) (fun b40 => ?_) (fun b40 => ?_)
        · have h41 := h39.1 b40
          refine A_iinc (i := 3) (n := 1) (by decide +kernel) (by decide) rfl (fun w h0 hw => by simp at hw; first | (rw [← hw]; decide) | (rw [← hw]; simp)) ?_
          refine A_goto (off := (-42)) (tgt := 30) (by decide +kernel) (by omega) ?_
          exact A_weak (lsub.keep (lsub.keep (lsub.keep (lsub.keep lsub.nil)))) h41
        · have h42 := h39.2 b40
          refine A_aload_n (i := 0) (f := 0) (by omega) rfl (by decide +kernel) rfl ?_
          refine A_cVd (q := (RX7, TX7, 18)) (ci := 7) (o := ((2 : Nat) : Int)) (args := []) (st := []) (by decide +kernel) cv_m7_next rfl rfl in_m7_next se_m7_next lk_7_81 rfl (by omega) (Nat.le_of_ble_eq_true rfl) h42 (fun M44 h45 => ?_)
          refine A_iinc (i := 3) (n := 1) (by decide +kernel) (by decide) rfl (fun w h0 hw => by simp at hw; first | (rw [← hw]; decide) | (rw [← hw]; simp)) ?_
          refine A_goto (off := (-42)) (tgt := 30) (by decide +kernel) (by omega) ?_
          exact A_weak (lsub.keep (lsub.keep (lsub.keep (lsub.keep lsub.nil)))) h45
theorem q_7_takeOperand  {M : Mem} {P : Int → Mem → Prop} (h : (((M 2 15) ≠ 2 → (((M 2 15) ≠ 2 → (((M 2 17) < 10000 → (((M 2 17) ≠ 10030 → (((M 2 17) ≠ 10012 → (CI m7_fail 1 [(17, ((2 : Nat) : Int)), (0, 1)] M (fun r16 M17 => ((r16 = 0 ∨ r16 = 1) ∧ P r16 M17)))) ∧ ((M 2 17) = 10012 → (CI m7_latestWaiting 2 [(17, ((2 : Nat) : Int))] M (fun r19 M20 => (CI m7_bindingOf 1 [(0, r19)] M20 (fun r22 M23 => ((4 ≤ r22 → (CI m7_fail 1 [(17, ((2 : Nat) : Int)), (0, 1)] M23 (fun r28 M29 => ((r28 = 0 ∨ r28 = 1) ∧ P r28 M29)))) ∧ (r22 < 4 → (CI m7_countKnot 2 [(17, ((2 : Nat) : Int))] M23 (fun r31 M32 => ((r31 = 0 → (P 0 M32)) ∧ (r31 ≠ 0 → (CI m7_letWait 2 [(17, ((2 : Nat) : Int)), (0, (M32 2 17))] M32 (fun r37 M38 => ((r37 = 0 → (P 0 M38)) ∧ (r37 ≠ 0 → (P 1 M38)))))))))))))))))) ∧ ((M 2 17) = 10030 → (CI m7_takeOpen 3 [(17, ((2 : Nat) : Int))] M (fun r43 M44 => ((r43 = 0 ∨ r43 = 1) ∧ P r43 M44)))))) ∧ (10000 ≤ (M 2 17) → ((10008 ≤ (M 2 17) → (((M 2 17) ≠ 10030 → (((M 2 17) ≠ 10012 → (CI m7_fail 1 [(17, ((2 : Nat) : Int)), (0, 1)] M (fun r55 M56 => ((r55 = 0 ∨ r55 = 1) ∧ P r55 M56)))) ∧ ((M 2 17) = 10012 → (CI m7_latestWaiting 2 [(17, ((2 : Nat) : Int))] M (fun r58 M59 => (CI m7_bindingOf 1 [(0, r58)] M59 (fun r61 M62 => ((4 ≤ r61 → (CI m7_fail 1 [(17, ((2 : Nat) : Int)), (0, 1)] M62 (fun r67 M68 => ((r67 = 0 ∨ r67 = 1) ∧ P r67 M68)))) ∧ (r61 < 4 → (CI m7_countKnot 2 [(17, ((2 : Nat) : Int))] M62 (fun r70 M71 => ((r70 = 0 → (P 0 M71)) ∧ (r70 ≠ 0 → (CI m7_letWait 2 [(17, ((2 : Nat) : Int)), (0, (M71 2 17))] M71 (fun r76 M77 => ((r76 = 0 → (P 0 M77)) ∧ (r76 ≠ 0 → (P 1 M77)))))))))))))))))) ∧ ((M 2 17) = 10030 → (CI m7_takeOpen 3 [(17, ((2 : Nat) : Int))] M (fun r82 M83 => ((r82 = 0 ∨ r82 = 1) ∧ P r82 M83)))))) ∧ ((M 2 17) < 10008 → (CI m7_takeLeaf 3 [(17, ((2 : Nat) : Int)), (0, (M 2 17))] M (fun r85 M86 => ((r85 = 0 ∨ r85 = 1) ∧ P r85 M86)))))))) ∧ ((M 2 15) = 2 → (CI m7_takeLeaf 3 [(17, ((2 : Nat) : Int)), (0, (M 2 16))] M (fun r88 M89 => ((r88 = 0 ∨ r88 = 1) ∧ P r88 M89)))))) ∧ ((M 2 15) = 2 → (((M 2 16) ≤ 9999 → (((M 2 15) ≠ 2 → (((M 2 17) < 10000 → (((M 2 17) ≠ 10030 → (((M 2 17) ≠ 10012 → (CI m7_fail 1 [(17, ((2 : Nat) : Int)), (0, 1)] M (fun r106 M107 => ((r106 = 0 ∨ r106 = 1) ∧ P r106 M107)))) ∧ ((M 2 17) = 10012 → (CI m7_latestWaiting 2 [(17, ((2 : Nat) : Int))] M (fun r109 M110 => (CI m7_bindingOf 1 [(0, r109)] M110 (fun r112 M113 => ((4 ≤ r112 → (CI m7_fail 1 [(17, ((2 : Nat) : Int)), (0, 1)] M113 (fun r118 M119 => ((r118 = 0 ∨ r118 = 1) ∧ P r118 M119)))) ∧ (r112 < 4 → (CI m7_countKnot 2 [(17, ((2 : Nat) : Int))] M113 (fun r121 M122 => ((r121 = 0 → (P 0 M122)) ∧ (r121 ≠ 0 → (CI m7_letWait 2 [(17, ((2 : Nat) : Int)), (0, (M122 2 17))] M122 (fun r127 M128 => ((r127 = 0 → (P 0 M128)) ∧ (r127 ≠ 0 → (P 1 M128)))))))))))))))))) ∧ ((M 2 17) = 10030 → (CI m7_takeOpen 3 [(17, ((2 : Nat) : Int))] M (fun r133 M134 => ((r133 = 0 ∨ r133 = 1) ∧ P r133 M134)))))) ∧ (10000 ≤ (M 2 17) → ((10008 ≤ (M 2 17) → (((M 2 17) ≠ 10030 → (((M 2 17) ≠ 10012 → (CI m7_fail 1 [(17, ((2 : Nat) : Int)), (0, 1)] M (fun r145 M146 => ((r145 = 0 ∨ r145 = 1) ∧ P r145 M146)))) ∧ ((M 2 17) = 10012 → (CI m7_latestWaiting 2 [(17, ((2 : Nat) : Int))] M (fun r148 M149 => (CI m7_bindingOf 1 [(0, r148)] M149 (fun r151 M152 => ((4 ≤ r151 → (CI m7_fail 1 [(17, ((2 : Nat) : Int)), (0, 1)] M152 (fun r157 M158 => ((r157 = 0 ∨ r157 = 1) ∧ P r157 M158)))) ∧ (r151 < 4 → (CI m7_countKnot 2 [(17, ((2 : Nat) : Int))] M152 (fun r160 M161 => ((r160 = 0 → (P 0 M161)) ∧ (r160 ≠ 0 → (CI m7_letWait 2 [(17, ((2 : Nat) : Int)), (0, (M161 2 17))] M161 (fun r166 M167 => ((r166 = 0 → (P 0 M167)) ∧ (r166 ≠ 0 → (P 1 M167)))))))))))))))))) ∧ ((M 2 17) = 10030 → (CI m7_takeOpen 3 [(17, ((2 : Nat) : Int))] M (fun r172 M173 => ((r172 = 0 ∨ r172 = 1) ∧ P r172 M173)))))) ∧ ((M 2 17) < 10008 → (CI m7_takeLeaf 3 [(17, ((2 : Nat) : Int)), (0, (M 2 17))] M (fun r175 M176 => ((r175 = 0 ∨ r175 = 1) ∧ P r175 M176)))))))) ∧ ((M 2 15) = 2 → (CI m7_takeLeaf 3 [(17, ((2 : Nat) : Int)), (0, (M 2 16))] M (fun r178 M179 => ((r178 = 0 ∨ r178 = 1) ∧ P r178 M179)))))) ∧ (9999 < (M 2 16) → (CI m7_fail 1 [(17, ((2 : Nat) : Int)), (0, 2)] M (fun r181 M182 => ((r181 = 0 ∨ r181 = 1) ∧ P r181 M182)))))))) : CI m7_takeOperand 4 [(17, ((2 : Nat) : Int))] M P := by
  refine CI_of (by decide +kernel) (Nat.le_of_ble_eq_true rfl) ?_
  show A m7_takeOperand 4 0 0 [(17, ((2 : Nat) : Int))] [] M (Ki P)
  refine A_aload_n (i := 0) (f := 0) (by omega) rfl (by decide +kernel) rfl ?_
  refine B_getp (v := (M 2 15)) (q := (RX7, TX7, 18)) (ci := 7) (j := 15) (p := 15) (by decide +kernel) rfl (by decide) rfl (Or.inl rfl) fl_7_84 rfl ?_
  refine A_iconst (a := 2) (by decide +kernel) (by unfold in32; omega) ?_
  refine A_ic_ne (off := 19) (tgt := 24) (by decide +kernel) (by omega) (fun b1 => ?_) (fun b1 => ?_)
  · have h2 := h.1 b1
    refine A_aload_n (i := 0) (f := 0) (by omega) rfl (by decide +kernel) rfl ?_
    refine B_getp (v := (M 2 15)) (q := (RX7, TX7, 18)) (ci := 7) (j := 15) (p := 15) (by decide +kernel) rfl (by decide) rfl (Or.inl rfl) fl_7_84 rfl ?_
    refine A_iconst (a := 2) (by decide +kernel) (by unfold in32; omega) ?_
    refine A_ic_ne (off := 12) (tgt := 41) (by decide +kernel) (by omega) (fun b4 => ?_) (fun b4 => ?_)
    · have h5 := h2.1 b4
      refine A_aload_n (i := 0) (f := 0) (by omega) rfl (by decide +kernel) rfl ?_
      refine B_getp (v := (M 2 17)) (q := (RX7, TX7, 18)) (ci := 7) (j := 17) (p := 17) (by decide +kernel) rfl (by decide) rfl (Or.inl rfl) fl_7_124 rfl ?_
      refine A_sipush (a := 10000) (by decide +kernel) (by unfold in32; omega) (by decide +kernel) ?_
      refine A_ic_lt (off := 22) (tgt := 70) (by decide +kernel) (by omega) (fun b7 => ?_) (fun b7 => ?_)
      · have h8 := h5.1 b7
        refine A_aload_n (i := 0) (f := 0) (by omega) rfl (by decide +kernel) rfl ?_
        refine B_getp (v := (M 2 17)) (q := (RX7, TX7, 18)) (ci := 7) (j := 17) (p := 17) (by decide +kernel) rfl (by decide) rfl (Or.inl rfl) fl_7_124 rfl ?_
        refine A_sipush (a := 10030) (by decide +kernel) (by unfold in32; omega) (by decide +kernel) ?_
        refine A_ic_ne (off := 8) (tgt := 85) (by decide +kernel) (by omega) (fun b10 => ?_) (fun b10 => ?_)
        · have h11 := h8.1 b10
          refine A_aload_n (i := 0) (f := 0) (by omega) rfl (by decide +kernel) rfl ?_
          refine B_getp (v := (M 2 17)) (q := (RX7, TX7, 18)) (ci := 7) (j := 17) (p := 17) (by decide +kernel) rfl (by decide) rfl (Or.inl rfl) fl_7_124 rfl ?_
          refine A_sipush (a := 10012) (by decide +kernel) (by unfold in32; omega) (by decide +kernel) ?_
          refine A_ic_ne (off := 38) (tgt := 130) (by decide +kernel) (by omega) (fun b13 => ?_) (fun b13 => ?_)
          · have h14 := h11.1 b13
            refine A_aload_n (i := 0) (f := 0) (by omega) rfl (by decide +kernel) rfl ?_
            refine A_iconst (a := 1) (by decide +kernel) (by unfold in32; omega) ?_
            refine A_cVi (q := (RX7, TX7, 18)) (ci := 7) (o := ((2 : Nat) : Int)) (args := [(0, 1)]) (st := []) (by decide +kernel) cv_m7_fail rfl rfl in_m7_fail se_m7_fail lk_7_118 rfl (by omega) (Nat.le_of_ble_eq_true rfl) h14 (fun r16 M17 _ h18 => ?_)
            exact A_ret ⟨by decide +kernel, Or.inr ⟨rfl, h18.1⟩⟩ ⟨_, rfl, h18.2⟩
          · have h15 := h11.2 (Decidable.not_not.mp b13)
            refine A_aload_n (i := 0) (f := 0) (by omega) rfl (by decide +kernel) rfl ?_
            refine A_cVi (q := (RX7, TX7, 18)) (ci := 7) (o := ((2 : Nat) : Int)) (args := []) (st := []) (by decide +kernel) cv_m7_latestWaiting rfl rfl in_m7_latestWaiting se_m7_latestWaiting lk_7_222 rfl (by omega) (Nat.le_of_ble_eq_true rfl) h15 (fun r19 M20 _ h21 => ?_)
            refine A_cSi (args := [(0, r19)]) (st := []) (by decide +kernel) cv_m7_bindingOf st_m7_bindingOf lk_7_225 rfl (by omega) (Nat.le_of_ble_eq_true rfl) h21 (fun r22 M23 _ h24 => ?_)
            refine A_iconst (a := 4) (by decide +kernel) (by unfold in32; omega) ?_
            refine A_ic_ge (off := 27) (tgt := 130) (by decide +kernel) (by omega) (fun b25 => ?_) (fun b25 => ?_)
            · have h26 := h24.1 b25
              refine A_aload_n (i := 0) (f := 0) (by omega) rfl (by decide +kernel) rfl ?_
              refine A_iconst (a := 1) (by decide +kernel) (by unfold in32; omega) ?_
              refine A_cVi (q := (RX7, TX7, 18)) (ci := 7) (o := ((2 : Nat) : Int)) (args := [(0, 1)]) (st := []) (by decide +kernel) cv_m7_fail rfl rfl in_m7_fail se_m7_fail lk_7_118 rfl (by omega) (Nat.le_of_ble_eq_true rfl) h26 (fun r28 M29 _ h30 => ?_)
              exact A_ret ⟨by decide +kernel, Or.inr ⟨rfl, h30.1⟩⟩ ⟨_, rfl, h30.2⟩
            · have h27 := h24.2 (Int.not_le.mp b25)
              refine A_aload_n (i := 0) (f := 0) (by omega) rfl (by decide +kernel) rfl ?_
              refine A_cVi (q := (RX7, TX7, 18)) (ci := 7) (o := ((2 : Nat) : Int)) (args := []) (st := []) (by decide +kernel) cv_m7_countKnot rfl rfl in_m7_countKnot se_m7_countKnot lk_7_228 rfl (by omega) (Nat.le_of_ble_eq_true rfl) h27 (fun r31 M32 _ h33 => ?_)
              refine A_if_eq (off := 18) (tgt := 128) (by decide +kernel) (by omega) (fun b34 => ?_) (fun b34 => ?_)
              · have h35 := h33.1 b34
                refine A_iconst (a := 0) (by decide +kernel) (by unfold in32; omega) ?_
                exact A_ret ⟨by decide +kernel, Or.inr ⟨rfl, by decide⟩⟩ ⟨_, rfl, h35⟩
              · have h36 := h33.2 b34
                refine A_aload_n (i := 0) (f := 0) (by omega) rfl (by decide +kernel) rfl ?_
                refine A_aload_n (i := 0) (f := 0) (by omega) rfl (by decide +kernel) rfl ?_
                refine B_getp (v := (M32 2 17)) (q := (RX7, TX7, 18)) (ci := 7) (j := 17) (p := 17) (by decide +kernel) rfl (by decide) rfl (Or.inl rfl) fl_7_124 rfl ?_
                refine A_cVi (q := (RX7, TX7, 18)) (ci := 7) (o := ((2 : Nat) : Int)) (args := [(0, (M32 2 17))]) (st := []) (by decide +kernel) cv_m7_letWait rfl rfl in_m7_letWait se_m7_letWait lk_7_231 rfl (by omega) (Nat.le_of_ble_eq_true rfl) h36 (fun r37 M38 _ h39 => ?_)
                refine A_if_eq (off := 7) (tgt := 128) (by decide +kernel) (by omega) (fun b40 => ?_) (fun b40 => ?_)
                · have h41 := h39.1 b40
                  refine A_iconst (a := 0) (by decide +kernel) (by unfold in32; omega) ?_
                  exact A_ret ⟨by decide +kernel, Or.inr ⟨rfl, by decide⟩⟩ ⟨_, rfl, h41⟩
                · have h42 := h39.2 b40
                  refine A_iconst (a := 1) (by decide +kernel) (by unfold in32; omega) ?_
                  refine A_goto (off := 4) (tgt := 129) (by decide +kernel) (by omega) ?_
                  exact A_ret ⟨by decide +kernel, Or.inr ⟨rfl, by decide⟩⟩ ⟨_, rfl, h42⟩
        · have h12 := h8.2 (Decidable.not_not.mp b10)
          refine A_aload_n (i := 0) (f := 0) (by omega) rfl (by decide +kernel) rfl ?_
          refine A_cVi (q := (RX7, TX7, 18)) (ci := 7) (o := ((2 : Nat) : Int)) (args := []) (st := []) (by decide +kernel) cv_m7_takeOpen rfl rfl in_m7_takeOpen se_m7_takeOpen lk_7_219 rfl (by omega) (Nat.le_of_ble_eq_true rfl) h12 (fun r43 M44 _ h45 => ?_)
          exact A_ret ⟨by decide +kernel, Or.inr ⟨rfl, h45.1⟩⟩ ⟨_, rfl, h45.2⟩
      · have h9 := h5.2 (Int.not_lt.mp b7)
        refine A_aload_n (i := 0) (f := 0) (by omega) rfl (by decide +kernel) rfl ?_
        refine B_getp (v := (M 2 17)) (q := (RX7, TX7, 18)) (ci := 7) (j := 17) (p := 17) (by decide +kernel) rfl (by decide) rfl (Or.inl rfl) fl_7_124 rfl ?_
        refine A_sipush (a := 10008) (by decide +kernel) (by unfold in32; omega) (by decide +kernel) ?_
        refine A_ic_ge (off := 12) (tgt := 70) (by decide +kernel) (by omega) (fun b46 => ?_) (fun b46 => ?_)
        · have h47 := h9.1 b46
          refine A_aload_n (i := 0) (f := 0) (by omega) rfl (by decide +kernel) rfl ?_
          refine B_getp (v := (M 2 17)) (q := (RX7, TX7, 18)) (ci := 7) (j := 17) (p := 17) (by decide +kernel) rfl (by decide) rfl (Or.inl rfl) fl_7_124 rfl ?_
          refine A_sipush (a := 10030) (by decide +kernel) (by unfold in32; omega) (by decide +kernel) ?_
          refine A_ic_ne (off := 8) (tgt := 85) (by decide +kernel) (by omega) (fun b49 => ?_) (fun b49 => ?_)
          · have h50 := h47.1 b49
            refine A_aload_n (i := 0) (f := 0) (by omega) rfl (by decide +kernel) rfl ?_
            refine B_getp (v := (M 2 17)) (q := (RX7, TX7, 18)) (ci := 7) (j := 17) (p := 17) (by decide +kernel) rfl (by decide) rfl (Or.inl rfl) fl_7_124 rfl ?_
            refine A_sipush (a := 10012) (by decide +kernel) (by unfold in32; omega) (by decide +kernel) ?_
            refine A_ic_ne (off := 38) (tgt := 130) (by decide +kernel) (by omega) (fun b52 => ?_) (fun b52 => ?_)
            · have h53 := h50.1 b52
              refine A_aload_n (i := 0) (f := 0) (by omega) rfl (by decide +kernel) rfl ?_
              refine A_iconst (a := 1) (by decide +kernel) (by unfold in32; omega) ?_
              refine A_cVi (q := (RX7, TX7, 18)) (ci := 7) (o := ((2 : Nat) : Int)) (args := [(0, 1)]) (st := []) (by decide +kernel) cv_m7_fail rfl rfl in_m7_fail se_m7_fail lk_7_118 rfl (by omega) (Nat.le_of_ble_eq_true rfl) h53 (fun r55 M56 _ h57 => ?_)
              exact A_ret ⟨by decide +kernel, Or.inr ⟨rfl, h57.1⟩⟩ ⟨_, rfl, h57.2⟩
            · have h54 := h50.2 (Decidable.not_not.mp b52)
              refine A_aload_n (i := 0) (f := 0) (by omega) rfl (by decide +kernel) rfl ?_
              refine A_cVi (q := (RX7, TX7, 18)) (ci := 7) (o := ((2 : Nat) : Int)) (args := []) (st := []) (by decide +kernel) cv_m7_latestWaiting rfl rfl in_m7_latestWaiting se_m7_latestWaiting lk_7_222 rfl (by omega) (Nat.le_of_ble_eq_true rfl) h54 (fun r58 M59 _ h60 => ?_)
              refine A_cSi (args := [(0, r58)]) (st := []) (by decide +kernel) cv_m7_bindingOf st_m7_bindingOf lk_7_225 rfl (by omega) (Nat.le_of_ble_eq_true rfl) h60 (fun r61 M62 _ h63 => ?_)
              refine A_iconst (a := 4) (by decide +kernel) (by unfold in32; omega) ?_
              refine A_ic_ge (off := 27) (tgt := 130) (by decide +kernel) (by omega) (fun b64 => ?_) (fun b64 => ?_)
              · have h65 := h63.1 b64
                refine A_aload_n (i := 0) (f := 0) (by omega) rfl (by decide +kernel) rfl ?_
                refine A_iconst (a := 1) (by decide +kernel) (by unfold in32; omega) ?_
                refine A_cVi (q := (RX7, TX7, 18)) (ci := 7) (o := ((2 : Nat) : Int)) (args := [(0, 1)]) (st := []) (by decide +kernel) cv_m7_fail rfl rfl in_m7_fail se_m7_fail lk_7_118 rfl (by omega) (Nat.le_of_ble_eq_true rfl) h65 (fun r67 M68 _ h69 => ?_)
                exact A_ret ⟨by decide +kernel, Or.inr ⟨rfl, h69.1⟩⟩ ⟨_, rfl, h69.2⟩
              · have h66 := h63.2 (Int.not_le.mp b64)
                refine A_aload_n (i := 0) (f := 0) (by omega) rfl (by decide +kernel) rfl ?_
                refine A_cVi (q := (RX7, TX7, 18)) (ci := 7) (o := ((2 : Nat) : Int)) (args := []) (st := []) (by decide +kernel) cv_m7_countKnot rfl rfl in_m7_countKnot se_m7_countKnot lk_7_228 rfl (by omega) (Nat.le_of_ble_eq_true rfl) h66 (fun r70 M71 _ h72 => ?_)
                refine A_if_eq (off := 18) (tgt := 128) (by decide +kernel) (by omega) (fun b73 => ?_) (fun b73 => ?_)
                · have h74 := h72.1 b73
                  refine A_iconst (a := 0) (by decide +kernel) (by unfold in32; omega) ?_
                  exact A_ret ⟨by decide +kernel, Or.inr ⟨rfl, by decide⟩⟩ ⟨_, rfl, h74⟩
                · have h75 := h72.2 b73
                  refine A_aload_n (i := 0) (f := 0) (by omega) rfl (by decide +kernel) rfl ?_
                  refine A_aload_n (i := 0) (f := 0) (by omega) rfl (by decide +kernel) rfl ?_
                  refine B_getp (v := (M71 2 17)) (q := (RX7, TX7, 18)) (ci := 7) (j := 17) (p := 17) (by decide +kernel) rfl (by decide) rfl (Or.inl rfl) fl_7_124 rfl ?_
                  refine A_cVi (q := (RX7, TX7, 18)) (ci := 7) (o := ((2 : Nat) : Int)) (args := [(0, (M71 2 17))]) (st := []) (by decide +kernel) cv_m7_letWait rfl rfl in_m7_letWait se_m7_letWait lk_7_231 rfl (by omega) (Nat.le_of_ble_eq_true rfl) h75 (fun r76 M77 _ h78 => ?_)
                  refine A_if_eq (off := 7) (tgt := 128) (by decide +kernel) (by omega) (fun b79 => ?_) (fun b79 => ?_)
                  · have h80 := h78.1 b79
                    refine A_iconst (a := 0) (by decide +kernel) (by unfold in32; omega) ?_
                    exact A_ret ⟨by decide +kernel, Or.inr ⟨rfl, by decide⟩⟩ ⟨_, rfl, h80⟩
                  · have h81 := h78.2 b79
                    refine A_iconst (a := 1) (by decide +kernel) (by unfold in32; omega) ?_
                    refine A_goto (off := 4) (tgt := 129) (by decide +kernel) (by omega) ?_
                    exact A_ret ⟨by decide +kernel, Or.inr ⟨rfl, by decide⟩⟩ ⟨_, rfl, h81⟩
          · have h51 := h47.2 (Decidable.not_not.mp b49)
            refine A_aload_n (i := 0) (f := 0) (by omega) rfl (by decide +kernel) rfl ?_
            refine A_cVi (q := (RX7, TX7, 18)) (ci := 7) (o := ((2 : Nat) : Int)) (args := []) (st := []) (by decide +kernel) cv_m7_takeOpen rfl rfl in_m7_takeOpen se_m7_takeOpen lk_7_219 rfl (by omega) (Nat.le_of_ble_eq_true rfl) h51 (fun r82 M83 _ h84 => ?_)
            exact A_ret ⟨by decide +kernel, Or.inr ⟨rfl, h84.1⟩⟩ ⟨_, rfl, h84.2⟩
        · have h48 := h9.2 (Int.not_le.mp b46)
          refine A_aload_n (i := 0) (f := 0) (by omega) rfl (by decide +kernel) rfl ?_
          refine A_aload_n (i := 0) (f := 0) (by omega) rfl (by decide +kernel) rfl ?_
          refine B_getp (v := (M 2 17)) (q := (RX7, TX7, 18)) (ci := 7) (j := 17) (p := 17) (by decide +kernel) rfl (by decide) rfl (Or.inl rfl) fl_7_124 rfl ?_
          refine A_cVi (q := (RX7, TX7, 18)) (ci := 7) (o := ((2 : Nat) : Int)) (args := [(0, (M 2 17))]) (st := []) (by decide +kernel) cv_m7_takeLeaf rfl rfl in_m7_takeLeaf se_m7_takeLeaf lk_7_216 rfl (by omega) (Nat.le_of_ble_eq_true rfl) h48 (fun r85 M86 _ h87 => ?_)
          exact A_ret ⟨by decide +kernel, Or.inr ⟨rfl, h87.1⟩⟩ ⟨_, rfl, h87.2⟩
    · have h6 := h2.2 (Decidable.not_not.mp b4)
      refine A_aload_n (i := 0) (f := 0) (by omega) rfl (by decide +kernel) rfl ?_
      refine A_aload_n (i := 0) (f := 0) (by omega) rfl (by decide +kernel) rfl ?_
      refine B_getp (v := (M 2 16)) (q := (RX7, TX7, 18)) (ci := 7) (j := 16) (p := 16) (by decide +kernel) rfl (by decide) rfl (Or.inl rfl) fl_7_87 rfl ?_
      refine A_cVi (q := (RX7, TX7, 18)) (ci := 7) (o := ((2 : Nat) : Int)) (args := [(0, (M 2 16))]) (st := []) (by decide +kernel) cv_m7_takeLeaf rfl rfl in_m7_takeLeaf se_m7_takeLeaf lk_7_216 rfl (by omega) (Nat.le_of_ble_eq_true rfl) h6 (fun r88 M89 _ h90 => ?_)
      exact A_ret ⟨by decide +kernel, Or.inr ⟨rfl, h90.1⟩⟩ ⟨_, rfl, h90.2⟩
  · have h3 := h.2 (Decidable.not_not.mp b1)
    refine A_aload_n (i := 0) (f := 0) (by omega) rfl (by decide +kernel) rfl ?_
    refine B_getp (v := (M 2 16)) (q := (RX7, TX7, 18)) (ci := 7) (j := 16) (p := 16) (by decide +kernel) rfl (by decide) rfl (Or.inl rfl) fl_7_87 rfl ?_
    refine A_sipush (a := 9999) (by decide +kernel) (by unfold in32; omega) (by decide +kernel) ?_
    refine A_ic_le (off := 9) (tgt := 24) (by decide +kernel) (by omega) (fun b91 => ?_) (fun b91 => ?_)
    · have h92 := h3.1 b91
      refine A_aload_n (i := 0) (f := 0) (by omega) rfl (by decide +kernel) rfl ?_
      refine B_getp (v := (M 2 15)) (q := (RX7, TX7, 18)) (ci := 7) (j := 15) (p := 15) (by decide +kernel) rfl (by decide) rfl (Or.inl rfl) fl_7_84 rfl ?_
      refine A_iconst (a := 2) (by decide +kernel) (by unfold in32; omega) ?_
      refine A_ic_ne (off := 12) (tgt := 41) (by decide +kernel) (by omega) (fun b94 => ?_) (fun b94 => ?_)
      · have h95 := h92.1 b94
        refine A_aload_n (i := 0) (f := 0) (by omega) rfl (by decide +kernel) rfl ?_
        refine B_getp (v := (M 2 17)) (q := (RX7, TX7, 18)) (ci := 7) (j := 17) (p := 17) (by decide +kernel) rfl (by decide) rfl (Or.inl rfl) fl_7_124 rfl ?_
        refine A_sipush (a := 10000) (by decide +kernel) (by unfold in32; omega) (by decide +kernel) ?_
        refine A_ic_lt (off := 22) (tgt := 70) (by decide +kernel) (by omega) (fun b97 => ?_) (fun b97 => ?_)
        · have h98 := h95.1 b97
          refine A_aload_n (i := 0) (f := 0) (by omega) rfl (by decide +kernel) rfl ?_
          refine B_getp (v := (M 2 17)) (q := (RX7, TX7, 18)) (ci := 7) (j := 17) (p := 17) (by decide +kernel) rfl (by decide) rfl (Or.inl rfl) fl_7_124 rfl ?_
          refine A_sipush (a := 10030) (by decide +kernel) (by unfold in32; omega) (by decide +kernel) ?_
          refine A_ic_ne (off := 8) (tgt := 85) (by decide +kernel) (by omega) (fun b100 => ?_) (fun b100 => ?_)
          · have h101 := h98.1 b100
            refine A_aload_n (i := 0) (f := 0) (by omega) rfl (by decide +kernel) rfl ?_
            refine B_getp (v := (M 2 17)) (q := (RX7, TX7, 18)) (ci := 7) (j := 17) (p := 17) (by decide +kernel) rfl (by decide) rfl (Or.inl rfl) fl_7_124 rfl ?_
            refine A_sipush (a := 10012) (by decide +kernel) (by unfold in32; omega) (by decide +kernel) ?_
            refine A_ic_ne (off := 38) (tgt := 130) (by decide +kernel) (by omega) (fun b103 => ?_) (fun b103 => ?_)
            · have h104 := h101.1 b103
              refine A_aload_n (i := 0) (f := 0) (by omega) rfl (by decide +kernel) rfl ?_
              refine A_iconst (a := 1) (by decide +kernel) (by unfold in32; omega) ?_
              refine A_cVi (q := (RX7, TX7, 18)) (ci := 7) (o := ((2 : Nat) : Int)) (args := [(0, 1)]) (st := []) (by decide +kernel) cv_m7_fail rfl rfl in_m7_fail se_m7_fail lk_7_118 rfl (by omega) (Nat.le_of_ble_eq_true rfl) h104 (fun r106 M107 _ h108 => ?_)
              exact A_ret ⟨by decide +kernel, Or.inr ⟨rfl, h108.1⟩⟩ ⟨_, rfl, h108.2⟩
            · have h105 := h101.2 (Decidable.not_not.mp b103)
              refine A_aload_n (i := 0) (f := 0) (by omega) rfl (by decide +kernel) rfl ?_
              refine A_cVi (q := (RX7, TX7, 18)) (ci := 7) (o := ((2 : Nat) : Int)) (args := []) (st := []) (by decide +kernel) cv_m7_latestWaiting rfl rfl in_m7_latestWaiting se_m7_latestWaiting lk_7_222 rfl (by omega) (Nat.le_of_ble_eq_true rfl) h105 (fun r109 M110 _ h111 => ?_)
              refine A_cSi (args := [(0, r109)]) (st := []) (by decide +kernel) cv_m7_bindingOf st_m7_bindingOf lk_7_225 rfl (by omega) (Nat.le_of_ble_eq_true rfl) h111 (fun r112 M113 _ h114 => ?_)
              refine A_iconst (a := 4) (by decide +kernel) (by unfold in32; omega) ?_
              refine A_ic_ge (off := 27) (tgt := 130) (by decide +kernel) (by omega) (fun b115 => ?_) (fun b115 => ?_)
              · have h116 := h114.1 b115
                refine A_aload_n (i := 0) (f := 0) (by omega) rfl (by decide +kernel) rfl ?_
                refine A_iconst (a := 1) (by decide +kernel) (by unfold in32; omega) ?_
                refine A_cVi (q := (RX7, TX7, 18)) (ci := 7) (o := ((2 : Nat) : Int)) (args := [(0, 1)]) (st := []) (by decide +kernel) cv_m7_fail rfl rfl in_m7_fail se_m7_fail lk_7_118 rfl (by omega) (Nat.le_of_ble_eq_true rfl) h116 (fun r118 M119 _ h120 => ?_)
                exact A_ret ⟨by decide +kernel, Or.inr ⟨rfl, h120.1⟩⟩ ⟨_, rfl, h120.2⟩
              · have h117 := h114.2 (Int.not_le.mp b115)
                refine A_aload_n (i := 0) (f := 0) (by omega) rfl (by decide +kernel) rfl ?_
                refine A_cVi (q := (RX7, TX7, 18)) (ci := 7) (o := ((2 : Nat) : Int)) (args := []) (st := []) (by decide +kernel) cv_m7_countKnot rfl rfl in_m7_countKnot se_m7_countKnot lk_7_228 rfl (by omega) (Nat.le_of_ble_eq_true rfl) h117 (fun r121 M122 _ h123 => ?_)
                refine A_if_eq (off := 18) (tgt := 128) (by decide +kernel) (by omega) (fun b124 => ?_) (fun b124 => ?_)
                · have h125 := h123.1 b124
                  refine A_iconst (a := 0) (by decide +kernel) (by unfold in32; omega) ?_
                  exact A_ret ⟨by decide +kernel, Or.inr ⟨rfl, by decide⟩⟩ ⟨_, rfl, h125⟩
                · have h126 := h123.2 b124
                  refine A_aload_n (i := 0) (f := 0) (by omega) rfl (by decide +kernel) rfl ?_
                  refine A_aload_n (i := 0) (f := 0) (by omega) rfl (by decide +kernel) rfl ?_
                  refine B_getp (v := (M122 2 17)) (q := (RX7, TX7, 18)) (ci := 7) (j := 17) (p := 17) (by decide +kernel) rfl (by decide) rfl (Or.inl rfl) fl_7_124 rfl ?_
                  refine A_cVi (q := (RX7, TX7, 18)) (ci := 7) (o := ((2 : Nat) : Int)) (args := [(0, (M122 2 17))]) (st := []) (by decide +kernel) cv_m7_letWait rfl rfl in_m7_letWait se_m7_letWait lk_7_231 rfl (by omega) (Nat.le_of_ble_eq_true rfl) h126 (fun r127 M128 _ h129 => ?_)
                  refine A_if_eq (off := 7) (tgt := 128) (by decide +kernel) (by omega) (fun b130 => ?_) (fun b130 => ?_)
                  · have h131 := h129.1 b130
                    refine A_iconst (a := 0) (by decide +kernel) (by unfold in32; omega) ?_
                    exact A_ret ⟨by decide +kernel, Or.inr ⟨rfl, by decide⟩⟩ ⟨_, rfl, h131⟩
                  · have h132 := h129.2 b130
                    refine A_iconst (a := 1) (by decide +kernel) (by unfold in32; omega) ?_
                    refine A_goto (off := 4) (tgt := 129) (by decide +kernel) (by omega) ?_
                    exact A_ret ⟨by decide +kernel, Or.inr ⟨rfl, by decide⟩⟩ ⟨_, rfl, h132⟩
          · have h102 := h98.2 (Decidable.not_not.mp b100)
            refine A_aload_n (i := 0) (f := 0) (by omega) rfl (by decide +kernel) rfl ?_
            refine A_cVi (q := (RX7, TX7, 18)) (ci := 7) (o := ((2 : Nat) : Int)) (args := []) (st := []) (by decide +kernel) cv_m7_takeOpen rfl rfl in_m7_takeOpen se_m7_takeOpen lk_7_219 rfl (by omega) (Nat.le_of_ble_eq_true rfl) h102 (fun r133 M134 _ h135 => ?_)
            exact A_ret ⟨by decide +kernel, Or.inr ⟨rfl, h135.1⟩⟩ ⟨_, rfl, h135.2⟩
        · have h99 := h95.2 (Int.not_lt.mp b97)
          refine A_aload_n (i := 0) (f := 0) (by omega) rfl (by decide +kernel) rfl ?_
          refine B_getp (v := (M 2 17)) (q := (RX7, TX7, 18)) (ci := 7) (j := 17) (p := 17) (by decide +kernel) rfl (by decide) rfl (Or.inl rfl) fl_7_124 rfl ?_
          refine A_sipush (a := 10008) (by decide +kernel) (by unfold in32; omega) (by decide +kernel) ?_
          refine A_ic_ge (off := 12) (tgt := 70) (by decide +kernel) (by omega) (fun b136 => ?_) (fun b136 => ?_)
          · have h137 := h99.1 b136
            refine A_aload_n (i := 0) (f := 0) (by omega) rfl (by decide +kernel) rfl ?_
            refine B_getp (v := (M 2 17)) (q := (RX7, TX7, 18)) (ci := 7) (j := 17) (p := 17) (by decide +kernel) rfl (by decide) rfl (Or.inl rfl) fl_7_124 rfl ?_
            refine A_sipush (a := 10030) (by decide +kernel) (by unfold in32; omega) (by decide +kernel) ?_
            refine A_ic_ne (off := 8) (tgt := 85) (by decide +kernel) (by omega) (fun b139 => ?_) (fun b139 => ?_)
            · have h140 := h137.1 b139
              refine A_aload_n (i := 0) (f := 0) (by omega) rfl (by decide +kernel) rfl ?_
              refine B_getp (v := (M 2 17)) (q := (RX7, TX7, 18)) (ci := 7) (j := 17) (p := 17) (by decide +kernel) rfl (by decide) rfl (Or.inl rfl) fl_7_124 rfl ?_
              refine A_sipush (a := 10012) (by decide +kernel) (by unfold in32; omega) (by decide +kernel) ?_
              refine A_ic_ne (off := 38) (tgt := 130) (by decide +kernel) (by omega) (fun b142 => ?_) (fun b142 => ?_)
              · have h143 := h140.1 b142
                refine A_aload_n (i := 0) (f := 0) (by omega) rfl (by decide +kernel) rfl ?_
                refine A_iconst (a := 1) (by decide +kernel) (by unfold in32; omega) ?_
                refine A_cVi (q := (RX7, TX7, 18)) (ci := 7) (o := ((2 : Nat) : Int)) (args := [(0, 1)]) (st := []) (by decide +kernel) cv_m7_fail rfl rfl in_m7_fail se_m7_fail lk_7_118 rfl (by omega) (Nat.le_of_ble_eq_true rfl) h143 (fun r145 M146 _ h147 => ?_)
                exact A_ret ⟨by decide +kernel, Or.inr ⟨rfl, h147.1⟩⟩ ⟨_, rfl, h147.2⟩
              · have h144 := h140.2 (Decidable.not_not.mp b142)
                refine A_aload_n (i := 0) (f := 0) (by omega) rfl (by decide +kernel) rfl ?_
                refine A_cVi (q := (RX7, TX7, 18)) (ci := 7) (o := ((2 : Nat) : Int)) (args := []) (st := []) (by decide +kernel) cv_m7_latestWaiting rfl rfl in_m7_latestWaiting se_m7_latestWaiting lk_7_222 rfl (by omega) (Nat.le_of_ble_eq_true rfl) h144 (fun r148 M149 _ h150 => ?_)
                refine A_cSi (args := [(0, r148)]) (st := []) (by decide +kernel) cv_m7_bindingOf st_m7_bindingOf lk_7_225 rfl (by omega) (Nat.le_of_ble_eq_true rfl) h150 (fun r151 M152 _ h153 => ?_)
                refine A_iconst (a := 4) (by decide +kernel) (by unfold in32; omega) ?_
                refine A_ic_ge (off := 27) (tgt := 130) (by decide +kernel) (by omega) (fun b154 => ?_) (fun b154 => ?_)
                · have h155 := h153.1 b154
                  refine A_aload_n (i := 0) (f := 0) (by omega) rfl (by decide +kernel) rfl ?_
                  refine A_iconst (a := 1) (by decide +kernel) (by unfold in32; omega) ?_
                  refine A_cVi (q := (RX7, TX7, 18)) (ci := 7) (o := ((2 : Nat) : Int)) (args := [(0, 1)]) (st := []) (by decide +kernel) cv_m7_fail rfl rfl in_m7_fail se_m7_fail lk_7_118 rfl (by omega) (Nat.le_of_ble_eq_true rfl) h155 (fun r157 M158 _ h159 => ?_)
                  exact A_ret ⟨by decide +kernel, Or.inr ⟨rfl, h159.1⟩⟩ ⟨_, rfl, h159.2⟩
                · have h156 := h153.2 (Int.not_le.mp b154)
                  refine A_aload_n (i := 0) (f := 0) (by omega) rfl (by decide +kernel) rfl ?_
                  refine A_cVi (q := (RX7, TX7, 18)) (ci := 7) (o := ((2 : Nat) : Int)) (args := []) (st := []) (by decide +kernel) cv_m7_countKnot rfl rfl in_m7_countKnot se_m7_countKnot lk_7_228 rfl (by omega) (Nat.le_of_ble_eq_true rfl) h156 (fun r160 M161 _ h162 => ?_)
                  refine A_if_eq (off := 18) (tgt := 128) (by decide +kernel) (by omega) (fun b163 => ?_) (fun b163 => ?_)
                  · have h164 := h162.1 b163
                    refine A_iconst (a := 0) (by decide +kernel) (by unfold in32; omega) ?_
                    exact A_ret ⟨by decide +kernel, Or.inr ⟨rfl, by decide⟩⟩ ⟨_, rfl, h164⟩
                  · have h165 := h162.2 b163
                    refine A_aload_n (i := 0) (f := 0) (by omega) rfl (by decide +kernel) rfl ?_
                    refine A_aload_n (i := 0) (f := 0) (by omega) rfl (by decide +kernel) rfl ?_
                    refine B_getp (v := (M161 2 17)) (q := (RX7, TX7, 18)) (ci := 7) (j := 17) (p := 17) (by decide +kernel) rfl (by decide) rfl (Or.inl rfl) fl_7_124 rfl ?_
                    refine A_cVi (q := (RX7, TX7, 18)) (ci := 7) (o := ((2 : Nat) : Int)) (args := [(0, (M161 2 17))]) (st := []) (by decide +kernel) cv_m7_letWait rfl rfl in_m7_letWait se_m7_letWait lk_7_231 rfl (by omega) (Nat.le_of_ble_eq_true rfl) h165 (fun r166 M167 _ h168 => ?_)
                    refine A_if_eq (off := 7) (tgt := 128) (by decide +kernel) (by omega) (fun b169 => ?_) (fun b169 => ?_)
                    · have h170 := h168.1 b169
                      refine A_iconst (a := 0) (by decide +kernel) (by unfold in32; omega) ?_
                      exact A_ret ⟨by decide +kernel, Or.inr ⟨rfl, by decide⟩⟩ ⟨_, rfl, h170⟩
                    · have h171 := h168.2 b169
                      refine A_iconst (a := 1) (by decide +kernel) (by unfold in32; omega) ?_
                      refine A_goto (off := 4) (tgt := 129) (by decide +kernel) (by omega) ?_
                      exact A_ret ⟨by decide +kernel, Or.inr ⟨rfl, by decide⟩⟩ ⟨_, rfl, h171⟩
            · have h141 := h137.2 (Decidable.not_not.mp b139)
              refine A_aload_n (i := 0) (f := 0) (by omega) rfl (by decide +kernel) rfl ?_
              refine A_cVi (q := (RX7, TX7, 18)) (ci := 7) (o := ((2 : Nat) : Int)) (args := []) (st := []) (by decide +kernel) cv_m7_takeOpen rfl rfl in_m7_takeOpen se_m7_takeOpen lk_7_219 rfl (by omega) (Nat.le_of_ble_eq_true rfl) h141 (fun r172 M173 _ h174 => ?_)
              exact A_ret ⟨by decide +kernel, Or.inr ⟨rfl, h174.1⟩⟩ ⟨_, rfl, h174.2⟩
          · have h138 := h99.2 (Int.not_le.mp b136)
            refine A_aload_n (i := 0) (f := 0) (by omega) rfl (by decide +kernel) rfl ?_
            refine A_aload_n (i := 0) (f := 0) (by omega) rfl (by decide +kernel) rfl ?_
            refine B_getp (v := (M 2 17)) (q := (RX7, TX7, 18)) (ci := 7) (j := 17) (p := 17) (by decide +kernel) rfl (by decide) rfl (Or.inl rfl) fl_7_124 rfl ?_
            refine A_cVi (q := (RX7, TX7, 18)) (ci := 7) (o := ((2 : Nat) : Int)) (args := [(0, (M 2 17))]) (st := []) (by decide +kernel) cv_m7_takeLeaf rfl rfl in_m7_takeLeaf se_m7_takeLeaf lk_7_216 rfl (by omega) (Nat.le_of_ble_eq_true rfl) h138 (fun r175 M176 _ h177 => ?_)
            exact A_ret ⟨by decide +kernel, Or.inr ⟨rfl, h177.1⟩⟩ ⟨_, rfl, h177.2⟩
      · have h96 := h92.2 (Decidable.not_not.mp b94)
        refine A_aload_n (i := 0) (f := 0) (by omega) rfl (by decide +kernel) rfl ?_
        refine A_aload_n (i := 0) (f := 0) (by omega) rfl (by decide +kernel) rfl ?_
        refine B_getp (v := (M 2 16)) (q := (RX7, TX7, 18)) (ci := 7) (j := 16) (p := 16) (by decide +kernel) rfl (by decide) rfl (Or.inl rfl) fl_7_87 rfl ?_
        refine A_cVi (q := (RX7, TX7, 18)) (ci := 7) (o := ((2 : Nat) : Int)) (args := [(0, (M 2 16))]) (st := []) (by decide +kernel) cv_m7_takeLeaf rfl rfl in_m7_takeLeaf se_m7_takeLeaf lk_7_216 rfl (by omega) (Nat.le_of_ble_eq_true rfl) h96 (fun r178 M179 _ h180 => ?_)
        exact A_ret ⟨by decide +kernel, Or.inr ⟨rfl, h180.1⟩⟩ ⟨_, rfl, h180.2⟩
    · have h93 := h3.2 (Int.not_le.mp b91)
      refine A_aload_n (i := 0) (f := 0) (by omega) rfl (by decide +kernel) rfl ?_
      refine A_iconst (a := 2) (by decide +kernel) (by unfold in32; omega) ?_
      refine A_cVi (q := (RX7, TX7, 18)) (ci := 7) (o := ((2 : Nat) : Int)) (args := [(0, 2)]) (st := []) (by decide +kernel) cv_m7_fail rfl rfl in_m7_fail se_m7_fail lk_7_118 rfl (by omega) (Nat.le_of_ble_eq_true rfl) h93 (fun r181 M182 _ h183 => ?_)
      exact A_ret ⟨by decide +kernel, Or.inr ⟨rfl, h183.1⟩⟩ ⟨_, rfl, h183.2⟩
theorem q_7_takeLeaf {x1 : Int} {M : Mem} {P : Int → Mem → Prop} (h : (CI m7_countKnot 2 [(17, ((2 : Nat) : Int))] M (fun r1 M2 => ((r1 ≠ 0 → (CD m3_add 2 [(13, ((9 : Nat) : Int)), (0, x1)] M2 (fun M8 => (P 1 (mset M8 2 10 0))))) ∧ (r1 = 0 → (P 0 M2)))))) : CI m7_takeLeaf 3 [(17, ((2 : Nat) : Int)), (0, x1)] M P := by
  refine CI_of (by decide +kernel) (Nat.le_of_ble_eq_true rfl) ?_
  show A m7_takeLeaf 3 0 0 [(17, ((2 : Nat) : Int)), (0, x1)] [] M (Ki P)
  refine A_aload_n (i := 0) (f := 0) (by omega) rfl (by decide +kernel) rfl ?_
  refine A_cVi (q := (RX7, TX7, 18)) (ci := 7) (o := ((2 : Nat) : Int)) (args := []) (st := []) (by decide +kernel) cv_m7_countKnot rfl rfl in_m7_countKnot se_m7_countKnot lk_7_228 rfl (by omega) (Nat.le_of_ble_eq_true rfl) h (fun r1 M2 _ h3 => ?_)
  refine A_if_ne (off := 5) (tgt := 9) (by decide +kernel) (by omega) (fun b4 => ?_) (fun b4 => ?_)
  · have h5 := h3.1 b4
    refine A_aload_n (i := 0) (f := 0) (by omega) rfl (by decide +kernel) rfl ?_
    refine B_getr (o' := ((5 : Nat) : Int)) (q := (RX7, TX7, 18)) (ci := 7) (j := 1) (by decide +kernel) rfl (by decide) rfl (by omega) fl_7_18 rfl ?_
    refine B_getr (o' := ((9 : Nat) : Int)) (q := (RX0, TX0, 9)) (ci := 0) (j := 5) (by decide +kernel) rfl (by decide) rfl (by omega) fl_7_197 rfl ?_
    refine A_iload_n (i := 1) (f := 1) rfl (by decide +kernel) rfl ?_
    refine A_cVd (q := (RX3, TX3, 6)) (ci := 3) (o := ((9 : Nat) : Int)) (args := [(0, x1)]) (st := []) (by decide +kernel) cv_m3_add rfl rfl in_m3_add se_m3_add lk_7_234 rfl (by omega) (Nat.le_of_ble_eq_true rfl) h5 (fun M8 h9 => ?_)
    refine A_aload_n (i := 0) (f := 0) (by omega) rfl (by decide +kernel) rfl ?_
    refine A_iconst (a := 0) (by decide +kernel) (by unfold in32; omega) ?_
    refine B_putp (M' := (mset M8 2 10 0)) (q := (RX7, TX7, 18)) (ci := 7) (j := 11) (p := 10) (by decide +kernel) rfl (by decide) rfl (Or.inr ⟨rfl, rfl, by decide⟩) rfl fl_7_194 rfl ?_
    refine A_iconst (a := 1) (by decide +kernel) (by unfold in32; omega) ?_
    exact A_ret ⟨by decide +kernel, Or.inr ⟨rfl, by decide⟩⟩ ⟨_, rfl, h9⟩
  · have h6 := h3.2 (Decidable.not_not.mp b4)
    refine A_iconst (a := 0) (by decide +kernel) (by unfold in32; omega) ?_
    exact A_ret ⟨by decide +kernel, Or.inr ⟨rfl, by decide⟩⟩ ⟨_, rfl, h6⟩
theorem q_7_takeSign  {M : Mem} {P : Int → Mem → Prop} (h : (((M 2 17) ≠ 10031 → (CI m7_bindingOf 1 [(0, (M 2 17))] M (fun r4 M5 => ((r4 = 0 → (((M5 2 9) ≤ 0 → (P 0 M5)) ∧ (0 < (M5 2 9) → (CI m7_fail 1 [(17, ((2 : Nat) : Int)), (0, 1)] M5 (fun r13 M14 => ((r13 = 0 → (P 0 M14)) ∧ (r13 ≠ 0 → (P 1 M14)))))))) ∧ (r4 ≠ 0 → (((M5 2 17) ≠ 10012 → ((r4 ≠ 4 → (CD m7_layWaiting 3 [(17, ((2 : Nat) : Int)), (0, r4)] M5 (fun M26 => (CI m7_countKnot 2 [(17, ((2 : Nat) : Int))] (mset M26 2 10 1) (fun r28 M29 => ((r28 = 0 → (P 0 M29)) ∧ (r28 ≠ 0 → (CI m7_letWait 2 [(17, ((2 : Nat) : Int)), (0, (M29 2 17))] M29 (fun r34 M35 => ((r34 = 0 → (P 0 M35)) ∧ (r34 ≠ 0 → (P 1 M35)))))))))))) ∧ (r4 = 4 → (CD m7_layWaiting 3 [(17, ((2 : Nat) : Int)), (0, (w32 (r4 + 1)))] M5 (fun M41 => (CI m7_latestWaiting 2 [(17, ((2 : Nat) : Int))] M41 (fun r43 M44 => (CI m7_bindingOf 1 [(0, r43)] M44 (fun r46 M47 => ((r46 ≠ 4 → (CI m7_countKnot 2 [(17, ((2 : Nat) : Int))] (mset M47 2 10 1) (fun r52 M53 => ((r52 = 0 → (P 0 M53)) ∧ (r52 ≠ 0 → (CI m7_letWait 2 [(17, ((2 : Nat) : Int)), (0, (M53 2 17))] M53 (fun r58 M59 => ((r58 = 0 → (P 0 M59)) ∧ (r58 ≠ 0 → (P 1 M59)))))))))) ∧ (r46 = 4 → (CI m7_fail 1 [(17, ((2 : Nat) : Int)), (0, 1)] M47 (fun r64 M65 => ((r64 = 0 ∨ r64 = 1) ∧ P r64 M65)))))))))))))) ∧ ((M5 2 17) = 10012 → (((M5 2 9) ≤ 0 → (P 0 M5)) ∧ (0 < (M5 2 9) → (CI m7_fail 1 [(17, ((2 : Nat) : Int)), (0, 1)] M5 (fun r70 M71 => ((r70 = 0 → (P 0 M71)) ∧ (r70 ≠ 0 → (P 1 M71)))))))))))))) ∧ ((M 2 17) = 10031 → (((M 2 9) ≤ 0 → (CI m7_bindingOf 1 [(0, (M 2 17))] M (fun r79 M80 => ((r79 = 0 → (((M80 2 9) ≤ 0 → (P 0 M80)) ∧ (0 < (M80 2 9) → (CI m7_fail 1 [(17, ((2 : Nat) : Int)), (0, 1)] M80 (fun r88 M89 => ((r88 = 0 → (P 0 M89)) ∧ (r88 ≠ 0 → (P 1 M89)))))))) ∧ (r79 ≠ 0 → (((M80 2 17) ≠ 10012 → ((r79 ≠ 4 → (CD m7_layWaiting 3 [(17, ((2 : Nat) : Int)), (0, r79)] M80 (fun M101 => (CI m7_countKnot 2 [(17, ((2 : Nat) : Int))] (mset M101 2 10 1) (fun r103 M104 => ((r103 = 0 → (P 0 M104)) ∧ (r103 ≠ 0 → (CI m7_letWait 2 [(17, ((2 : Nat) : Int)), (0, (M104 2 17))] M104 (fun r109 M110 => ((r109 = 0 → (P 0 M110)) ∧ (r109 ≠ 0 → (P 1 M110)))))))))))) ∧ (r79 = 4 → (CD m7_layWaiting 3 [(17, ((2 : Nat) : Int)), (0, (w32 (r79 + 1)))] M80 (fun M116 => (CI m7_latestWaiting 2 [(17, ((2 : Nat) : Int))] M116 (fun r118 M119 => (CI m7_bindingOf 1 [(0, r118)] M119 (fun r121 M122 => ((r121 ≠ 4 → (CI m7_countKnot 2 [(17, ((2 : Nat) : Int))] (mset M122 2 10 1) (fun r127 M128 => ((r127 = 0 → (P 0 M128)) ∧ (r127 ≠ 0 → (CI m7_letWait 2 [(17, ((2 : Nat) : Int)), (0, (M128 2 17))] M128 (fun r133 M134 => ((r133 = 0 → (P 0 M134)) ∧ (r133 ≠ 0 → (P 1 M134)))))))))) ∧ (r121 = 4 → (CI m7_fail 1 [(17, ((2 : Nat) : Int)), (0, 1)] M122 (fun r139 M140 => ((r139 = 0 ∨ r139 = 1) ∧ P r139 M140)))))))))))))) ∧ ((M80 2 17) = 10012 → (((M80 2 9) ≤ 0 → (P 0 M80)) ∧ (0 < (M80 2 9) → (CI m7_fail 1 [(17, ((2 : Nat) : Int)), (0, 1)] M80 (fun r145 M146 => ((r145 = 0 → (P 0 M146)) ∧ (r145 ≠ 0 → (P 1 M146)))))))))))))) ∧ (0 < (M 2 9) → (CD m7_layWaiting 3 [(17, ((2 : Nat) : Int)), (0, 1)] M (fun M152 => (P 1 (mset (mset M152 2 8 (w32 ((M152 2 8) - 1))) 2 9 (w32 (((mset M152 2 8 (w32 ((M152 2 8) - 1))) 2 9) - 1))))))))))) : CI m7_takeSign 4 [(17, ((2 : Nat) : Int))] M P := by
  refine CI_of (by decide +kernel) (Nat.le_of_ble_eq_true rfl) ?_
  show A m7_takeSign 4 0 0 [(17, ((2 : Nat) : Int)), (2, 0), (2, 0)] [] M (Ki P)
  refine A_aload_n (i := 0) (f := 0) (by omega) rfl (by decide +kernel) rfl ?_
  refine B_getp (v := (M 2 17)) (q := (RX7, TX7, 18)) (ci := 7) (j := 17) (p := 17) (by decide +kernel) rfl (by decide) rfl (Or.inl rfl) fl_7_124 rfl ?_
  refine A_sipush (a := 10031) (by decide +kernel) (by unfold in32; omega) (by decide +kernel) ?_
  refine A_ic_ne (off := 37) (tgt := 44) (by decide +kernel) (by omega) (fun b1 => ?_) (fun b1 => ?_)
  · have h2 := h.1 b1
    refine A_aload_n (i := 0) (f := 0) (by omega) rfl (by decide +kernel) rfl ?_
    refine B_getp (v := (M 2 17)) (q := (RX7, TX7, 18)) (ci := 7) (j := 17) (p := 17) (by decide +kernel) rfl (by decide) rfl (Or.inl rfl) fl_7_124 rfl ?_
    refine A_cSi (args := [(0, (M 2 17))]) (st := []) (by decide +kernel) cv_m7_bindingOf st_m7_bindingOf lk_7_225 rfl (by omega) (Nat.le_of_ble_eq_true rfl) h2 (fun r4 M5 _ h6 => ?_)
    refine A_istore_n (i := 1) (f := 1) rfl (by decide +kernel) (by decide) (fun w h0 hw => by simp at hw; first | (rw [← hw]; decide) | (rw [← hw]; simp)) ?_
    refine A_iload_n (i := 1) (f := 1) rfl (by decide +kernel) rfl ?_
    refine A_if_eq (off := 13) (tgt := 66) (by decide +kernel) (by omega) (fun b7 => ?_) (fun b7 => ?_)
    · have h8 := h6.1 b7
      refine A_aload_n (i := 0) (f := 0) (by omega) rfl (by decide +kernel) rfl ?_
      refine B_getp (v := (M5 2 9)) (q := (RX7, TX7, 18)) (ci := 7) (j := 10) (p := 9) (by decide +kernel) rfl (by decide) rfl (Or.inl rfl) fl_7_191 rfl ?_
      refine A_if_le (off := 15) (tgt := 85) (by decide +kernel) (by omega) (fun b10 => ?_) (fun b10 => ?_)
      · have h11 := h8.1 b10
        refine A_iconst (a := 0) (by decide +kernel) (by unfold in32; omega) ?_
        exact A_ret ⟨by decide +kernel, Or.inr ⟨rfl, by decide⟩⟩ ⟨_, rfl, h11⟩
      · have h12 := h8.2 (Int.not_le.mp b10)
        refine A_aload_n (i := 0) (f := 0) (by omega) rfl (by decide +kernel) rfl ?_
        refine A_iconst (a := 1) (by decide +kernel) (by unfold in32; omega) ?_
        refine A_cVi (q := (RX7, TX7, 18)) (ci := 7) (o := ((2 : Nat) : Int)) (args := [(0, 1)]) (st := []) (by decide +kernel) cv_m7_fail rfl rfl in_m7_fail se_m7_fail lk_7_118 rfl (by omega) (Nat.le_of_ble_eq_true rfl) h12 (fun r13 M14 _ h15 => ?_)
        refine A_if_eq (off := 7) (tgt := 85) (by decide +kernel) (by omega) (fun b16 => ?_) (fun b16 => ?_)
        · have h17 := h15.1 b16
          refine A_iconst (a := 0) (by decide +kernel) (by unfold in32; omega) ?_
          exact A_ret ⟨by decide +kernel, Or.inr ⟨rfl, by decide⟩⟩ ⟨_, rfl, h17⟩
        · have h18 := h15.2 b16
          refine A_iconst (a := 1) (by decide +kernel) (by unfold in32; omega) ?_
          refine A_goto (off := 4) (tgt := 86) (by decide +kernel) (by omega) ?_
          exact A_ret ⟨by decide +kernel, Or.inr ⟨rfl, by decide⟩⟩ ⟨_, rfl, h18⟩
    · have h9 := h6.2 b7
      refine A_aload_n (i := 0) (f := 0) (by omega) rfl (by decide +kernel) rfl ?_
      refine B_getp (v := (M5 2 17)) (q := (RX7, TX7, 18)) (ci := 7) (j := 17) (p := 17) (by decide +kernel) rfl (by decide) rfl (Or.inl rfl) fl_7_124 rfl ?_
      refine A_sipush (a := 10012) (by decide +kernel) (by unfold in32; omega) (by decide +kernel) ?_
      refine A_ic_ne (off := 24) (tgt := 87) (by decide +kernel) (by omega) (fun b19 => ?_) (fun b19 => ?_)
      · have h20 := h9.1 b19
        refine A_iload_n (i := 1) (f := 1) rfl (by decide +kernel) rfl ?_
        refine A_iconst (a := 4) (by decide +kernel) (by unfold in32; omega) ?_
        refine A_ic_ne (off := 7) (tgt := 96) (by decide +kernel) (by omega) (fun b22 => ?_) (fun b22 => ?_)
        · have h23 := h20.1 b22
          refine A_iconst (a := 0) (by decide +kernel) (by unfold in32; omega) ?_
          refine A_istore_n (i := 2) (f := 2) rfl (by decide +kernel) (by decide) (fun w h0 hw => by simp at hw; first | (rw [← hw]; decide) | (rw [← hw]; simp)) ?_
          refine A_aload_n (i := 0) (f := 0) (by omega) rfl (by decide +kernel) rfl ?_
          refine A_iload_n (i := 2) (f := 2) rfl (by decide +kernel) rfl ?_
          refine A_if_eq (off := 9) (tgt := 109) (by decide +kernel) (by omega) (fun _ => ?_) (fun hb => absurd (by decide) hb)
          refine A_iload_n (i := 1) (f := 1) rfl (by decide +kernel) rfl ?_
          refine A_cVd (q := (RX7, TX7, 18)) (ci := 7) (o := ((2 : Nat) : Int)) (args := [(0, r4)]) (st := []) (by decide +kernel) cv_m7_layWaiting rfl rfl in_m7_layWaiting se_m7_layWaiting lk_7_210 rfl (by omega) (Nat.le_of_ble_eq_true rfl) h23 (fun M26 h27 => ?_)
          refine A_iload_n (i := 2) (f := 2) rfl (by decide +kernel) rfl ?_
          refine A_if_eq (off := 20) (tgt := 134) (by decide +kernel) (by omega) (fun _ => ?_) (fun hb => absurd (by decide) hb)
          refine A_aload_n (i := 0) (f := 0) (by omega) rfl (by decide +kernel) rfl ?_
          refine A_iconst (a := 1) (by decide +kernel) (by unfold in32; omega) ?_
          refine B_putp (M' := (mset M26 2 10 1)) (q := (RX7, TX7, 18)) (ci := 7) (j := 11) (p := 10) (by decide +kernel) rfl (by decide) rfl (Or.inr ⟨rfl, rfl, by decide⟩) rfl fl_7_194 rfl ?_
          refine A_aload_n (i := 0) (f := 0) (by omega) rfl (by decide +kernel) rfl ?_
          refine A_cVi (q := (RX7, TX7, 18)) (ci := 7) (o := ((2 : Nat) : Int)) (args := []) (st := []) (by decide +kernel) cv_m7_countKnot rfl rfl in_m7_countKnot se_m7_countKnot lk_7_228 rfl (by omega) (Nat.le_of_ble_eq_true rfl) h27 (fun r28 M29 _ h30 => ?_)
          refine A_if_eq (off := 18) (tgt := 161) (by decide +kernel) (by omega) (fun b31 => ?_) (fun b31 => ?_)
          · have h32 := h30.1 b31
            refine A_iconst (a := 0) (by decide +kernel) (by unfold in32; omega) ?_
            exact A_ret ⟨by decide +kernel, Or.inr ⟨rfl, by decide⟩⟩ ⟨_, rfl, h32⟩
          · have h33 := h30.2 b31
            refine A_aload_n (i := 0) (f := 0) (by omega) rfl (by decide +kernel) rfl ?_
            refine A_aload_n (i := 0) (f := 0) (by omega) rfl (by decide +kernel) rfl ?_
            refine B_getp (v := (M29 2 17)) (q := (RX7, TX7, 18)) (ci := 7) (j := 17) (p := 17) (by decide +kernel) rfl (by decide) rfl (Or.inl rfl) fl_7_124 rfl ?_
            refine A_cVi (q := (RX7, TX7, 18)) (ci := 7) (o := ((2 : Nat) : Int)) (args := [(0, (M29 2 17))]) (st := []) (by decide +kernel) cv_m7_letWait rfl rfl in_m7_letWait se_m7_letWait lk_7_231 rfl (by omega) (Nat.le_of_ble_eq_true rfl) h33 (fun r34 M35 _ h36 => ?_)
            refine A_if_eq (off := 7) (tgt := 161) (by decide +kernel) (by omega) (fun b37 => ?_) (fun b37 => ?_)
            · have h38 := h36.1 b37
              refine A_iconst (a := 0) (by decide +kernel) (by unfold in32; omega) ?_
              exact A_ret ⟨by decide +kernel, Or.inr ⟨rfl, by decide⟩⟩ ⟨_, rfl, h38⟩
            · have h39 := h36.2 b37
              refine A_iconst (a := 1) (by decide +kernel) (by unfold in32; omega) ?_
              refine A_goto (off := 4) (tgt := 162) (by decide +kernel) (by omega) ?_
              exact A_ret ⟨by decide +kernel, Or.inr ⟨rfl, by decide⟩⟩ ⟨_, rfl, h39⟩
        · have h24 := h20.2 (Decidable.not_not.mp b22)
          refine A_iconst (a := 1) (by decide +kernel) (by unfold in32; omega) ?_
          refine A_goto (off := 4) (tgt := 97) (by decide +kernel) (by omega) ?_
          refine A_istore_n (i := 2) (f := 2) rfl (by decide +kernel) (by decide) (fun w h0 hw => by simp at hw; first | (rw [← hw]; decide) | (rw [← hw]; simp)) ?_
          refine A_aload_n (i := 0) (f := 0) (by omega) rfl (by decide +kernel) rfl ?_
          refine A_iload_n (i := 2) (f := 2) rfl (by decide +kernel) rfl ?_
          refine A_if_eq (off := 9) (tgt := 109) (by decide +kernel) (by omega) (fun hb => absurd hb (by decide)) (fun _ => ?_)
          refine A_iload_n (i := 1) (f := 1) rfl (by decide +kernel) rfl ?_
          refine A_iconst (a := 1) (by decide +kernel) (by unfold in32; omega) ?_
          refine A_iadd (by decide +kernel) ?_
          refine A_goto (off := 4) (tgt := 110) (by decide +kernel) (by omega) ?_
          refine A_cVd (q := (RX7, TX7, 18)) (ci := 7) (o := ((2 : Nat) : Int)) (args := [(0, (w32 (r4 + 1)))]) (st := []) (by decide +kernel) cv_m7_layWaiting rfl rfl in_m7_layWaiting se_m7_layWaiting lk_7_210 rfl (by omega) (Nat.le_of_ble_eq_true rfl) h24 (fun M41 h42 => ?_)
          refine A_iload_n (i := 2) (f := 2) rfl (by decide +kernel) rfl ?_
          refine A_if_eq (off := 20) (tgt := 134) (by decide +kernel) (by omega) (fun hb => absurd hb (by decide)) (fun _ => ?_)
          refine A_aload_n (i := 0) (f := 0) (by omega) rfl (by decide +kernel) rfl ?_
          refine A_cVi (q := (RX7, TX7, 18)) (ci := 7) (o := ((2 : Nat) : Int)) (args := []) (st := []) (by decide +kernel) cv_m7_latestWaiting rfl rfl in_m7_latestWaiting se_m7_latestWaiting lk_7_222 rfl (by omega) (Nat.le_of_ble_eq_true rfl) h42 (fun r43 M44 _ h45 => ?_)
          refine A_cSi (args := [(0, r43)]) (st := []) (by decide +kernel) cv_m7_bindingOf st_m7_bindingOf lk_7_225 rfl (by omega) (Nat.le_of_ble_eq_true rfl) h45 (fun r46 M47 _ h48 => ?_)
          refine A_iconst (a := 4) (by decide +kernel) (by unfold in32; omega) ?_
          refine A_ic_ne (off := 9) (tgt := 134) (by decide +kernel) (by omega) (fun b49 => ?_) (fun b49 => ?_)
          · have h50 := h48.1 b49
            refine A_aload_n (i := 0) (f := 0) (by omega) rfl (by decide +kernel) rfl ?_
            refine A_iconst (a := 1) (by decide +kernel) (by unfold in32; omega) ?_
            refine B_putp (M' := (mset M47 2 10 1)) (q := (RX7, TX7, 18)) (ci := 7) (j := 11) (p := 10) (by decide +kernel) rfl (by decide) rfl (Or.inr ⟨rfl, rfl, by decide⟩) rfl fl_7_194 rfl ?_
            refine A_aload_n (i := 0) (f := 0) (by omega) rfl (by decide +kernel) rfl ?_
            refine A_cVi (q := (RX7, TX7, 18)) (ci := 7) (o := ((2 : Nat) : Int)) (args := []) (st := []) (by decide +kernel) cv_m7_countKnot rfl rfl in_m7_countKnot se_m7_countKnot lk_7_228 rfl (by omega) (Nat.le_of_ble_eq_true rfl) h50 (fun r52 M53 _ h54 => ?_)
            refine A_if_eq (off := 18) (tgt := 161) (by decide +kernel) (by omega) (fun b55 => ?_) (fun b55 => ?_)
            · have h56 := h54.1 b55
              refine A_iconst (a := 0) (by decide +kernel) (by unfold in32; omega) ?_
              exact A_ret ⟨by decide +kernel, Or.inr ⟨rfl, by decide⟩⟩ ⟨_, rfl, h56⟩
            · have h57 := h54.2 b55
              refine A_aload_n (i := 0) (f := 0) (by omega) rfl (by decide +kernel) rfl ?_
              refine A_aload_n (i := 0) (f := 0) (by omega) rfl (by decide +kernel) rfl ?_
              refine B_getp (v := (M53 2 17)) (q := (RX7, TX7, 18)) (ci := 7) (j := 17) (p := 17) (by decide +kernel) rfl (by decide) rfl (Or.inl rfl) fl_7_124 rfl ?_
              refine A_cVi (q := (RX7, TX7, 18)) (ci := 7) (o := ((2 : Nat) : Int)) (args := [(0, (M53 2 17))]) (st := []) (by decide +kernel) cv_m7_letWait rfl rfl in_m7_letWait se_m7_letWait lk_7_231 rfl (by omega) (Nat.le_of_ble_eq_true rfl) h57 (fun r58 M59 _ h60 => ?_)
              refine A_if_eq (off := 7) (tgt := 161) (by decide +kernel) (by omega) (fun b61 => ?_) (fun b61 => ?_)
              · have h62 := h60.1 b61
                refine A_iconst (a := 0) (by decide +kernel) (by unfold in32; omega) ?_
                exact A_ret ⟨by decide +kernel, Or.inr ⟨rfl, by decide⟩⟩ ⟨_, rfl, h62⟩
              · have h63 := h60.2 b61
                refine A_iconst (a := 1) (by decide +kernel) (by unfold in32; omega) ?_
                refine A_goto (off := 4) (tgt := 162) (by decide +kernel) (by omega) ?_
                exact A_ret ⟨by decide +kernel, Or.inr ⟨rfl, by decide⟩⟩ ⟨_, rfl, h63⟩
          · have h51 := h48.2 (Decidable.not_not.mp b49)
            refine A_aload_n (i := 0) (f := 0) (by omega) rfl (by decide +kernel) rfl ?_
            refine A_iconst (a := 1) (by decide +kernel) (by unfold in32; omega) ?_
            refine A_cVi (q := (RX7, TX7, 18)) (ci := 7) (o := ((2 : Nat) : Int)) (args := [(0, 1)]) (st := []) (by decide +kernel) cv_m7_fail rfl rfl in_m7_fail se_m7_fail lk_7_118 rfl (by omega) (Nat.le_of_ble_eq_true rfl) h51 (fun r64 M65 _ h66 => ?_)
            exact A_ret ⟨by decide +kernel, Or.inr ⟨rfl, h66.1⟩⟩ ⟨_, rfl, h66.2⟩
      · have h21 := h9.2 (Decidable.not_not.mp b19)
        refine A_aload_n (i := 0) (f := 0) (by omega) rfl (by decide +kernel) rfl ?_
        refine B_getp (v := (M5 2 9)) (q := (RX7, TX7, 18)) (ci := 7) (j := 10) (p := 9) (by decide +kernel) rfl (by decide) rfl (Or.inl rfl) fl_7_191 rfl ?_
        refine A_if_le (off := 15) (tgt := 85) (by decide +kernel) (by omega) (fun b67 => ?_) (fun b67 => ?_)
        · have h68 := h21.1 b67
          refine A_iconst (a := 0) (by decide +kernel) (by unfold in32; omega) ?_
          exact A_ret ⟨by decide +kernel, Or.inr ⟨rfl, by decide⟩⟩ ⟨_, rfl, h68⟩
        · have h69 := h21.2 (Int.not_le.mp b67)
          refine A_aload_n (i := 0) (f := 0) (by omega) rfl (by decide +kernel) rfl ?_
          refine A_iconst (a := 1) (by decide +kernel) (by unfold in32; omega) ?_
          refine A_cVi (q := (RX7, TX7, 18)) (ci := 7) (o := ((2 : Nat) : Int)) (args := [(0, 1)]) (st := []) (by decide +kernel) cv_m7_fail rfl rfl in_m7_fail se_m7_fail lk_7_118 rfl (by omega) (Nat.le_of_ble_eq_true rfl) h69 (fun r70 M71 _ h72 => ?_)
          refine A_if_eq (off := 7) (tgt := 85) (by decide +kernel) (by omega) (fun b73 => ?_) (fun b73 => ?_)
          · have h74 := h72.1 b73
            refine A_iconst (a := 0) (by decide +kernel) (by unfold in32; omega) ?_
            exact A_ret ⟨by decide +kernel, Or.inr ⟨rfl, by decide⟩⟩ ⟨_, rfl, h74⟩
          · have h75 := h72.2 b73
            refine A_iconst (a := 1) (by decide +kernel) (by unfold in32; omega) ?_
            refine A_goto (off := 4) (tgt := 86) (by decide +kernel) (by omega) ?_
            exact A_ret ⟨by decide +kernel, Or.inr ⟨rfl, by decide⟩⟩ ⟨_, rfl, h75⟩
  · have h3 := h.2 (Decidable.not_not.mp b1)
    refine A_aload_n (i := 0) (f := 0) (by omega) rfl (by decide +kernel) rfl ?_
    refine B_getp (v := (M 2 9)) (q := (RX7, TX7, 18)) (ci := 7) (j := 10) (p := 9) (by decide +kernel) rfl (by decide) rfl (Or.inl rfl) fl_7_191 rfl ?_
    refine A_if_le (off := 30) (tgt := 44) (by decide +kernel) (by omega) (fun b76 => ?_) (fun b76 => ?_)
    · have h77 := h3.1 b76
      refine A_aload_n (i := 0) (f := 0) (by omega) rfl (by decide +kernel) rfl ?_
      refine B_getp (v := (M 2 17)) (q := (RX7, TX7, 18)) (ci := 7) (j := 17) (p := 17) (by decide +kernel) rfl (by decide) rfl (Or.inl rfl) fl_7_124 rfl ?_
      refine A_cSi (args := [(0, (M 2 17))]) (st := []) (by decide +kernel) cv_m7_bindingOf st_m7_bindingOf lk_7_225 rfl (by omega) (Nat.le_of_ble_eq_true rfl) h77 (fun r79 M80 _ h81 => ?_)
      refine A_istore_n (i := 1) (f := 1) rfl (by decide +kernel) (by decide) (fun w h0 hw => by simp at hw; first | (rw [← hw]; decide) | (rw [← hw]; simp)) ?_
      refine A_iload_n (i := 1) (f := 1) rfl (by decide +kernel) rfl ?_
      refine A_if_eq (off := 13) (tgt := 66) (by decide +kernel) (by omega) (fun b82 => ?_) (fun b82 => ?_)
      · have h83 := h81.1 b82
        refine A_aload_n (i := 0) (f := 0) (by omega) rfl (by decide +kernel) rfl ?_
        refine B_getp (v := (M80 2 9)) (q := (RX7, TX7, 18)) (ci := 7) (j := 10) (p := 9) (by decide +kernel) rfl (by decide) rfl (Or.inl rfl) fl_7_191 rfl ?_
        refine A_if_le (off := 15) (tgt := 85) (by decide +kernel) (by omega) (fun b85 => ?_) (fun b85 => ?_)
        · have h86 := h83.1 b85
          refine A_iconst (a := 0) (by decide +kernel) (by unfold in32; omega) ?_
          exact A_ret ⟨by decide +kernel, Or.inr ⟨rfl, by decide⟩⟩ ⟨_, rfl, h86⟩
        · have h87 := h83.2 (Int.not_le.mp b85)
          refine A_aload_n (i := 0) (f := 0) (by omega) rfl (by decide +kernel) rfl ?_
          refine A_iconst (a := 1) (by decide +kernel) (by unfold in32; omega) ?_
          refine A_cVi (q := (RX7, TX7, 18)) (ci := 7) (o := ((2 : Nat) : Int)) (args := [(0, 1)]) (st := []) (by decide +kernel) cv_m7_fail rfl rfl in_m7_fail se_m7_fail lk_7_118 rfl (by omega) (Nat.le_of_ble_eq_true rfl) h87 (fun r88 M89 _ h90 => ?_)
          refine A_if_eq (off := 7) (tgt := 85) (by decide +kernel) (by omega) (fun b91 => ?_) (fun b91 => ?_)
          · have h92 := h90.1 b91
            refine A_iconst (a := 0) (by decide +kernel) (by unfold in32; omega) ?_
            exact A_ret ⟨by decide +kernel, Or.inr ⟨rfl, by decide⟩⟩ ⟨_, rfl, h92⟩
          · have h93 := h90.2 b91
            refine A_iconst (a := 1) (by decide +kernel) (by unfold in32; omega) ?_
            refine A_goto (off := 4) (tgt := 86) (by decide +kernel) (by omega) ?_
            exact A_ret ⟨by decide +kernel, Or.inr ⟨rfl, by decide⟩⟩ ⟨_, rfl, h93⟩
      · have h84 := h81.2 b82
        refine A_aload_n (i := 0) (f := 0) (by omega) rfl (by decide +kernel) rfl ?_
        refine B_getp (v := (M80 2 17)) (q := (RX7, TX7, 18)) (ci := 7) (j := 17) (p := 17) (by decide +kernel) rfl (by decide) rfl (Or.inl rfl) fl_7_124 rfl ?_
        refine A_sipush (a := 10012) (by decide +kernel) (by unfold in32; omega) (by decide +kernel) ?_
        refine A_ic_ne (off := 24) (tgt := 87) (by decide +kernel) (by omega) (fun b94 => ?_) (fun b94 => ?_)
        · have h95 := h84.1 b94
          refine A_iload_n (i := 1) (f := 1) rfl (by decide +kernel) rfl ?_
          refine A_iconst (a := 4) (by decide +kernel) (by unfold in32; omega) ?_
          refine A_ic_ne (off := 7) (tgt := 96) (by decide +kernel) (by omega) (fun b97 => ?_) (fun b97 => ?_)
          · have h98 := h95.1 b97
            refine A_iconst (a := 0) (by decide +kernel) (by unfold in32; omega) ?_
            refine A_istore_n (i := 2) (f := 2) rfl (by decide +kernel) (by decide) (fun w h0 hw => by simp at hw; first | (rw [← hw]; decide) | (rw [← hw]; simp)) ?_
            refine A_aload_n (i := 0) (f := 0) (by omega) rfl (by decide +kernel) rfl ?_
            refine A_iload_n (i := 2) (f := 2) rfl (by decide +kernel) rfl ?_
            refine A_if_eq (off := 9) (tgt := 109) (by decide +kernel) (by omega) (fun _ => ?_) (fun hb => absurd (by decide) hb)
            refine A_iload_n (i := 1) (f := 1) rfl (by decide +kernel) rfl ?_
            refine A_cVd (q := (RX7, TX7, 18)) (ci := 7) (o := ((2 : Nat) : Int)) (args := [(0, r79)]) (st := []) (by decide +kernel) cv_m7_layWaiting rfl rfl in_m7_layWaiting se_m7_layWaiting lk_7_210 rfl (by omega) (Nat.le_of_ble_eq_true rfl) h98 (fun M101 h102 => ?_)
            refine A_iload_n (i := 2) (f := 2) rfl (by decide +kernel) rfl ?_
            refine A_if_eq (off := 20) (tgt := 134) (by decide +kernel) (by omega) (fun _ => ?_) (fun hb => absurd (by decide) hb)
            refine A_aload_n (i := 0) (f := 0) (by omega) rfl (by decide +kernel) rfl ?_
            refine A_iconst (a := 1) (by decide +kernel) (by unfold in32; omega) ?_
            refine B_putp (M' := (mset M101 2 10 1)) (q := (RX7, TX7, 18)) (ci := 7) (j := 11) (p := 10) (by decide +kernel) rfl (by decide) rfl (Or.inr ⟨rfl, rfl, by decide⟩) rfl fl_7_194 rfl ?_
            refine A_aload_n (i := 0) (f := 0) (by omega) rfl (by decide +kernel) rfl ?_
            refine A_cVi (q := (RX7, TX7, 18)) (ci := 7) (o := ((2 : Nat) : Int)) (args := []) (st := []) (by decide +kernel) cv_m7_countKnot rfl rfl in_m7_countKnot se_m7_countKnot lk_7_228 rfl (by omega) (Nat.le_of_ble_eq_true rfl) h102 (fun r103 M104 _ h105 => ?_)
            refine A_if_eq (off := 18) (tgt := 161) (by decide +kernel) (by omega) (fun b106 => ?_) (fun b106 => ?_)
            · have h107 := h105.1 b106
              refine A_iconst (a := 0) (by decide +kernel) (by unfold in32; omega) ?_
              exact A_ret ⟨by decide +kernel, Or.inr ⟨rfl, by decide⟩⟩ ⟨_, rfl, h107⟩
            · have h108 := h105.2 b106
              refine A_aload_n (i := 0) (f := 0) (by omega) rfl (by decide +kernel) rfl ?_
              refine A_aload_n (i := 0) (f := 0) (by omega) rfl (by decide +kernel) rfl ?_
              refine B_getp (v := (M104 2 17)) (q := (RX7, TX7, 18)) (ci := 7) (j := 17) (p := 17) (by decide +kernel) rfl (by decide) rfl (Or.inl rfl) fl_7_124 rfl ?_
              refine A_cVi (q := (RX7, TX7, 18)) (ci := 7) (o := ((2 : Nat) : Int)) (args := [(0, (M104 2 17))]) (st := []) (by decide +kernel) cv_m7_letWait rfl rfl in_m7_letWait se_m7_letWait lk_7_231 rfl (by omega) (Nat.le_of_ble_eq_true rfl) h108 (fun r109 M110 _ h111 => ?_)
              refine A_if_eq (off := 7) (tgt := 161) (by decide +kernel) (by omega) (fun b112 => ?_) (fun b112 => ?_)
              · have h113 := h111.1 b112
                refine A_iconst (a := 0) (by decide +kernel) (by unfold in32; omega) ?_
                exact A_ret ⟨by decide +kernel, Or.inr ⟨rfl, by decide⟩⟩ ⟨_, rfl, h113⟩
              · have h114 := h111.2 b112
                refine A_iconst (a := 1) (by decide +kernel) (by unfold in32; omega) ?_
                refine A_goto (off := 4) (tgt := 162) (by decide +kernel) (by omega) ?_
                exact A_ret ⟨by decide +kernel, Or.inr ⟨rfl, by decide⟩⟩ ⟨_, rfl, h114⟩
          · have h99 := h95.2 (Decidable.not_not.mp b97)
            refine A_iconst (a := 1) (by decide +kernel) (by unfold in32; omega) ?_
            refine A_goto (off := 4) (tgt := 97) (by decide +kernel) (by omega) ?_
            refine A_istore_n (i := 2) (f := 2) rfl (by decide +kernel) (by decide) (fun w h0 hw => by simp at hw; first | (rw [← hw]; decide) | (rw [← hw]; simp)) ?_
            refine A_aload_n (i := 0) (f := 0) (by omega) rfl (by decide +kernel) rfl ?_
            refine A_iload_n (i := 2) (f := 2) rfl (by decide +kernel) rfl ?_
            refine A_if_eq (off := 9) (tgt := 109) (by decide +kernel) (by omega) (fun hb => absurd hb (by decide)) (fun _ => ?_)
            refine A_iload_n (i := 1) (f := 1) rfl (by decide +kernel) rfl ?_
            refine A_iconst (a := 1) (by decide +kernel) (by unfold in32; omega) ?_
            refine A_iadd (by decide +kernel) ?_
            refine A_goto (off := 4) (tgt := 110) (by decide +kernel) (by omega) ?_
            refine A_cVd (q := (RX7, TX7, 18)) (ci := 7) (o := ((2 : Nat) : Int)) (args := [(0, (w32 (r79 + 1)))]) (st := []) (by decide +kernel) cv_m7_layWaiting rfl rfl in_m7_layWaiting se_m7_layWaiting lk_7_210 rfl (by omega) (Nat.le_of_ble_eq_true rfl) h99 (fun M116 h117 => ?_)
            refine A_iload_n (i := 2) (f := 2) rfl (by decide +kernel) rfl ?_
            refine A_if_eq (off := 20) (tgt := 134) (by decide +kernel) (by omega) (fun hb => absurd hb (by decide)) (fun _ => ?_)
            refine A_aload_n (i := 0) (f := 0) (by omega) rfl (by decide +kernel) rfl ?_
            refine A_cVi (q := (RX7, TX7, 18)) (ci := 7) (o := ((2 : Nat) : Int)) (args := []) (st := []) (by decide +kernel) cv_m7_latestWaiting rfl rfl in_m7_latestWaiting se_m7_latestWaiting lk_7_222 rfl (by omega) (Nat.le_of_ble_eq_true rfl) h117 (fun r118 M119 _ h120 => ?_)
            refine A_cSi (args := [(0, r118)]) (st := []) (by decide +kernel) cv_m7_bindingOf st_m7_bindingOf lk_7_225 rfl (by omega) (Nat.le_of_ble_eq_true rfl) h120 (fun r121 M122 _ h123 => ?_)
            refine A_iconst (a := 4) (by decide +kernel) (by unfold in32; omega) ?_
            refine A_ic_ne (off := 9) (tgt := 134) (by decide +kernel) (by omega) (fun b124 => ?_) (fun b124 => ?_)
            · have h125 := h123.1 b124
              refine A_aload_n (i := 0) (f := 0) (by omega) rfl (by decide +kernel) rfl ?_
              refine A_iconst (a := 1) (by decide +kernel) (by unfold in32; omega) ?_
              refine B_putp (M' := (mset M122 2 10 1)) (q := (RX7, TX7, 18)) (ci := 7) (j := 11) (p := 10) (by decide +kernel) rfl (by decide) rfl (Or.inr ⟨rfl, rfl, by decide⟩) rfl fl_7_194 rfl ?_
              refine A_aload_n (i := 0) (f := 0) (by omega) rfl (by decide +kernel) rfl ?_
              refine A_cVi (q := (RX7, TX7, 18)) (ci := 7) (o := ((2 : Nat) : Int)) (args := []) (st := []) (by decide +kernel) cv_m7_countKnot rfl rfl in_m7_countKnot se_m7_countKnot lk_7_228 rfl (by omega) (Nat.le_of_ble_eq_true rfl) h125 (fun r127 M128 _ h129 => ?_)
              refine A_if_eq (off := 18) (tgt := 161) (by decide +kernel) (by omega) (fun b130 => ?_) (fun b130 => ?_)
              · have h131 := h129.1 b130
                refine A_iconst (a := 0) (by decide +kernel) (by unfold in32; omega) ?_
                exact A_ret ⟨by decide +kernel, Or.inr ⟨rfl, by decide⟩⟩ ⟨_, rfl, h131⟩
              · have h132 := h129.2 b130
                refine A_aload_n (i := 0) (f := 0) (by omega) rfl (by decide +kernel) rfl ?_
                refine A_aload_n (i := 0) (f := 0) (by omega) rfl (by decide +kernel) rfl ?_
                refine B_getp (v := (M128 2 17)) (q := (RX7, TX7, 18)) (ci := 7) (j := 17) (p := 17) (by decide +kernel) rfl (by decide) rfl (Or.inl rfl) fl_7_124 rfl ?_
                refine A_cVi (q := (RX7, TX7, 18)) (ci := 7) (o := ((2 : Nat) : Int)) (args := [(0, (M128 2 17))]) (st := []) (by decide +kernel) cv_m7_letWait rfl rfl in_m7_letWait se_m7_letWait lk_7_231 rfl (by omega) (Nat.le_of_ble_eq_true rfl) h132 (fun r133 M134 _ h135 => ?_)
                refine A_if_eq (off := 7) (tgt := 161) (by decide +kernel) (by omega) (fun b136 => ?_) (fun b136 => ?_)
                · have h137 := h135.1 b136
                  refine A_iconst (a := 0) (by decide +kernel) (by unfold in32; omega) ?_
                  exact A_ret ⟨by decide +kernel, Or.inr ⟨rfl, by decide⟩⟩ ⟨_, rfl, h137⟩
                · have h138 := h135.2 b136
                  refine A_iconst (a := 1) (by decide +kernel) (by unfold in32; omega) ?_
                  refine A_goto (off := 4) (tgt := 162) (by decide +kernel) (by omega) ?_
                  exact A_ret ⟨by decide +kernel, Or.inr ⟨rfl, by decide⟩⟩ ⟨_, rfl, h138⟩
            · have h126 := h123.2 (Decidable.not_not.mp b124)
              refine A_aload_n (i := 0) (f := 0) (by omega) rfl (by decide +kernel) rfl ?_
              refine A_iconst (a := 1) (by decide +kernel) (by unfold in32; omega) ?_
              refine A_cVi (q := (RX7, TX7, 18)) (ci := 7) (o := ((2 : Nat) : Int)) (args := [(0, 1)]) (st := []) (by decide +kernel) cv_m7_fail rfl rfl in_m7_fail se_m7_fail lk_7_118 rfl (by omega) (Nat.le_of_ble_eq_true rfl) h126 (fun r139 M140 _ h141 => ?_)
              exact A_ret ⟨by decide +kernel, Or.inr ⟨rfl, h141.1⟩⟩ ⟨_, rfl, h141.2⟩
        · have h96 := h84.2 (Decidable.not_not.mp b94)
          refine A_aload_n (i := 0) (f := 0) (by omega) rfl (by decide +kernel) rfl ?_
          refine B_getp (v := (M80 2 9)) (q := (RX7, TX7, 18)) (ci := 7) (j := 10) (p := 9) (by decide +kernel) rfl (by decide) rfl (Or.inl rfl) fl_7_191 rfl ?_
          refine A_if_le (off := 15) (tgt := 85) (by decide +kernel) (by omega) (fun b142 => ?_) (fun b142 => ?_)
          · have h143 := h96.1 b142
            refine A_iconst (a := 0) (by decide +kernel) (by unfold in32; omega) ?_
            exact A_ret ⟨by decide +kernel, Or.inr ⟨rfl, by decide⟩⟩ ⟨_, rfl, h143⟩
          · have h144 := h96.2 (Int.not_le.mp b142)
            refine A_aload_n (i := 0) (f := 0) (by omega) rfl (by decide +kernel) rfl ?_
            refine A_iconst (a := 1) (by decide +kernel) (by unfold in32; omega) ?_
            refine A_cVi (q := (RX7, TX7, 18)) (ci := 7) (o := ((2 : Nat) : Int)) (args := [(0, 1)]) (st := []) (by decide +kernel) cv_m7_fail rfl rfl in_m7_fail se_m7_fail lk_7_118 rfl (by omega) (Nat.le_of_ble_eq_true rfl) h144 (fun r145 M146 _ h147 => ?_)
            refine A_if_eq (off := 7) (tgt := 85) (by decide +kernel) (by omega) (fun b148 => ?_) (fun b148 => ?_)
            · have h149 := h147.1 b148
              refine A_iconst (a := 0) (by decide +kernel) (by unfold in32; omega) ?_
              exact A_ret ⟨by decide +kernel, Or.inr ⟨rfl, by decide⟩⟩ ⟨_, rfl, h149⟩
            · have h150 := h147.2 b148
              refine A_iconst (a := 1) (by decide +kernel) (by unfold in32; omega) ?_
              refine A_goto (off := 4) (tgt := 86) (by decide +kernel) (by omega) ?_
              exact A_ret ⟨by decide +kernel, Or.inr ⟨rfl, by decide⟩⟩ ⟨_, rfl, h150⟩
    · have h78 := h3.2 (Int.not_le.mp b76)
      refine A_aload_n (i := 0) (f := 0) (by omega) rfl (by decide +kernel) rfl ?_
      refine A_iconst (a := 1) (by decide +kernel) (by unfold in32; omega) ?_
      refine A_cVd (q := (RX7, TX7, 18)) (ci := 7) (o := ((2 : Nat) : Int)) (args := [(0, 1)]) (st := []) (by decide +kernel) cv_m7_layWaiting rfl rfl in_m7_layWaiting se_m7_layWaiting lk_7_210 rfl (by omega) (Nat.le_of_ble_eq_true rfl) h78 (fun M152 h153 => ?_)
      refine A_aload_n (i := 0) (f := 0) (by omega) rfl (by decide +kernel) rfl ?_
      refine A_dup (by decide +kernel) (by simp) ?_
      refine B_getp (v := (M152 2 8)) (q := (RX7, TX7, 18)) (ci := 7) (j := 9) (p := 8) (by decide +kernel) rfl (by decide) rfl (Or.inl rfl) fl_7_188 rfl ?_
      refine A_iconst (a := 1) (by decide +kernel) (by unfold in32; omega) ?_
      refine A_isub (by decide +kernel) ?_
      refine B_putp (M' := (mset M152 2 8 (w32 ((M152 2 8) - 1)))) (q := (RX7, TX7, 18)) (ci := 7) (j := 9) (p := 8) (by decide +kernel) rfl (by decide) rfl (Or.inl ⟨rfl, rfl⟩) rfl fl_7_188 rfl ?_
      refine A_aload_n (i := 0) (f := 0) (by omega) rfl (by decide +kernel) rfl ?_
      refine A_dup (by decide +kernel) (by simp) ?_
      refine B_getp (v := ((mset M152 2 8 (w32 ((M152 2 8) - 1))) 2 9)) (q := (RX7, TX7, 18)) (ci := 7) (j := 10) (p := 9) (by decide +kernel) rfl (by decide) rfl (Or.inl rfl) fl_7_191 rfl ?_
      refine A_iconst (a := 1) (by decide +kernel) (by unfold in32; omega) ?_
      refine A_isub (by decide +kernel) ?_
      refine B_putp (M' := (mset (mset M152 2 8 (w32 ((M152 2 8) - 1))) 2 9 (w32 (((mset M152 2 8 (w32 ((M152 2 8) - 1))) 2 9) - 1)))) (q := (RX7, TX7, 18)) (ci := 7) (j := 10) (p := 9) (by decide +kernel) rfl (by decide) rfl (Or.inl ⟨rfl, rfl⟩) rfl fl_7_191 rfl ?_
      refine A_iconst (a := 1) (by decide +kernel) (by unfold in32; omega) ?_
      exact A_ret ⟨by decide +kernel, Or.inr ⟨rfl, by decide⟩⟩ ⟨_, rfl, h153⟩
theorem q_7_takeOpen  {M : Mem} {P : Int → Mem → Prop} (h : (((M 2 9) < 8 → (CI m7_letWait 2 [(17, ((2 : Nat) : Int)), (0, 10030)] (mset M 2 9 (w32 ((M 2 9) + 1))) (fun r4 M5 => ((r4 = 0 ∨ r4 = 1) ∧ P r4 M5)))) ∧ (8 ≤ (M 2 9) → (CI m7_fail 1 [(17, ((2 : Nat) : Int)), (0, 2)] M (fun r7 M8 => ((r7 = 0 ∨ r7 = 1) ∧ P r7 M8)))))) : CI m7_takeOpen 3 [(17, ((2 : Nat) : Int))] M P := by
  refine CI_of (by decide +kernel) (Nat.le_of_ble_eq_true rfl) ?_
  show A m7_takeOpen 3 0 0 [(17, ((2 : Nat) : Int))] [] M (Ki P)
  refine A_aload_n (i := 0) (f := 0) (by omega) rfl (by decide +kernel) rfl ?_
  refine B_getp (v := (M 2 9)) (q := (RX7, TX7, 18)) (ci := 7) (j := 10) (p := 9) (by decide +kernel) rfl (by decide) rfl (Or.inl rfl) fl_7_191 rfl ?_
  refine A_bipush (a := 8) (by decide +kernel) (by unfold in32; omega) (by decide +kernel) ?_
  refine A_ic_lt (off := 9) (tgt := 15) (by decide +kernel) (by omega) (fun b1 => ?_) (fun b1 => ?_)
  · have h2 := h.1 b1
    refine A_aload_n (i := 0) (f := 0) (by omega) rfl (by decide +kernel) rfl ?_
    refine A_dup (by decide +kernel) (by simp) ?_
    refine B_getp (v := (M 2 9)) (q := (RX7, TX7, 18)) (ci := 7) (j := 10) (p := 9) (by decide +kernel) rfl (by decide) rfl (Or.inl rfl) fl_7_191 rfl ?_
    refine A_iconst (a := 1) (by decide +kernel) (by unfold in32; omega) ?_
    refine A_iadd (by decide +kernel) ?_
    refine B_putp (M' := (mset M 2 9 (w32 ((M 2 9) + 1)))) (q := (RX7, TX7, 18)) (ci := 7) (j := 10) (p := 9) (by decide +kernel) rfl (by decide) rfl (Or.inl ⟨rfl, rfl⟩) rfl fl_7_191 rfl ?_
    refine A_aload_n (i := 0) (f := 0) (by omega) rfl (by decide +kernel) rfl ?_
    refine A_sipush (a := 10030) (by decide +kernel) (by unfold in32; omega) (by decide +kernel) ?_
    refine A_cVi (q := (RX7, TX7, 18)) (ci := 7) (o := ((2 : Nat) : Int)) (args := [(0, 10030)]) (st := []) (by decide +kernel) cv_m7_letWait rfl rfl in_m7_letWait se_m7_letWait lk_7_231 rfl (by omega) (Nat.le_of_ble_eq_true rfl) h2 (fun r4 M5 _ h6 => ?_)
    exact A_ret ⟨by decide +kernel, Or.inr ⟨rfl, h6.1⟩⟩ ⟨_, rfl, h6.2⟩
  · have h3 := h.2 (Int.not_lt.mp b1)
    refine A_aload_n (i := 0) (f := 0) (by omega) rfl (by decide +kernel) rfl ?_
    refine A_iconst (a := 2) (by decide +kernel) (by unfold in32; omega) ?_
    refine A_cVi (q := (RX7, TX7, 18)) (ci := 7) (o := ((2 : Nat) : Int)) (args := [(0, 2)]) (st := []) (by decide +kernel) cv_m7_fail rfl rfl in_m7_fail se_m7_fail lk_7_118 rfl (by omega) (Nat.le_of_ble_eq_true rfl) h3 (fun r7 M8 _ h9 => ?_)
    exact A_ret ⟨by decide +kernel, Or.inr ⟨rfl, h9.1⟩⟩ ⟨_, rfl, h9.2⟩
theorem q_7_countKnot  {M : Mem} {P : Int → Mem → Prop} (h : (((M 9 5) < 64 → (P 1 (mset M 9 5 (w32 ((M 9 5) + 1))))) ∧ (64 ≤ (M 9 5) → (CI m7_fail 1 [(17, ((2 : Nat) : Int)), (0, 2)] M (fun r4 M5 => ((r4 = 0 ∨ r4 = 1) ∧ P r4 M5)))))) : CI m7_countKnot 2 [(17, ((2 : Nat) : Int))] M P := by
  refine CI_of (by decide +kernel) (Nat.le_of_ble_eq_true rfl) ?_
  show A m7_countKnot 2 0 0 [(17, ((2 : Nat) : Int))] [] M (Ki P)
  refine A_aload_n (i := 0) (f := 0) (by omega) rfl (by decide +kernel) rfl ?_
  refine B_getr (o' := ((5 : Nat) : Int)) (q := (RX7, TX7, 18)) (ci := 7) (j := 1) (by decide +kernel) rfl (by decide) rfl (by omega) fl_7_18 rfl ?_
  refine B_getr (o' := ((9 : Nat) : Int)) (q := (RX0, TX0, 9)) (ci := 0) (j := 5) (by decide +kernel) rfl (by decide) rfl (by omega) fl_7_197 rfl ?_
  refine B_getp (v := (M 9 5)) (q := (RX3, TX3, 6)) (ci := 3) (j := 5) (p := 5) (by decide +kernel) rfl (by decide) rfl (Or.inl rfl) fl_7_236 rfl ?_
  refine A_bipush (a := 64) (by decide +kernel) (by unfold in32; omega) (by decide +kernel) ?_
  refine A_ic_lt (off := 9) (tgt := 21) (by decide +kernel) (by omega) (fun b1 => ?_) (fun b1 => ?_)
  · have h2 := h.1 b1
    refine A_aload_n (i := 0) (f := 0) (by omega) rfl (by decide +kernel) rfl ?_
    refine B_getr (o' := ((5 : Nat) : Int)) (q := (RX7, TX7, 18)) (ci := 7) (j := 1) (by decide +kernel) rfl (by decide) rfl (by omega) fl_7_18 rfl ?_
    refine B_getr (o' := ((9 : Nat) : Int)) (q := (RX0, TX0, 9)) (ci := 0) (j := 5) (by decide +kernel) rfl (by decide) rfl (by omega) fl_7_197 rfl ?_
    refine A_dup (by decide +kernel) (by simp) ?_
    refine B_getp (v := (M 9 5)) (q := (RX3, TX3, 6)) (ci := 3) (j := 5) (p := 5) (by decide +kernel) rfl (by decide) rfl (Or.inl rfl) fl_7_236 rfl ?_
    refine A_iconst (a := 1) (by decide +kernel) (by unfold in32; omega) ?_
    refine A_iadd (by decide +kernel) ?_
    refine B_putp (M' := (mset M 9 5 (w32 ((M 9 5) + 1)))) (q := (RX3, TX3, 6)) (ci := 3) (j := 5) (p := 5) (by decide +kernel) rfl (by decide) rfl (Or.inl ⟨rfl, rfl⟩) rfl fl_7_236 rfl ?_
    refine A_iconst (a := 1) (by decide +kernel) (by unfold in32; omega) ?_
    exact A_ret ⟨by decide +kernel, Or.inr ⟨rfl, by decide⟩⟩ ⟨_, rfl, h2⟩
  · have h3 := h.2 (Int.not_lt.mp b1)
    refine A_aload_n (i := 0) (f := 0) (by omega) rfl (by decide +kernel) rfl ?_
    refine A_iconst (a := 2) (by decide +kernel) (by unfold in32; omega) ?_
    refine A_cVi (q := (RX7, TX7, 18)) (ci := 7) (o := ((2 : Nat) : Int)) (args := [(0, 2)]) (st := []) (by decide +kernel) cv_m7_fail rfl rfl in_m7_fail se_m7_fail lk_7_118 rfl (by omega) (Nat.le_of_ble_eq_true rfl) h3 (fun r4 M5 _ h6 => ?_)
    exact A_ret ⟨by decide +kernel, Or.inr ⟨rfl, h6.1⟩⟩ ⟨_, rfl, h6.2⟩
theorem q_7_letWait {x1 : Int} {M : Mem} {P : Int → Mem → Prop} (h : (CD m10_put 1 [(30, ((4 : Nat) : Int)), (0, (M 2 8)), (0, x1)] M (fun M2 => (P 1 (mset M2 2 8 (w32 ((M2 2 8) + 1))))))) : CI m7_letWait 2 [(17, ((2 : Nat) : Int)), (0, x1)] M P := by
  refine CI_of (by decide +kernel) (Nat.le_of_ble_eq_true rfl) ?_
  show A m7_letWait 2 0 0 [(17, ((2 : Nat) : Int)), (0, x1)] [] M (Ki P)
  refine A_aload_n (i := 0) (f := 0) (by omega) rfl (by decide +kernel) rfl ?_
  refine B_getr (o' := ((4 : Nat) : Int)) (q := (RX7, TX7, 18)) (ci := 7) (j := 8) (by decide +kernel) rfl (by decide) rfl (by omega) fl_7_43 rfl ?_
  refine A_aload_n (i := 0) (f := 0) (by omega) rfl (by decide +kernel) rfl ?_
  refine B_getp (v := (M 2 8)) (q := (RX7, TX7, 18)) (ci := 7) (j := 9) (p := 8) (by decide +kernel) rfl (by decide) rfl (Or.inl rfl) fl_7_188 rfl ?_
  refine A_iload_n (i := 1) (f := 1) rfl (by decide +kernel) rfl ?_
  refine A_cSNd (args := [(30, ((4 : Nat) : Int)), (0, (M 2 8)), (0, x1)]) (st := []) (by decide +kernel) cv_m10_put st_m10_put lk_7_50 rfl (by omega) (Nat.le_of_ble_eq_true rfl) h (fun M2 h3 => ?_)
  refine A_aload_n (i := 0) (f := 0) (by omega) rfl (by decide +kernel) rfl ?_
  refine A_dup (by decide +kernel) (by simp) ?_
  refine B_getp (v := (M2 2 8)) (q := (RX7, TX7, 18)) (ci := 7) (j := 9) (p := 8) (by decide +kernel) rfl (by decide) rfl (Or.inl rfl) fl_7_188 rfl ?_
  refine A_iconst (a := 1) (by decide +kernel) (by unfold in32; omega) ?_
  refine A_iadd (by decide +kernel) ?_
  refine B_putp (M' := (mset M2 2 8 (w32 ((M2 2 8) + 1)))) (q := (RX7, TX7, 18)) (ci := 7) (j := 9) (p := 8) (by decide +kernel) rfl (by decide) rfl (Or.inl ⟨rfl, rfl⟩) rfl fl_7_188 rfl ?_
  refine A_iconst (a := 1) (by decide +kernel) (by unfold in32; omega) ?_
  exact A_ret ⟨by decide +kernel, Or.inr ⟨rfl, by decide⟩⟩ ⟨_, rfl, h3⟩
theorem q_7_latestWaiting  {M : Mem} {P : Int → Mem → Prop} (h : (CI m10_at 1 [(30, ((4 : Nat) : Int)), (0, (w32 ((M 2 8) - 1)))] M (fun r1 M2 => (P r1 M2)))) : CI m7_latestWaiting 2 [(17, ((2 : Nat) : Int))] M P := by
  refine CI_of (by decide +kernel) (Nat.le_of_ble_eq_true rfl) ?_
  show A m7_latestWaiting 2 0 0 [(17, ((2 : Nat) : Int))] [] M (Ki P)
  refine A_aload_n (i := 0) (f := 0) (by omega) rfl (by decide +kernel) rfl ?_
  refine B_getr (o' := ((4 : Nat) : Int)) (q := (RX7, TX7, 18)) (ci := 7) (j := 8) (by decide +kernel) rfl (by decide) rfl (by omega) fl_7_43 rfl ?_
  refine A_aload_n (i := 0) (f := 0) (by omega) rfl (by decide +kernel) rfl ?_
  refine B_getp (v := (M 2 8)) (q := (RX7, TX7, 18)) (ci := 7) (j := 9) (p := 8) (by decide +kernel) rfl (by decide) rfl (Or.inl rfl) fl_7_188 rfl ?_
  refine A_iconst (a := 1) (by decide +kernel) (by unfold in32; omega) ?_
  refine A_isub (by decide +kernel) ?_
  refine A_cSNi (args := [(30, ((4 : Nat) : Int)), (0, (w32 ((M 2 8) - 1)))]) (st := []) (by decide +kernel) cv_m10_at st_m10_at lk_7_239 rfl (by omega) (Nat.le_of_ble_eq_true rfl) h (fun r1 M2 _ h3 => ?_)
  exact A_ret ⟨by decide +kernel, Or.inl rfl⟩ ⟨_, rfl, h3⟩
theorem r_7_layWaiting_0 {x1 : Int} {M : Mem} {P : Mem → Prop} (h : (((M 2 8) ≤ 0 → (P M)) ∧ (0 < (M 2 8) → (CI m7_latestWaiting 2 [(17, ((2 : Nat) : Int))] M (fun r4 M5 => (CI m7_bindingOf 1 [(0, r4)] M5 (fun r7 M8 => ((r7 < x1 → (P M8)) ∧ (x1 ≤ r7 → (CI m7_latestWaiting 2 [(17, ((2 : Nat) : Int))] M8 (fun r13 M14 => (CD m3_add 2 [(13, ((9 : Nat) : Int)), (0, r13)] M14 (fun M17 => A m7_layWaiting 3 0 0 [(17, ((2 : Nat) : Int)), (0, x1)] [] (mset M17 2 8 (w32 ((M17 2 8) - 1))) (Kd P)))))))))))))) : A m7_layWaiting 3 0 0 [(17, ((2 : Nat) : Int)), (0, x1)] [] M (Kd P) := by
  refine A_aload_n (i := 0) (f := 0) (by omega) rfl (by decide +kernel) rfl ?_
  refine B_getp (v := (M 2 8)) (q := (RX7, TX7, 18)) (ci := 7) (j := 9) (p := 8) (by decide +kernel) rfl (by decide) rfl (Or.inl rfl) fl_7_188 rfl ?_
  refine A_if_le (off := 41) (tgt := 45) (by decide +kernel) (by omega) (fun b1 => ?_) (fun b1 => ?_)
  · have h2 := h.1 b1
    exact A_ret ⟨by decide +kernel, rfl⟩ ⟨rfl, h2⟩
  · have h3 := h.2 (Int.not_le.mp b1)
    refine A_aload_n (i := 0) (f := 0) (by omega) rfl (by decide +kernel) rfl ?_
    refine A_cVi (q := (RX7, TX7, 18)) (ci := 7) (o := ((2 : Nat) : Int)) (args := []) (st := []) (by decide +kernel) cv_m7_latestWaiting rfl rfl in_m7_latestWaiting se_m7_latestWaiting lk_7_222 rfl (by omega) (Nat.le_of_ble_eq_true rfl) h3 (fun r4 M5 _ h6 => ?_)
    refine A_cSi (args := [(0, r4)]) (st := []) (by decide +kernel) cv_m7_bindingOf st_m7_bindingOf lk_7_225 rfl (by omega) (Nat.le_of_ble_eq_true rfl) h6 (fun r7 M8 _ h9 => ?_)
    refine A_iload_n (i := 1) (f := 1) rfl (by decide +kernel) rfl ?_
    refine A_ic_lt (off := 30) (tgt := 45) (by decide +kernel) (by omega) (fun b10 => ?_) (fun b10 => ?_)
    · have h11 := h9.1 b10
      exact A_ret ⟨by decide +kernel, rfl⟩ ⟨rfl, h11⟩
    · have h12 := h9.2 (Int.not_lt.mp b10)
      refine A_aload_n (i := 0) (f := 0) (by omega) rfl (by decide +kernel) rfl ?_
      refine B_getr (o' := ((5 : Nat) : Int)) (q := (RX7, TX7, 18)) (ci := 7) (j := 1) (by decide +kernel) rfl (by decide) rfl (by omega) fl_7_18 rfl ?_
      refine B_getr (o' := ((9 : Nat) : Int)) (q := (RX0, TX0, 9)) (ci := 0) (j := 5) (by decide +kernel) rfl (by decide) rfl (by omega) fl_7_197 rfl ?_
      refine A_aload_n (i := 0) (f := 0) (by omega) rfl (by decide +kernel) rfl ?_
      refine A_cVi (q := (RX7, TX7, 18)) (ci := 7) (o := ((2 : Nat) : Int)) (args := []) (st := [(13, ((9 : Nat) : Int))]) (by decide +kernel) cv_m7_latestWaiting rfl rfl in_m7_latestWaiting se_m7_latestWaiting lk_7_222 rfl (by omega) (Nat.le_of_ble_eq_true rfl) h12 (fun r13 M14 _ h15 => ?_)
      refine A_cVd (q := (RX3, TX3, 6)) (ci := 3) (o := ((9 : Nat) : Int)) (args := [(0, r13)]) (st := []) (by decide +kernel) cv_m3_add rfl rfl in_m3_add se_m3_add lk_7_234 rfl (by omega) (Nat.le_of_ble_eq_true rfl) h15 (fun M17 h18 => ?_)
      refine A_aload_n (i := 0) (f := 0) (by omega) rfl (by decide +kernel) rfl ?_
      refine A_dup (by decide +kernel) (by simp) ?_
      refine B_getp (v := (M17 2 8)) (q := (RX7, TX7, 18)) (ci := 7) (j := 9) (p := 8) (by decide +kernel) rfl (by decide) rfl (Or.inl rfl) fl_7_188 rfl ?_
      refine A_iconst (a := 1) (by decide +kernel) (by unfold in32; omega) ?_
      refine A_isub (by decide +kernel) ?_
      refine B_putp (M' := (mset M17 2 8 (w32 ((M17 2 8) - 1)))) (q := (RX7, TX7, 18)) (ci := 7) (j := 9) (p := 8) (by decide +kernel) rfl (by decide) rfl (Or.inl ⟨rfl, rfl⟩) rfl fl_7_188 rfl ?_
      refine A_goto (off := (-42)) (tgt := 0) (by decide +kernel) (by omega) ?_
      exact A_weak (lsub.keep (lsub.keep lsub.nil)) h18
theorem q_7_layWaiting {x1 : Int} {M : Mem} {P : Mem → Prop} (h : A m7_layWaiting 3 0 0 [(17, ((2 : Nat) : Int)), (0, x1)] [] M (Kd P)) : CD m7_layWaiting 3 [(17, ((2 : Nat) : Int)), (0, x1)] M P := CD_of (by decide +kernel) (Nat.le_of_ble_eq_true rfl) h
theorem q_7_bindingOf {x0 : Int} {M : Mem} {P : Int → Mem → Prop} (h : ((x0 = 10010 → (P 1 M)) ∧ ((x0 = 10011 → (P 2 M)) ∧ ((x0 = 10012 → (P 3 M)) ∧ ((x0 = 10013 → (P 4 M)) ∧ ((x0 = 10014 → (P 4 M)) ∧ ((x0 = 10015 → (P 4 M)) ∧ ((x0 = 10016 → (P 4 M)) ∧ ((x0 = 10017 → (P 4 M)) ∧ ((x0 = 10018 → (P 4 M)) ∧ ((x0 = 10019 → (P 5 M)) ∧ ((x0 = 10020 → (P 5 M)) ∧ ((x0 = 10021 → (P 6 M)) ∧ ((x0 = 10022 → (P 6 M)) ∧ ((x0 < 10010 ∨ 10022 < x0) → (P 0 M)))))))))))))))) : CI m7_bindingOf 1 [(0, x0)] M P := by
  refine CI_of (by decide +kernel) (Nat.le_of_ble_eq_true rfl) ?_
  show A m7_bindingOf 1 0 0 [(0, x0)] [] M (Ki P)
  refine A_iload_n (i := 0) (f := 0) rfl (by decide +kernel) rfl ?_
  have hsw : x0 = 10010 ∨ x0 = 10011 ∨ x0 = 10012 ∨ x0 = 10013 ∨ x0 = 10014 ∨ x0 = 10015 ∨ x0 = 10016 ∨ x0 = 10017 ∨ x0 = 10018 ∨ x0 = 10019 ∨ x0 = 10020 ∨ x0 = 10021 ∨ x0 = 10022 ∨ (x0 < 10010 ∨ 10022 < x0) := by omega
  rcases hsw with e1 | e1 | e1 | e1 | e1 | e1 | e1 | e1 | e1 | e1 | e1 | e1 | e1 | e1
  · have h2 := h.1 e1
    refine A_tin (len := 67) (dflt := 80) (lo := 10010) (hi := 10022) (offs := #[67, 69, 71, 73, 73, 73, 73, 73, 73, 75, 75, 77, 77]) (off := 67) (tgt := 68) (by decide +kernel) (by omega) (by omega) (by rw [e1]; rfl) (by omega) ?_
    refine A_iconst (a := 1) (by decide +kernel) (by unfold in32; omega) ?_
    exact A_ret ⟨by decide +kernel, Or.inl rfl⟩ ⟨_, rfl, h2⟩
  · have h3 := h.2.1 e1
    refine A_tin (len := 67) (dflt := 80) (lo := 10010) (hi := 10022) (offs := #[67, 69, 71, 73, 73, 73, 73, 73, 73, 75, 75, 77, 77]) (off := 69) (tgt := 70) (by decide +kernel) (by omega) (by omega) (by rw [e1]; rfl) (by omega) ?_
    refine A_iconst (a := 2) (by decide +kernel) (by unfold in32; omega) ?_
    exact A_ret ⟨by decide +kernel, Or.inl rfl⟩ ⟨_, rfl, h3⟩
  · have h4 := h.2.2.1 e1
    refine A_tin (len := 67) (dflt := 80) (lo := 10010) (hi := 10022) (offs := #[67, 69, 71, 73, 73, 73, 73, 73, 73, 75, 75, 77, 77]) (off := 71) (tgt := 72) (by decide +kernel) (by omega) (by omega) (by rw [e1]; rfl) (by omega) ?_
    refine A_iconst (a := 3) (by decide +kernel) (by unfold in32; omega) ?_
    exact A_ret ⟨by decide +kernel, Or.inl rfl⟩ ⟨_, rfl, h4⟩
  · have h5 := h.2.2.2.1 e1
    refine A_tin (len := 67) (dflt := 80) (lo := 10010) (hi := 10022) (offs := #[67, 69, 71, 73, 73, 73, 73, 73, 73, 75, 75, 77, 77]) (off := 73) (tgt := 74) (by decide +kernel) (by omega) (by omega) (by rw [e1]; rfl) (by omega) ?_
    refine A_iconst (a := 4) (by decide +kernel) (by unfold in32; omega) ?_
    exact A_ret ⟨by decide +kernel, Or.inl rfl⟩ ⟨_, rfl, h5⟩
  · have h6 := h.2.2.2.2.1 e1
    refine A_tin (len := 67) (dflt := 80) (lo := 10010) (hi := 10022) (offs := #[67, 69, 71, 73, 73, 73, 73, 73, 73, 75, 75, 77, 77]) (off := 73) (tgt := 74) (by decide +kernel) (by omega) (by omega) (by rw [e1]; rfl) (by omega) ?_
    refine A_iconst (a := 4) (by decide +kernel) (by unfold in32; omega) ?_
    exact A_ret ⟨by decide +kernel, Or.inl rfl⟩ ⟨_, rfl, h6⟩
  · have h7 := h.2.2.2.2.2.1 e1
    refine A_tin (len := 67) (dflt := 80) (lo := 10010) (hi := 10022) (offs := #[67, 69, 71, 73, 73, 73, 73, 73, 73, 75, 75, 77, 77]) (off := 73) (tgt := 74) (by decide +kernel) (by omega) (by omega) (by rw [e1]; rfl) (by omega) ?_
    refine A_iconst (a := 4) (by decide +kernel) (by unfold in32; omega) ?_
    exact A_ret ⟨by decide +kernel, Or.inl rfl⟩ ⟨_, rfl, h7⟩
  · have h8 := h.2.2.2.2.2.2.1 e1
    refine A_tin (len := 67) (dflt := 80) (lo := 10010) (hi := 10022) (offs := #[67, 69, 71, 73, 73, 73, 73, 73, 73, 75, 75, 77, 77]) (off := 73) (tgt := 74) (by decide +kernel) (by omega) (by omega) (by rw [e1]; rfl) (by omega) ?_
    refine A_iconst (a := 4) (by decide +kernel) (by unfold in32; omega) ?_
    exact A_ret ⟨by decide +kernel, Or.inl rfl⟩ ⟨_, rfl, h8⟩
  · have h9 := h.2.2.2.2.2.2.2.1 e1
    refine A_tin (len := 67) (dflt := 80) (lo := 10010) (hi := 10022) (offs := #[67, 69, 71, 73, 73, 73, 73, 73, 73, 75, 75, 77, 77]) (off := 73) (tgt := 74) (by decide +kernel) (by omega) (by omega) (by rw [e1]; rfl) (by omega) ?_
    refine A_iconst (a := 4) (by decide +kernel) (by unfold in32; omega) ?_
    exact A_ret ⟨by decide +kernel, Or.inl rfl⟩ ⟨_, rfl, h9⟩
  · have h10 := h.2.2.2.2.2.2.2.2.1 e1
    refine A_tin (len := 67) (dflt := 80) (lo := 10010) (hi := 10022) (offs := #[67, 69, 71, 73, 73, 73, 73, 73, 73, 75, 75, 77, 77]) (off := 73) (tgt := 74) (by decide +kernel) (by omega) (by omega) (by rw [e1]; rfl) (by omega) ?_
    refine A_iconst (a := 4) (by decide +kernel) (by unfold in32; omega) ?_
    exact A_ret ⟨by decide +kernel, Or.inl rfl⟩ ⟨_, rfl, h10⟩
  · have h11 := h.2.2.2.2.2.2.2.2.2.1 e1
    refine A_tin (len := 67) (dflt := 80) (lo := 10010) (hi := 10022) (offs := #[67, 69, 71, 73, 73, 73, 73, 73, 73, 75, 75, 77, 77]) (off := 75) (tgt := 76) (by decide +kernel) (by omega) (by omega) (by rw [e1]; rfl) (by omega) ?_
    refine A_iconst (a := 5) (by decide +kernel) (by unfold in32; omega) ?_
    exact A_ret ⟨by decide +kernel, Or.inl rfl⟩ ⟨_, rfl, h11⟩
  · have h12 := h.2.2.2.2.2.2.2.2.2.2.1 e1
    refine A_tin (len := 67) (dflt := 80) (lo := 10010) (hi := 10022) (offs := #[67, 69, 71, 73, 73, 73, 73, 73, 73, 75, 75, 77, 77]) (off := 75) (tgt := 76) (by decide +kernel) (by omega) (by omega) (by rw [e1]; rfl) (by omega) ?_
    refine A_iconst (a := 5) (by decide +kernel) (by unfold in32; omega) ?_
    exact A_ret ⟨by decide +kernel, Or.inl rfl⟩ ⟨_, rfl, h12⟩
  · have h13 := h.2.2.2.2.2.2.2.2.2.2.2.1 e1
    refine A_tin (len := 67) (dflt := 80) (lo := 10010) (hi := 10022) (offs := #[67, 69, 71, 73, 73, 73, 73, 73, 73, 75, 75, 77, 77]) (off := 77) (tgt := 78) (by decide +kernel) (by omega) (by omega) (by rw [e1]; rfl) (by omega) ?_
    refine A_bipush (a := 6) (by decide +kernel) (by unfold in32; omega) (by decide +kernel) ?_
    exact A_ret ⟨by decide +kernel, Or.inl rfl⟩ ⟨_, rfl, h13⟩
  · have h14 := h.2.2.2.2.2.2.2.2.2.2.2.2.1 e1
    refine A_tin (len := 67) (dflt := 80) (lo := 10010) (hi := 10022) (offs := #[67, 69, 71, 73, 73, 73, 73, 73, 73, 75, 75, 77, 77]) (off := 77) (tgt := 78) (by decide +kernel) (by omega) (by omega) (by rw [e1]; rfl) (by omega) ?_
    refine A_bipush (a := 6) (by decide +kernel) (by unfold in32; omega) (by decide +kernel) ?_
    exact A_ret ⟨by decide +kernel, Or.inl rfl⟩ ⟨_, rfl, h14⟩
  · have h15 := h.2.2.2.2.2.2.2.2.2.2.2.2.2 e1
    refine A_tout (len := 67) (dflt := 80) (lo := 10010) (hi := 10022) (offs := #[67, 69, 71, 73, 73, 73, 73, 73, 73, 75, 75, 77, 77]) (tgt := 81) (by decide +kernel) e1 (by omega) ?_
    refine A_iconst (a := 0) (by decide +kernel) (by unfold in32; omega) ?_
    exact A_ret ⟨by decide +kernel, Or.inl rfl⟩ ⟨_, rfl, h15⟩
theorem r_7_next_0  {M : Mem} {P : Mem → Prop} (h : (((M 2 12) ≤ (M 2 13) → ((((mset (mset (mset M 2 14 (M 2 13)) 2 16 0) 2 17 (-1)) 2 13) < ((mset (mset (mset M 2 14 (M 2 13)) 2 16 0) 2 17 (-1)) 2 12) → (CI m10_at 1 [(30, ((1 : Nat) : Int)), (0, ((mset (mset (mset M 2 14 (M 2 13)) 2 16 0) 2 17 (-1)) 2 13))] (mset (mset (mset M 2 14 (M 2 13)) 2 16 0) 2 17 (-1)) (fun r7 M8 => (CI m7_isLetter 1 [(0, r7)] M8 (fun r10 M11 => ((r10 = 0 → (CI m7_isDigit 1 [(0, r7)] M11 (fun r16 M17 => ((r16 = 0 → (CD m7_scanSign 2 [(17, ((2 : Nat) : Int)), (0, r7)] M17 (fun M23 => (P M23)))) ∧ (r16 ≠ 0 → (CD m7_scanNumber 2 [(17, ((2 : Nat) : Int))] M17 (fun M26 => (P M26)))))))) ∧ (r10 ≠ 0 → (CD m7_scanWord 2 [(17, ((2 : Nat) : Int))] M11 (fun M29 => (P M29)))))))))) ∧ (((mset (mset (mset M 2 14 (M 2 13)) 2 16 0) 2 17 (-1)) 2 12) ≤ ((mset (mset (mset M 2 14 (M 2 13)) 2 16 0) 2 17 (-1)) 2 13) → (P (mset (mset (mset (mset M 2 14 (M 2 13)) 2 16 0) 2 17 (-1)) 2 15 0))))) ∧ ((M 2 13) < (M 2 12) → (CI m10_at 1 [(30, ((1 : Nat) : Int)), (0, (M 2 13))] M (fun r31 M32 => (CI m7_isBlank 1 [(0, r31)] M32 (fun r34 M35 => ((r34 = 0 → ((((mset (mset (mset M35 2 14 (M35 2 13)) 2 16 0) 2 17 (-1)) 2 13) < ((mset (mset (mset M35 2 14 (M35 2 13)) 2 16 0) 2 17 (-1)) 2 12) → (CI m10_at 1 [(30, ((1 : Nat) : Int)), (0, ((mset (mset (mset M35 2 14 (M35 2 13)) 2 16 0) 2 17 (-1)) 2 13))] (mset (mset (mset M35 2 14 (M35 2 13)) 2 16 0) 2 17 (-1)) (fun r43 M44 => (CI m7_isLetter 1 [(0, r43)] M44 (fun r46 M47 => ((r46 = 0 → (CI m7_isDigit 1 [(0, r43)] M47 (fun r52 M53 => ((r52 = 0 → (CD m7_scanSign 2 [(17, ((2 : Nat) : Int)), (0, r43)] M53 (fun M59 => (P M59)))) ∧ (r52 ≠ 0 → (CD m7_scanNumber 2 [(17, ((2 : Nat) : Int))] M53 (fun M62 => (P M62)))))))) ∧ (r46 ≠ 0 → (CD m7_scanWord 2 [(17, ((2 : Nat) : Int))] M47 (fun M65 => (P M65)))))))))) ∧ (((mset (mset (mset M35 2 14 (M35 2 13)) 2 16 0) 2 17 (-1)) 2 12) ≤ ((mset (mset (mset M35 2 14 (M35 2 13)) 2 16 0) 2 17 (-1)) 2 13) → (P (mset (mset (mset (mset M35 2 14 (M35 2 13)) 2 16 0) 2 17 (-1)) 2 15 0))))) ∧ (r34 ≠ 0 → A m7_next 3 0 0 [(17, ((2 : Nat) : Int)), (2, 0)] [] (mset M35 2 13 (w32 ((M35 2 13) + 1))) (Kd P)))))))))) : A m7_next 3 0 0 [(17, ((2 : Nat) : Int)), (2, 0)] [] M (Kd P) := by
  refine A_aload_n (i := 0) (f := 0) (by omega) rfl (by decide +kernel) rfl ?_
  refine B_getp (v := (M 2 13)) (q := (RX7, TX7, 18)) (ci := 7) (j := 13) (p := 13) (by decide +kernel) rfl (by decide) rfl (Or.inl rfl) fl_7_78 rfl ?_
  refine A_aload_n (i := 0) (f := 0) (by omega) rfl (by decide +kernel) rfl ?_
  refine B_getp (v := (M 2 12)) (q := (RX7, TX7, 18)) (ci := 7) (j := 12) (p := 12) (by decide +kernel) rfl (by decide) rfl (Or.inl rfl) fl_7_76 rfl ?_
  refine A_ic_ge (off := 33) (tgt := 41) (by decide +kernel) (by omega) (fun b1 => ?_) (fun b1 => ?_)
  · have h2 := h.1 b1
    refine A_aload_n (i := 0) (f := 0) (by omega) rfl (by decide +kernel) rfl ?_
    refine A_aload_n (i := 0) (f := 0) (by omega) rfl (by decide +kernel) rfl ?_
    refine B_getp (v := (M 2 13)) (q := (RX7, TX7, 18)) (ci := 7) (j := 13) (p := 13) (by decide +kernel) rfl (by decide) rfl (Or.inl rfl) fl_7_78 rfl ?_
    refine B_putp (M' := (mset M 2 14 (M 2 13))) (q := (RX7, TX7, 18)) (ci := 7) (j := 14) (p := 14) (by decide +kernel) rfl (by decide) rfl (Or.inl ⟨rfl, rfl⟩) rfl fl_7_149 rfl ?_
    refine A_aload_n (i := 0) (f := 0) (by omega) rfl (by decide +kernel) rfl ?_
    refine A_iconst (a := 0) (by decide +kernel) (by unfold in32; omega) ?_
    refine B_putp (M' := (mset (mset M 2 14 (M 2 13)) 2 16 0)) (q := (RX7, TX7, 18)) (ci := 7) (j := 16) (p := 16) (by decide +kernel) rfl (by decide) rfl (Or.inl ⟨rfl, rfl⟩) rfl fl_7_87 rfl ?_
    refine A_aload_n (i := 0) (f := 0) (by omega) rfl (by decide +kernel) rfl ?_
    refine A_iconst (a := (-1)) (by decide +kernel) (by unfold in32; omega) ?_
    refine B_putp (M' := (mset (mset (mset M 2 14 (M 2 13)) 2 16 0) 2 17 (-1))) (q := (RX7, TX7, 18)) (ci := 7) (j := 17) (p := 17) (by decide +kernel) rfl (by decide) rfl (Or.inl ⟨rfl, rfl⟩) rfl fl_7_124 rfl ?_
    refine A_aload_n (i := 0) (f := 0) (by omega) rfl (by decide +kernel) rfl ?_
    refine B_getp (v := ((mset (mset (mset M 2 14 (M 2 13)) 2 16 0) 2 17 (-1)) 2 13)) (q := (RX7, TX7, 18)) (ci := 7) (j := 13) (p := 13) (by decide +kernel) rfl (by decide) rfl (Or.inl rfl) fl_7_78 rfl ?_
    refine A_aload_n (i := 0) (f := 0) (by omega) rfl (by decide +kernel) rfl ?_
    refine B_getp (v := ((mset (mset (mset M 2 14 (M 2 13)) 2 16 0) 2 17 (-1)) 2 12)) (q := (RX7, TX7, 18)) (ci := 7) (j := 12) (p := 12) (by decide +kernel) rfl (by decide) rfl (Or.inl rfl) fl_7_76 rfl ?_
    refine A_ic_lt (off := 9) (tgt := 76) (by decide +kernel) (by omega) (fun b4 => ?_) (fun b4 => ?_)
    · have h5 := h2.1 b4
      refine A_aload_n (i := 0) (f := 0) (by omega) rfl (by decide +kernel) rfl ?_
      refine B_getr (o' := ((1 : Nat) : Int)) (q := (RX7, TX7, 18)) (ci := 7) (j := 0) (by decide +kernel) rfl (by decide) rfl (by omega) fl_7_9 rfl ?_
      refine A_aload_n (i := 0) (f := 0) (by omega) rfl (by decide +kernel) rfl ?_
      refine B_getp (v := ((mset (mset (mset M 2 14 (M 2 13)) 2 16 0) 2 17 (-1)) 2 13)) (q := (RX7, TX7, 18)) (ci := 7) (j := 13) (p := 13) (by decide +kernel) rfl (by decide) rfl (Or.inl rfl) fl_7_78 rfl ?_
      refine A_cSNi (args := [(30, ((1 : Nat) : Int)), (0, ((mset (mset (mset M 2 14 (M 2 13)) 2 16 0) 2 17 (-1)) 2 13))]) (st := []) (by decide +kernel) cv_m10_at st_m10_at lk_7_239 rfl (by omega) (Nat.le_of_ble_eq_true rfl) h5 (fun r7 M8 _ h9 => ?_)
      refine A_istore_n (i := 1) (f := 1) rfl (by decide +kernel) (by decide) (fun w h0 hw => by simp at hw; first | (rw [← hw]; decide) | (rw [← hw]; simp)) ?_
      refine A_iload_n (i := 1) (f := 1) rfl (by decide +kernel) rfl ?_
      refine A_cSi (args := [(0, r7)]) (st := []) (by decide +kernel) cv_m7_isLetter st_m7_isLetter lk_7_246 rfl (by omega) (Nat.le_of_ble_eq_true rfl) h9 (fun r10 M11 _ h12 => ?_)
      refine A_if_eq (off := 10) (tgt := 102) (by decide +kernel) (by omega) (fun b13 => ?_) (fun b13 => ?_)
      · have h14 := h12.1 b13
        refine A_iload_n (i := 1) (f := 1) rfl (by decide +kernel) rfl ?_
        refine A_cSi (args := [(0, r7)]) (st := []) (by decide +kernel) cv_m7_isDigit st_m7_isDigit lk_7_252 rfl (by omega) (Nat.le_of_ble_eq_true rfl) h14 (fun r16 M17 _ h18 => ?_)
        refine A_if_eq (off := 10) (tgt := 116) (by decide +kernel) (by omega) (fun b19 => ?_) (fun b19 => ?_)
        · have h20 := h18.1 b19
          refine A_aload_n (i := 0) (f := 0) (by omega) rfl (by decide +kernel) rfl ?_
          refine A_iload_n (i := 1) (f := 1) rfl (by decide +kernel) rfl ?_
          refine A_cVd (q := (RX7, TX7, 18)) (ci := 7) (o := ((2 : Nat) : Int)) (args := [(0, r7)]) (st := []) (by decide +kernel) cv_m7_scanSign rfl rfl in_m7_scanSign se_m7_scanSign lk_7_258 rfl (by omega) (Nat.le_of_ble_eq_true rfl) h20 (fun M23 h24 => ?_)
          exact A_ret ⟨by decide +kernel, rfl⟩ ⟨rfl, h24⟩
        · have h21 := h18.2 b19
          refine A_aload_n (i := 0) (f := 0) (by omega) rfl (by decide +kernel) rfl ?_
          refine A_cVd (q := (RX7, TX7, 18)) (ci := 7) (o := ((2 : Nat) : Int)) (args := []) (st := []) (by decide +kernel) cv_m7_scanNumber rfl rfl in_m7_scanNumber se_m7_scanNumber lk_7_255 rfl (by omega) (Nat.le_of_ble_eq_true rfl) h21 (fun M26 h27 => ?_)
          refine A_goto (off := 8) (tgt := 121) (by decide +kernel) (by omega) ?_
          exact A_ret ⟨by decide +kernel, rfl⟩ ⟨rfl, h27⟩
      · have h15 := h12.2 b13
        refine A_aload_n (i := 0) (f := 0) (by omega) rfl (by decide +kernel) rfl ?_
        refine A_cVd (q := (RX7, TX7, 18)) (ci := 7) (o := ((2 : Nat) : Int)) (args := []) (st := []) (by decide +kernel) cv_m7_scanWord rfl rfl in_m7_scanWord se_m7_scanWord lk_7_249 rfl (by omega) (Nat.le_of_ble_eq_true rfl) h15 (fun M29 h30 => ?_)
        refine A_goto (off := 22) (tgt := 121) (by decide +kernel) (by omega) ?_
        exact A_ret ⟨by decide +kernel, rfl⟩ ⟨rfl, h30⟩
    · have h6 := h2.2 (Int.not_lt.mp b4)
      refine A_aload_n (i := 0) (f := 0) (by omega) rfl (by decide +kernel) rfl ?_
      refine A_iconst (a := 0) (by decide +kernel) (by unfold in32; omega) ?_
      refine B_putp (M' := (mset (mset (mset (mset M 2 14 (M 2 13)) 2 16 0) 2 17 (-1)) 2 15 0)) (q := (RX7, TX7, 18)) (ci := 7) (j := 15) (p := 15) (by decide +kernel) rfl (by decide) rfl (Or.inl ⟨rfl, rfl⟩) rfl fl_7_84 rfl ?_
      exact A_ret ⟨by decide +kernel, rfl⟩ ⟨rfl, h6⟩
  · have h3 := h.2 (Int.not_le.mp b1)
    refine A_aload_n (i := 0) (f := 0) (by omega) rfl (by decide +kernel) rfl ?_
    refine B_getr (o' := ((1 : Nat) : Int)) (q := (RX7, TX7, 18)) (ci := 7) (j := 0) (by decide +kernel) rfl (by decide) rfl (by omega) fl_7_9 rfl ?_
    refine A_aload_n (i := 0) (f := 0) (by omega) rfl (by decide +kernel) rfl ?_
    refine B_getp (v := (M 2 13)) (q := (RX7, TX7, 18)) (ci := 7) (j := 13) (p := 13) (by decide +kernel) rfl (by decide) rfl (Or.inl rfl) fl_7_78 rfl ?_
    refine A_cSNi (args := [(30, ((1 : Nat) : Int)), (0, (M 2 13))]) (st := []) (by decide +kernel) cv_m10_at st_m10_at lk_7_239 rfl (by omega) (Nat.le_of_ble_eq_true rfl) h3 (fun r31 M32 _ h33 => ?_)
    refine A_cSi (args := [(0, r31)]) (st := []) (by decide +kernel) cv_m7_isBlank st_m7_isBlank lk_7_243 rfl (by omega) (Nat.le_of_ble_eq_true rfl) h33 (fun r34 M35 _ h36 => ?_)
    refine A_if_eq (off := 16) (tgt := 41) (by decide +kernel) (by omega) (fun b37 => ?_) (fun b37 => ?_)
    · have h38 := h36.1 b37
      refine A_aload_n (i := 0) (f := 0) (by omega) rfl (by decide +kernel) rfl ?_
      refine A_aload_n (i := 0) (f := 0) (by omega) rfl (by decide +kernel) rfl ?_
      refine B_getp (v := (M35 2 13)) (q := (RX7, TX7, 18)) (ci := 7) (j := 13) (p := 13) (by decide +kernel) rfl (by decide) rfl (Or.inl rfl) fl_7_78 rfl ?_
      refine B_putp (M' := (mset M35 2 14 (M35 2 13))) (q := (RX7, TX7, 18)) (ci := 7) (j := 14) (p := 14) (by decide +kernel) rfl (by decide) rfl (Or.inl ⟨rfl, rfl⟩) rfl fl_7_149 rfl ?_
      refine A_aload_n (i := 0) (f := 0) (by omega) rfl (by decide +kernel) rfl ?_
      refine A_iconst (a := 0) (by decide +kernel) (by unfold in32; omega) ?_
      refine B_putp (M' := (mset (mset M35 2 14 (M35 2 13)) 2 16 0)) (q := (RX7, TX7, 18)) (ci := 7) (j := 16) (p := 16) (by decide +kernel) rfl (by decide) rfl (Or.inl ⟨rfl, rfl⟩) rfl fl_7_87 rfl ?_
      refine A_aload_n (i := 0) (f := 0) (by omega) rfl (by decide +kernel) rfl ?_
      refine A_iconst (a := (-1)) (by decide +kernel) (by unfold in32; omega) ?_
      refine B_putp (M' := (mset (mset (mset M35 2 14 (M35 2 13)) 2 16 0) 2 17 (-1))) (q := (RX7, TX7, 18)) (ci := 7) (j := 17) (p := 17) (by decide +kernel) rfl (by decide) rfl (Or.inl ⟨rfl, rfl⟩) rfl fl_7_124 rfl ?_
      refine A_aload_n (i := 0) (f := 0) (by omega) rfl (by decide +kernel) rfl ?_
      refine B_getp (v := ((mset (mset (mset M35 2 14 (M35 2 13)) 2 16 0) 2 17 (-1)) 2 13)) (q := (RX7, TX7, 18)) (ci := 7) (j := 13) (p := 13) (by decide +kernel) rfl (by decide) rfl (Or.inl rfl) fl_7_78 rfl ?_
      refine A_aload_n (i := 0) (f := 0) (by omega) rfl (by decide +kernel) rfl ?_
      refine B_getp (v := ((mset (mset (mset M35 2 14 (M35 2 13)) 2 16 0) 2 17 (-1)) 2 12)) (q := (RX7, TX7, 18)) (ci := 7) (j := 12) (p := 12) (by decide +kernel) rfl (by decide) rfl (Or.inl rfl) fl_7_76 rfl ?_
      refine A_ic_lt (off := 9) (tgt := 76) (by decide +kernel) (by omega) (fun b40 => ?_) (fun b40 => ?_)
      · have h41 := h38.1 b40
        refine A_aload_n (i := 0) (f := 0) (by omega) rfl (by decide +kernel) rfl ?_
        refine B_getr (o' := ((1 : Nat) : Int)) (q := (RX7, TX7, 18)) (ci := 7) (j := 0) (by decide +kernel) rfl (by decide) rfl (by omega) fl_7_9 rfl ?_
        refine A_aload_n (i := 0) (f := 0) (by omega) rfl (by decide +kernel) rfl ?_
        refine B_getp (v := ((mset (mset (mset M35 2 14 (M35 2 13)) 2 16 0) 2 17 (-1)) 2 13)) (q := (RX7, TX7, 18)) (ci := 7) (j := 13) (p := 13) (by decide +kernel) rfl (by decide) rfl (Or.inl rfl) fl_7_78 rfl ?_
        refine A_cSNi (args := [(30, ((1 : Nat) : Int)), (0, ((mset (mset (mset M35 2 14 (M35 2 13)) 2 16 0) 2 17 (-1)) 2 13))]) (st := []) (by decide +kernel) cv_m10_at st_m10_at lk_7_239 rfl (by omega) (Nat.le_of_ble_eq_true rfl) h41 (fun r43 M44 _ h45 => ?_)
        refine A_istore_n (i := 1) (f := 1) rfl (by decide +kernel) (by decide) (fun w h0 hw => by simp at hw; first | (rw [← hw]; decide) | (rw [← hw]; simp)) ?_
        refine A_iload_n (i := 1) (f := 1) rfl (by decide +kernel) rfl ?_
        refine A_cSi (args := [(0, r43)]) (st := []) (by decide +kernel) cv_m7_isLetter st_m7_isLetter lk_7_246 rfl (by omega) (Nat.le_of_ble_eq_true rfl) h45 (fun r46 M47 _ h48 => ?_)
        refine A_if_eq (off := 10) (tgt := 102) (by decide +kernel) (by omega) (fun b49 => ?_) (fun b49 => ?_)
        · have h50 := h48.1 b49
          refine A_iload_n (i := 1) (f := 1) rfl (by decide +kernel) rfl ?_
          refine A_cSi (args := [(0, r43)]) (st := []) (by decide +kernel) cv_m7_isDigit st_m7_isDigit lk_7_252 rfl (by omega) (Nat.le_of_ble_eq_true rfl) h50 (fun r52 M53 _ h54 => ?_)
          refine A_if_eq (off := 10) (tgt := 116) (by decide +kernel) (by omega) (fun b55 => ?_) (fun b55 => ?_)
          · have h56 := h54.1 b55
            refine A_aload_n (i := 0) (f := 0) (by omega) rfl (by decide +kernel) rfl ?_
            refine A_iload_n (i := 1) (f := 1) rfl (by decide +kernel) rfl ?_
            refine A_cVd (q := (RX7, TX7, 18)) (ci := 7) (o := ((2 : Nat) : Int)) (args := [(0, r43)]) (st := []) (by decide +kernel) cv_m7_scanSign rfl rfl in_m7_scanSign se_m7_scanSign lk_7_258 rfl (by omega) (Nat.le_of_ble_eq_true rfl) h56 (fun M59 h60 => ?_)
            exact A_ret ⟨by decide +kernel, rfl⟩ ⟨rfl, h60⟩
          · have h57 := h54.2 b55
            refine A_aload_n (i := 0) (f := 0) (by omega) rfl (by decide +kernel) rfl ?_
            refine A_cVd (q := (RX7, TX7, 18)) (ci := 7) (o := ((2 : Nat) : Int)) (args := []) (st := []) (by decide +kernel) cv_m7_scanNumber rfl rfl in_m7_scanNumber se_m7_scanNumber lk_7_255 rfl (by omega) (Nat.le_of_ble_eq_true rfl) h57 (fun M62 h63 => ?_)
            refine A_goto (off := 8) (tgt := 121) (by decide +kernel) (by omega) ?_
            exact A_ret ⟨by decide +kernel, rfl⟩ ⟨rfl, h63⟩
        · have h51 := h48.2 b49
          refine A_aload_n (i := 0) (f := 0) (by omega) rfl (by decide +kernel) rfl ?_
          refine A_cVd (q := (RX7, TX7, 18)) (ci := 7) (o := ((2 : Nat) : Int)) (args := []) (st := []) (by decide +kernel) cv_m7_scanWord rfl rfl in_m7_scanWord se_m7_scanWord lk_7_249 rfl (by omega) (Nat.le_of_ble_eq_true rfl) h51 (fun M65 h66 => ?_)
          refine A_goto (off := 22) (tgt := 121) (by decide +kernel) (by omega) ?_
          exact A_ret ⟨by decide +kernel, rfl⟩ ⟨rfl, h66⟩
      · have h42 := h38.2 (Int.not_lt.mp b40)
        refine A_aload_n (i := 0) (f := 0) (by omega) rfl (by decide +kernel) rfl ?_
        refine A_iconst (a := 0) (by decide +kernel) (by unfold in32; omega) ?_
        refine B_putp (M' := (mset (mset (mset (mset M35 2 14 (M35 2 13)) 2 16 0) 2 17 (-1)) 2 15 0)) (q := (RX7, TX7, 18)) (ci := 7) (j := 15) (p := 15) (by decide +kernel) rfl (by decide) rfl (Or.inl ⟨rfl, rfl⟩) rfl fl_7_84 rfl ?_
        exact A_ret ⟨by decide +kernel, rfl⟩ ⟨rfl, h42⟩
    · have h39 := h36.2 b37
      refine A_aload_n (i := 0) (f := 0) (by omega) rfl (by decide +kernel) rfl ?_
      refine A_dup (by decide +kernel) (by simp) ?_
      refine B_getp (v := (M35 2 13)) (q := (RX7, TX7, 18)) (ci := 7) (j := 13) (p := 13) (by decide +kernel) rfl (by decide) rfl (Or.inl rfl) fl_7_78 rfl ?_
      refine A_iconst (a := 1) (by decide +kernel) (by unfold in32; omega) ?_
      refine A_iadd (by decide +kernel) ?_
      refine B_putp (M' := (mset M35 2 13 (w32 ((M35 2 13) + 1)))) (q := (RX7, TX7, 18)) (ci := 7) (j := 13) (p := 13) (by decide +kernel) rfl (by decide) rfl (Or.inl ⟨rfl, rfl⟩) rfl fl_7_78 rfl ?_
      refine A_goto (off := (-38)) (tgt := 0) (by decide +kernel) (by omega) ?_
      exact A_weak (lsub.keep (lsub.drop lsub.nil)) h39
theorem q_7_next  {M : Mem} {P : Mem → Prop} (h : A m7_next 3 0 0 [(17, ((2 : Nat) : Int)), (2, 0)] [] M (Kd P)) : CD m7_next 3 [(17, ((2 : Nat) : Int))] M P := CD_of (by decide +kernel) (Nat.le_of_ble_eq_true rfl) h
theorem q_7_scanWord  {M : Mem} {P : Mem → Prop} (h : A m7_scanWord 2 0 2 [(17, ((2 : Nat) : Int)), (0, 0), (2, 0)] [] M (Kd P)) : CD m7_scanWord 2 [(17, ((2 : Nat) : Int))] M P := by
  refine CD_of (by decide +kernel) (Nat.le_of_ble_eq_true rfl) ?_
  show A m7_scanWord 2 0 0 [(17, ((2 : Nat) : Int)), (2, 0), (2, 0)] [] M (Kd P)
  refine A_iconst (a := 0) (by decide +kernel) (by unfold in32; omega) ?_
  refine A_istore_n (i := 1) (f := 1) rfl (by decide +kernel) (by decide) (fun w h0 hw => by simp at hw; first | (rw [← hw]; decide) | (rw [← hw]; simp)) ?_
  exact A_weak (lsub.keep (lsub.keep (lsub.drop lsub.nil))) h
theorem r_7_scanWord_2 {x1 : Int} {M : Mem} {P : Mem → Prop} (h : (((M 2 12) ≤ (M 2 13) → (((w32 ((M 2 13) - (M 2 14))) ≤ 6 → (CI m7_languageWord 1 [(17, ((2 : Nat) : Int)), (0, ((mset (mset M 2 15 1) 2 16 (ishl x1 (w32 (5 * (w32 (6 - (w32 ((M 2 13) - (M 2 14))))))))) 2 16))] (mset (mset M 2 15 1) 2 16 (ishl x1 (w32 (5 * (w32 (6 - (w32 ((M 2 13) - (M 2 14))))))))) (fun r7 M8 => (CI m7_knotOfWord 1 [(0, r7)] M8 (fun r10 M11 => (P (mset M11 2 17 r10))))))) ∧ (6 < (w32 ((M 2 13) - (M 2 14))) → (P (mset M 2 15 3))))) ∧ ((M 2 13) < (M 2 12) → (CI m10_at 1 [(30, ((1 : Nat) : Int)), (0, (M 2 13))] M (fun r13 M14 => (CI m7_isLetter 1 [(0, r13)] M14 (fun r16 M17 => ((r16 = 0 → (((w32 ((M17 2 13) - (M17 2 14))) ≤ 6 → (CI m7_languageWord 1 [(17, ((2 : Nat) : Int)), (0, ((mset (mset M17 2 15 1) 2 16 (ishl x1 (w32 (5 * (w32 (6 - (w32 ((M17 2 13) - (M17 2 14))))))))) 2 16))] (mset (mset M17 2 15 1) 2 16 (ishl x1 (w32 (5 * (w32 (6 - (w32 ((M17 2 13) - (M17 2 14))))))))) (fun r25 M26 => (CI m7_knotOfWord 1 [(0, r25)] M26 (fun r28 M29 => (P (mset M29 2 17 r28))))))) ∧ (6 < (w32 ((M17 2 13) - (M17 2 14))) → (P (mset M17 2 15 3))))) ∧ (r16 ≠ 0 → (CI m10_at 1 [(30, ((1 : Nat) : Int)), (0, (M17 2 13))] M17 (fun r31 M32 => A m7_scanWord 2 0 2 [(17, ((2 : Nat) : Int)), (0, (ior (ishl x1 5) (w32 ((w32 (r31 - 97)) + 1)))), (2, 0)] [] (mset M32 2 13 (w32 ((M32 2 13) + 1))) (Kd P)))))))))))) : A m7_scanWord 2 0 2 [(17, ((2 : Nat) : Int)), (0, x1), (2, 0)] [] M (Kd P) := by
  refine A_aload_n (i := 0) (f := 0) (by omega) rfl (by decide +kernel) rfl ?_
  refine B_getp (v := (M 2 13)) (q := (RX7, TX7, 18)) (ci := 7) (j := 13) (p := 13) (by decide +kernel) rfl (by decide) rfl (Or.inl rfl) fl_7_78 rfl ?_
  refine A_aload_n (i := 0) (f := 0) (by omega) rfl (by decide +kernel) rfl ?_
  refine B_getp (v := (M 2 12)) (q := (RX7, TX7, 18)) (ci := 7) (j := 12) (p := 12) (by decide +kernel) rfl (by decide) rfl (Or.inl rfl) fl_7_76 rfl ?_
  refine A_ic_ge (off := 54) (tgt := 64) (by decide +kernel) (by omega) (fun b1 => ?_) (fun b1 => ?_)
  · have h2 := h.1 b1
    refine A_aload_n (i := 0) (f := 0) (by omega) rfl (by decide +kernel) rfl ?_
    refine B_getp (v := (M 2 13)) (q := (RX7, TX7, 18)) (ci := 7) (j := 13) (p := 13) (by decide +kernel) rfl (by decide) rfl (Or.inl rfl) fl_7_78 rfl ?_
    refine A_aload_n (i := 0) (f := 0) (by omega) rfl (by decide +kernel) rfl ?_
    refine B_getp (v := (M 2 14)) (q := (RX7, TX7, 18)) (ci := 7) (j := 14) (p := 14) (by decide +kernel) rfl (by decide) rfl (Or.inl rfl) fl_7_149 rfl ?_
    refine A_isub (by decide +kernel) ?_
    refine A_istore_n (i := 2) (f := 2) rfl (by decide +kernel) (by decide) (fun w h0 hw => by simp at hw; first | (rw [← hw]; decide) | (rw [← hw]; simp)) ?_
    refine A_iload_n (i := 2) (f := 2) rfl (by decide +kernel) rfl ?_
    refine A_bipush (a := 6) (by decide +kernel) (by unfold in32; omega) (by decide +kernel) ?_
    refine A_ic_le (off := 9) (tgt := 86) (by decide +kernel) (by omega) (fun b4 => ?_) (fun b4 => ?_)
    · have h5 := h2.1 b4
      refine A_aload_n (i := 0) (f := 0) (by omega) rfl (by decide +kernel) rfl ?_
      refine A_iconst (a := 1) (by decide +kernel) (by unfold in32; omega) ?_
      refine B_putp (M' := (mset M 2 15 1)) (q := (RX7, TX7, 18)) (ci := 7) (j := 15) (p := 15) (by decide +kernel) rfl (by decide) rfl (Or.inl ⟨rfl, rfl⟩) rfl fl_7_84 rfl ?_
      refine A_aload_n (i := 0) (f := 0) (by omega) rfl (by decide +kernel) rfl ?_
      refine A_iload_n (i := 1) (f := 1) rfl (by decide +kernel) rfl ?_
      refine A_iconst (a := 5) (by decide +kernel) (by unfold in32; omega) ?_
      refine A_bipush (a := 6) (by decide +kernel) (by unfold in32; omega) (by decide +kernel) ?_
      refine A_iload_n (i := 2) (f := 2) rfl (by decide +kernel) rfl ?_
      refine A_isub (by decide +kernel) ?_
      refine A_imul (by decide +kernel) ?_
      refine A_ishl (by decide +kernel) ?_
      refine B_putp (M' := (mset (mset M 2 15 1) 2 16 (ishl x1 (w32 (5 * (w32 (6 - (w32 ((M 2 13) - (M 2 14)))))))))) (q := (RX7, TX7, 18)) (ci := 7) (j := 16) (p := 16) (by decide +kernel) rfl (by decide) rfl (Or.inl ⟨rfl, rfl⟩) rfl fl_7_87 rfl ?_
      refine A_aload_n (i := 0) (f := 0) (by omega) rfl (by decide +kernel) rfl ?_
      refine A_aload_n (i := 0) (f := 0) (by omega) rfl (by decide +kernel) rfl ?_
      refine A_aload_n (i := 0) (f := 0) (by omega) rfl (by decide +kernel) rfl ?_
      refine B_getp (v := ((mset (mset M 2 15 1) 2 16 (ishl x1 (w32 (5 * (w32 (6 - (w32 ((M 2 13) - (M 2 14))))))))) 2 16)) (q := (RX7, TX7, 18)) (ci := 7) (j := 16) (p := 16) (by decide +kernel) rfl (by decide) rfl (Or.inl rfl) fl_7_87 rfl ?_
      refine A_cVi (q := (RX7, TX7, 18)) (ci := 7) (o := ((2 : Nat) : Int)) (args := [(0, ((mset (mset M 2 15 1) 2 16 (ishl x1 (w32 (5 * (w32 (6 - (w32 ((M 2 13) - (M 2 14))))))))) 2 16))]) (st := [(17, ((2 : Nat) : Int))]) (by decide +kernel) cv_m7_languageWord rfl rfl in_m7_languageWord se_m7_languageWord lk_7_90 rfl (by omega) (Nat.le_of_ble_eq_true rfl) h5 (fun r7 M8 _ h9 => ?_)
      refine A_cSi (args := [(0, r7)]) (st := [(17, ((2 : Nat) : Int))]) (by decide +kernel) cv_m7_knotOfWord st_m7_knotOfWord lk_7_261 rfl (by omega) (Nat.le_of_ble_eq_true rfl) h9 (fun r10 M11 _ h12 => ?_)
      refine B_putp (M' := (mset M11 2 17 r10)) (q := (RX7, TX7, 18)) (ci := 7) (j := 17) (p := 17) (by decide +kernel) rfl (by decide) rfl (Or.inl ⟨rfl, rfl⟩) rfl fl_7_124 rfl ?_
      exact A_ret ⟨by decide +kernel, rfl⟩ ⟨rfl, h12⟩
    · have h6 := h2.2 (Int.not_le.mp b4)
      refine A_aload_n (i := 0) (f := 0) (by omega) rfl (by decide +kernel) rfl ?_
      refine A_iconst (a := 3) (by decide +kernel) (by unfold in32; omega) ?_
      refine B_putp (M' := (mset M 2 15 3)) (q := (RX7, TX7, 18)) (ci := 7) (j := 15) (p := 15) (by decide +kernel) rfl (by decide) rfl (Or.inl ⟨rfl, rfl⟩) rfl fl_7_84 rfl ?_
      exact A_ret ⟨by decide +kernel, rfl⟩ ⟨rfl, h6⟩
  · have h3 := h.2 (Int.not_le.mp b1)
    refine A_aload_n (i := 0) (f := 0) (by omega) rfl (by decide +kernel) rfl ?_
    refine B_getr (o' := ((1 : Nat) : Int)) (q := (RX7, TX7, 18)) (ci := 7) (j := 0) (by decide +kernel) rfl (by decide) rfl (by omega) fl_7_9 rfl ?_
    refine A_aload_n (i := 0) (f := 0) (by omega) rfl (by decide +kernel) rfl ?_
    refine B_getp (v := (M 2 13)) (q := (RX7, TX7, 18)) (ci := 7) (j := 13) (p := 13) (by decide +kernel) rfl (by decide) rfl (Or.inl rfl) fl_7_78 rfl ?_
    refine A_cSNi (args := [(30, ((1 : Nat) : Int)), (0, (M 2 13))]) (st := []) (by decide +kernel) cv_m10_at st_m10_at lk_7_239 rfl (by omega) (Nat.le_of_ble_eq_true rfl) h3 (fun r13 M14 _ h15 => ?_)
    refine A_cSi (args := [(0, r13)]) (st := []) (by decide +kernel) cv_m7_isLetter st_m7_isLetter lk_7_246 rfl (by omega) (Nat.le_of_ble_eq_true rfl) h15 (fun r16 M17 _ h18 => ?_)
    refine A_if_eq (off := 37) (tgt := 64) (by decide +kernel) (by omega) (fun b19 => ?_) (fun b19 => ?_)
    · have h20 := h18.1 b19
      refine A_aload_n (i := 0) (f := 0) (by omega) rfl (by decide +kernel) rfl ?_
      refine B_getp (v := (M17 2 13)) (q := (RX7, TX7, 18)) (ci := 7) (j := 13) (p := 13) (by decide +kernel) rfl (by decide) rfl (Or.inl rfl) fl_7_78 rfl ?_
      refine A_aload_n (i := 0) (f := 0) (by omega) rfl (by decide +kernel) rfl ?_
      refine B_getp (v := (M17 2 14)) (q := (RX7, TX7, 18)) (ci := 7) (j := 14) (p := 14) (by decide +kernel) rfl (by decide) rfl (Or.inl rfl) fl_7_149 rfl ?_
      refine A_isub (by decide +kernel) ?_
      refine A_istore_n (i := 2) (f := 2) rfl (by decide +kernel) (by decide) (fun w h0 hw => by simp at hw; first | (rw [← hw]; decide) | (rw [← hw]; simp)) ?_
      refine A_iload_n (i := 2) (f := 2) rfl (by decide +kernel) rfl ?_
      refine A_bipush (a := 6) (by decide +kernel) (by unfold in32; omega) (by decide +kernel) ?_
      refine A_ic_le (off := 9) (tgt := 86) (by decide +kernel) (by omega) (fun b22 => ?_) (fun b22 => ?_)
      · have h23 := h20.1 b22
        refine A_aload_n (i := 0) (f := 0) (by omega) rfl (by decide +kernel) rfl ?_
        refine A_iconst (a := 1) (by decide +kernel) (by unfold in32; omega) ?_
        refine B_putp (M' := (mset M17 2 15 1)) (q := (RX7, TX7, 18)) (ci := 7) (j := 15) (p := 15) (by decide +kernel) rfl (by decide) rfl (Or.inl ⟨rfl, rfl⟩) rfl fl_7_84 rfl ?_
        refine A_aload_n (i := 0) (f := 0) (by omega) rfl (by decide +kernel) rfl ?_
        refine A_iload_n (i := 1) (f := 1) rfl (by decide +kernel) rfl ?_
        refine A_iconst (a := 5) (by decide +kernel) (by unfold in32; omega) ?_
        refine A_bipush (a := 6) (by decide +kernel) (by unfold in32; omega) (by decide +kernel) ?_
        refine A_iload_n (i := 2) (f := 2) rfl (by decide +kernel) rfl ?_
        refine A_isub (by decide +kernel) ?_
        refine A_imul (by decide +kernel) ?_
        refine A_ishl (by decide +kernel) ?_
        refine B_putp (M' := (mset (mset M17 2 15 1) 2 16 (ishl x1 (w32 (5 * (w32 (6 - (w32 ((M17 2 13) - (M17 2 14)))))))))) (q := (RX7, TX7, 18)) (ci := 7) (j := 16) (p := 16) (by decide +kernel) rfl (by decide) rfl (Or.inl ⟨rfl, rfl⟩) rfl fl_7_87 rfl ?_
        refine A_aload_n (i := 0) (f := 0) (by omega) rfl (by decide +kernel) rfl ?_
        refine A_aload_n (i := 0) (f := 0) (by omega) rfl (by decide +kernel) rfl ?_
        refine A_aload_n (i := 0) (f := 0) (by omega) rfl (by decide +kernel) rfl ?_
        refine B_getp (v := ((mset (mset M17 2 15 1) 2 16 (ishl x1 (w32 (5 * (w32 (6 - (w32 ((M17 2 13) - (M17 2 14))))))))) 2 16)) (q := (RX7, TX7, 18)) (ci := 7) (j := 16) (p := 16) (by decide +kernel) rfl (by decide) rfl (Or.inl rfl) fl_7_87 rfl ?_
        refine A_cVi (q := (RX7, TX7, 18)) (ci := 7) (o := ((2 : Nat) : Int)) (args := [(0, ((mset (mset M17 2 15 1) 2 16 (ishl x1 (w32 (5 * (w32 (6 - (w32 ((M17 2 13) - (M17 2 14))))))))) 2 16))]) (st := [(17, ((2 : Nat) : Int))]) (by decide +kernel) cv_m7_languageWord rfl rfl in_m7_languageWord se_m7_languageWord lk_7_90 rfl (by omega) (Nat.le_of_ble_eq_true rfl) h23 (fun r25 M26 _ h27 => ?_)
        refine A_cSi (args := [(0, r25)]) (st := [(17, ((2 : Nat) : Int))]) (by decide +kernel) cv_m7_knotOfWord st_m7_knotOfWord lk_7_261 rfl (by omega) (Nat.le_of_ble_eq_true rfl) h27 (fun r28 M29 _ h30 => ?_)
        refine B_putp (M' := (mset M29 2 17 r28)) (q := (RX7, TX7, 18)) (ci := 7) (j := 17) (p := 17) (by decide +kernel) rfl (by decide) rfl (Or.inl ⟨rfl, rfl⟩) rfl fl_7_124 rfl ?_
        exact A_ret ⟨by decide +kernel, rfl⟩ ⟨rfl, h30⟩
      · have h24 := h20.2 (Int.not_le.mp b22)
        refine A_aload_n (i := 0) (f := 0) (by omega) rfl (by decide +kernel) rfl ?_
        refine A_iconst (a := 3) (by decide +kernel) (by unfold in32; omega) ?_
        refine B_putp (M' := (mset M17 2 15 3)) (q := (RX7, TX7, 18)) (ci := 7) (j := 15) (p := 15) (by decide +kernel) rfl (by decide) rfl (Or.inl ⟨rfl, rfl⟩) rfl fl_7_84 rfl ?_
        exact A_ret ⟨by decide +kernel, rfl⟩ ⟨rfl, h24⟩
    · have h21 := h18.2 b19
      refine A_iload_n (i := 1) (f := 1) rfl (by decide +kernel) rfl ?_
      refine A_iconst (a := 5) (by decide +kernel) (by unfold in32; omega) ?_
      refine A_ishl (by decide +kernel) ?_
      refine A_aload_n (i := 0) (f := 0) (by omega) rfl (by decide +kernel) rfl ?_
      refine B_getr (o' := ((1 : Nat) : Int)) (q := (RX7, TX7, 18)) (ci := 7) (j := 0) (by decide +kernel) rfl (by decide) rfl (by omega) fl_7_9 rfl ?_
      refine A_aload_n (i := 0) (f := 0) (by omega) rfl (by decide +kernel) rfl ?_
      refine B_getp (v := (M17 2 13)) (q := (RX7, TX7, 18)) (ci := 7) (j := 13) (p := 13) (by decide +kernel) rfl (by decide) rfl (Or.inl rfl) fl_7_78 rfl ?_
      refine A_cSNi (args := [(30, ((1 : Nat) : Int)), (0, (M17 2 13))]) (st := [(0, (ishl x1 5))]) (by decide +kernel) cv_m10_at st_m10_at lk_7_239 rfl (by omega) (Nat.le_of_ble_eq_true rfl) h21 (fun r31 M32 _ h33 => ?_)
      refine A_bipush (a := 97) (by decide +kernel) (by unfold in32; omega) (by decide +kernel) ?_
      refine A_isub (by decide +kernel) ?_
      refine A_iconst (a := 1) (by decide +kernel) (by unfold in32; omega) ?_
      refine A_iadd (by decide +kernel) ?_
      refine A_ior (by decide +kernel) ?_
      refine A_istore_n (i := 1) (f := 1) rfl (by decide +kernel) (by decide) (fun w h0 hw => by simp at hw; first | (rw [← hw]; decide) | (rw [← hw]; simp)) ?_
      refine A_aload_n (i := 0) (f := 0) (by omega) rfl (by decide +kernel) rfl ?_
      refine A_dup (by decide +kernel) (by simp) ?_
      refine B_getp (v := (M32 2 13)) (q := (RX7, TX7, 18)) (ci := 7) (j := 13) (p := 13) (by decide +kernel) rfl (by decide) rfl (Or.inl rfl) fl_7_78 rfl ?_
      refine A_iconst (a := 1) (by decide +kernel) (by unfold in32; omega) ?_
      refine A_iadd (by decide +kernel) ?_
      refine B_putp (M' := (mset M32 2 13 (w32 ((M32 2 13) + 1)))) (q := (RX7, TX7, 18)) (ci := 7) (j := 13) (p := 13) (by decide +kernel) rfl (by decide) rfl (Or.inl ⟨rfl, rfl⟩) rfl fl_7_78 rfl ?_
      refine A_goto (off := (-59)) (tgt := 2) (by decide +kernel) (by omega) ?_
      exact A_weak (lsub.keep (lsub.keep (lsub.drop lsub.nil))) h33
theorem q_7_knotOfWord {x0 : Int} {M : Mem} {P : Int → Mem → Prop} (h : ((x0 = 7 → (P 10010 M)) ∧ ((x0 = 8 → (P 10011 M)) ∧ ((x0 = 9 → (P 10012 M)) ∧ ((x0 < 7 ∨ 9 < x0) → ((x0 < 10 → (P (-1) M)) ∧ (10 ≤ x0 → (P (w32 ((w32 (10000 + x0)) - 10)) M)))))))) : CI m7_knotOfWord 1 [(0, x0)] M P := by
  refine CI_of (by decide +kernel) (Nat.le_of_ble_eq_true rfl) ?_
  show A m7_knotOfWord 1 0 0 [(0, x0)] [] M (Ki P)
  refine A_iload_n (i := 0) (f := 0) rfl (by decide +kernel) rfl ?_
  have hsw : x0 = 7 ∨ x0 = 8 ∨ x0 = 9 ∨ (x0 < 7 ∨ 9 < x0) := by omega
  rcases hsw with e1 | e1 | e1 | e1
  · have h2 := h.1 e1
    refine A_tin (len := 27) (dflt := 39) (lo := 7) (hi := 9) (offs := #[27, 31, 35]) (off := 27) (tgt := 28) (by decide +kernel) (by omega) (by omega) (by rw [e1]; rfl) (by omega) ?_
    refine A_sipush (a := 10010) (by decide +kernel) (by unfold in32; omega) (by decide +kernel) ?_
    exact A_ret ⟨by decide +kernel, Or.inl rfl⟩ ⟨_, rfl, h2⟩
  · have h3 := h.2.1 e1
    refine A_tin (len := 27) (dflt := 39) (lo := 7) (hi := 9) (offs := #[27, 31, 35]) (off := 31) (tgt := 32) (by decide +kernel) (by omega) (by omega) (by rw [e1]; rfl) (by omega) ?_
    refine A_sipush (a := 10011) (by decide +kernel) (by unfold in32; omega) (by decide +kernel) ?_
    exact A_ret ⟨by decide +kernel, Or.inl rfl⟩ ⟨_, rfl, h3⟩
  · have h4 := h.2.2.1 e1
    refine A_tin (len := 27) (dflt := 39) (lo := 7) (hi := 9) (offs := #[27, 31, 35]) (off := 35) (tgt := 36) (by decide +kernel) (by omega) (by omega) (by rw [e1]; rfl) (by omega) ?_
    refine A_sipush (a := 10012) (by decide +kernel) (by unfold in32; omega) (by decide +kernel) ?_
    exact A_ret ⟨by decide +kernel, Or.inl rfl⟩ ⟨_, rfl, h4⟩
  · have h5 := h.2.2.2 e1
    refine A_tout (len := 27) (dflt := 39) (lo := 7) (hi := 9) (offs := #[27, 31, 35]) (tgt := 40) (by decide +kernel) e1 (by omega) ?_
    refine A_iload_n (i := 0) (f := 0) rfl (by decide +kernel) rfl ?_
    refine A_bipush (a := 10) (by decide +kernel) (by unfold in32; omega) (by decide +kernel) ?_
    refine A_ic_lt (off := 14) (tgt := 57) (by decide +kernel) (by omega) (fun b6 => ?_) (fun b6 => ?_)
    · have h7 := h5.1 b6
      refine A_iconst (a := (-1)) (by decide +kernel) (by unfold in32; omega) ?_
      exact A_ret ⟨by decide +kernel, Or.inl rfl⟩ ⟨_, rfl, h7⟩
    · have h8 := h5.2 (Int.not_lt.mp b6)
      refine A_sipush (a := 10000) (by decide +kernel) (by unfold in32; omega) (by decide +kernel) ?_
      refine A_iload_n (i := 0) (f := 0) rfl (by decide +kernel) rfl ?_
      refine A_iadd (by decide +kernel) ?_
      refine A_bipush (a := 10) (by decide +kernel) (by unfold in32; omega) (by decide +kernel) ?_
      refine A_isub (by decide +kernel) ?_
      refine A_goto (off := 4) (tgt := 58) (by decide +kernel) (by omega) ?_
      exact A_ret ⟨by decide +kernel, Or.inl rfl⟩ ⟨_, rfl, h8⟩
theorem q_7_languageWord {x1 : Int} {M : Mem} {P : Int → Mem → Prop} (h : A m7_languageWord 1 0 2 [(17, ((2 : Nat) : Int)), (0, x1), (0, 0)] [] M (Ki P)) : CI m7_languageWord 1 [(17, ((2 : Nat) : Int)), (0, x1)] M P := by
  refine CI_of (by decide +kernel) (Nat.le_of_ble_eq_true rfl) ?_
  show A m7_languageWord 1 0 0 [(17, ((2 : Nat) : Int)), (0, x1), (2, 0)] [] M (Ki P)
  refine A_iconst (a := 0) (by decide +kernel) (by unfold in32; omega) ?_
  refine A_istore_n (i := 2) (f := 2) rfl (by decide +kernel) (by decide) (fun w h0 hw => by simp at hw; first | (rw [← hw]; decide) | (rw [← hw]; simp)) ?_
  exact A_weak (lsub.keep (lsub.keep (lsub.keep lsub.nil))) h
theorem r_7_languageWord_2 {x1 : Int} {x2 : Int} {M : Mem} {P : Int → Mem → Prop} (h : ((18 ≤ x2 → (P (-1) M)) ∧ (x2 < 18 → ((0 ≤ x2 ∧ x2 < 18) ∧ (((M 3 (x2).toNat) ≠ x1 → A m7_languageWord 1 0 2 [(17, ((2 : Nat) : Int)), (0, x1), (0, (w32 (x2 + 1)))] [] M (Ki P)) ∧ ((M 3 (x2).toNat) = x1 → (P x2 M))))))) : A m7_languageWord 1 0 2 [(17, ((2 : Nat) : Int)), (0, x1), (0, x2)] [] M (Ki P) := by
  refine A_iload_n (i := 2) (f := 2) rfl (by decide +kernel) rfl ?_
  refine A_aload_n (i := 0) (f := 0) (by omega) rfl (by decide +kernel) rfl ?_
  refine B_getr (o' := ((3 : Nat) : Int)) (q := (RX7, TX7, 18)) (ci := 7) (j := 7) (by decide +kernel) rfl (by decide) rfl (by omega) fl_7_40 rfl ?_
  refine B_alen (v := 18) (by decide +kernel) (by decide) rfl ?_
  refine A_ic_ge (off := 21) (tgt := 29) (by decide +kernel) (by omega) (fun b1 => ?_) (fun b1 => ?_)
  · have h2 := h.1 b1
    refine A_iconst (a := (-1)) (by decide +kernel) (by unfold in32; omega) ?_
    exact A_ret ⟨by decide +kernel, Or.inl rfl⟩ ⟨_, rfl, h2⟩
  · have h3 := h.2 (Int.not_le.mp b1)
    refine A_aload_n (i := 0) (f := 0) (by omega) rfl (by decide +kernel) rfl ?_
    refine B_getr (o' := ((3 : Nat) : Int)) (q := (RX7, TX7, 18)) (ci := 7) (j := 7) (by decide +kernel) rfl (by decide) rfl (by omega) fl_7_40 rfl ?_
    refine A_iload_n (i := 2) (f := 2) rfl (by decide +kernel) rfl ?_
    refine B_iald (v := (M 3 (x2).toNat)) (by decide +kernel) h3.1 rfl ?_
    have h4 := h3.2
    refine A_iload_n (i := 1) (f := 1) rfl (by decide +kernel) rfl ?_
    refine A_ic_ne (off := 5) (tgt := 23) (by decide +kernel) (by omega) (fun b5 => ?_) (fun b5 => ?_)
    · have h6 := h4.1 b5
      refine A_iinc (i := 2) (n := 1) (by decide +kernel) (by decide) rfl (fun w h0 hw => by simp at hw; first | (rw [← hw]; decide) | (rw [← hw]; simp)) ?_
      refine A_goto (off := (-24)) (tgt := 2) (by decide +kernel) (by omega) ?_
      exact A_weak (lsub.keep (lsub.keep (lsub.keep lsub.nil))) h6
    · have h7 := h4.2 (Decidable.not_not.mp b5)
      refine A_iload_n (i := 2) (f := 2) rfl (by decide +kernel) rfl ?_
      exact A_ret ⟨by decide +kernel, Or.inl rfl⟩ ⟨_, rfl, h7⟩
theorem r_7_scanNumber_0  {M : Mem} {P : Mem → Prop} (h : (((M 2 12) ≤ (M 2 13) → (P (mset M 2 15 2))) ∧ ((M 2 13) < (M 2 12) → (CI m10_at 1 [(30, ((1 : Nat) : Int)), (0, (M 2 13))] M (fun r4 M5 => (CI m7_isDigit 1 [(0, r4)] M5 (fun r7 M8 => ((r7 = 0 → (P (mset M8 2 15 2))) ∧ (r7 ≠ 0 → (CI m10_at 1 [(30, ((1 : Nat) : Int)), (0, (M8 2 13))] M8 (fun r13 M14 => A m7_scanNumber 2 0 0 [(17, ((2 : Nat) : Int))] [] (mset (mset M14 2 16 (if 100000 < (w32 ((w32 ((w32 ((M8 2 16) * 10)) + r13)) - 48)) then 100000 else (w32 ((w32 ((w32 ((M8 2 16) * 10)) + r13)) - 48)))) 2 13 (w32 (((mset M14 2 16 (if 100000 < (w32 ((w32 ((w32 ((M8 2 16) * 10)) + r13)) - 48)) then 100000 else (w32 ((w32 ((w32 ((M8 2 16) * 10)) + r13)) - 48)))) 2 13) + 1))) (Kd P)))))))))))) : A m7_scanNumber 2 0 0 [(17, ((2 : Nat) : Int))] [] M (Kd P) := by
  refine A_aload_n (i := 0) (f := 0) (by omega) rfl (by decide +kernel) rfl ?_
  refine B_getp (v := (M 2 13)) (q := (RX7, TX7, 18)) (ci := 7) (j := 13) (p := 13) (by decide +kernel) rfl (by decide) rfl (Or.inl rfl) fl_7_78 rfl ?_
  refine A_aload_n (i := 0) (f := 0) (by omega) rfl (by decide +kernel) rfl ?_
  refine B_getp (v := (M 2 12)) (q := (RX7, TX7, 18)) (ci := 7) (j := 12) (p := 12) (by decide +kernel) rfl (by decide) rfl (Or.inl rfl) fl_7_76 rfl ?_
  refine A_ic_ge (off := 65) (tgt := 73) (by decide +kernel) (by omega) (fun b1 => ?_) (fun b1 => ?_)
  · have h2 := h.1 b1
    refine A_aload_n (i := 0) (f := 0) (by omega) rfl (by decide +kernel) rfl ?_
    refine A_iconst (a := 2) (by decide +kernel) (by unfold in32; omega) ?_
    refine B_putp (M' := (mset M 2 15 2)) (q := (RX7, TX7, 18)) (ci := 7) (j := 15) (p := 15) (by decide +kernel) rfl (by decide) rfl (Or.inl ⟨rfl, rfl⟩) rfl fl_7_84 rfl ?_
    exact A_ret ⟨by decide +kernel, rfl⟩ ⟨rfl, h2⟩
  · have h3 := h.2 (Int.not_le.mp b1)
    refine A_aload_n (i := 0) (f := 0) (by omega) rfl (by decide +kernel) rfl ?_
    refine B_getr (o' := ((1 : Nat) : Int)) (q := (RX7, TX7, 18)) (ci := 7) (j := 0) (by decide +kernel) rfl (by decide) rfl (by omega) fl_7_9 rfl ?_
    refine A_aload_n (i := 0) (f := 0) (by omega) rfl (by decide +kernel) rfl ?_
    refine B_getp (v := (M 2 13)) (q := (RX7, TX7, 18)) (ci := 7) (j := 13) (p := 13) (by decide +kernel) rfl (by decide) rfl (Or.inl rfl) fl_7_78 rfl ?_
    refine A_cSNi (args := [(30, ((1 : Nat) : Int)), (0, (M 2 13))]) (st := []) (by decide +kernel) cv_m10_at st_m10_at lk_7_239 rfl (by omega) (Nat.le_of_ble_eq_true rfl) h3 (fun r4 M5 _ h6 => ?_)
    refine A_cSi (args := [(0, r4)]) (st := []) (by decide +kernel) cv_m7_isDigit st_m7_isDigit lk_7_252 rfl (by omega) (Nat.le_of_ble_eq_true rfl) h6 (fun r7 M8 _ h9 => ?_)
    refine A_if_eq (off := 48) (tgt := 73) (by decide +kernel) (by omega) (fun b10 => ?_) (fun b10 => ?_)
    · have h11 := h9.1 b10
      refine A_aload_n (i := 0) (f := 0) (by omega) rfl (by decide +kernel) rfl ?_
      refine A_iconst (a := 2) (by decide +kernel) (by unfold in32; omega) ?_
      refine B_putp (M' := (mset M8 2 15 2)) (q := (RX7, TX7, 18)) (ci := 7) (j := 15) (p := 15) (by decide +kernel) rfl (by decide) rfl (Or.inl ⟨rfl, rfl⟩) rfl fl_7_84 rfl ?_
      exact A_ret ⟨by decide +kernel, rfl⟩ ⟨rfl, h11⟩
    · have h12 := h9.2 b10
      refine A_aload_n (i := 0) (f := 0) (by omega) rfl (by decide +kernel) rfl ?_
      refine A_aload_n (i := 0) (f := 0) (by omega) rfl (by decide +kernel) rfl ?_
      refine B_getp (v := (M8 2 16)) (q := (RX7, TX7, 18)) (ci := 7) (j := 16) (p := 16) (by decide +kernel) rfl (by decide) rfl (Or.inl rfl) fl_7_87 rfl ?_
      refine A_bipush (a := 10) (by decide +kernel) (by unfold in32; omega) (by decide +kernel) ?_
      refine A_imul (by decide +kernel) ?_
      refine A_aload_n (i := 0) (f := 0) (by omega) rfl (by decide +kernel) rfl ?_
      refine B_getr (o' := ((1 : Nat) : Int)) (q := (RX7, TX7, 18)) (ci := 7) (j := 0) (by decide +kernel) rfl (by decide) rfl (by omega) fl_7_9 rfl ?_
      refine A_aload_n (i := 0) (f := 0) (by omega) rfl (by decide +kernel) rfl ?_
      refine B_getp (v := (M8 2 13)) (q := (RX7, TX7, 18)) (ci := 7) (j := 13) (p := 13) (by decide +kernel) rfl (by decide) rfl (Or.inl rfl) fl_7_78 rfl ?_
      refine A_cSNi (args := [(30, ((1 : Nat) : Int)), (0, (M8 2 13))]) (st := [(0, (w32 ((M8 2 16) * 10))), (17, ((2 : Nat) : Int))]) (by decide +kernel) cv_m10_at st_m10_at lk_7_239 rfl (by omega) (Nat.le_of_ble_eq_true rfl) h12 (fun r13 M14 _ h15 => ?_)
      refine A_iadd (by decide +kernel) ?_
      refine A_bipush (a := 48) (by decide +kernel) (by unfold in32; omega) (by decide +kernel) ?_
      refine A_isub (by decide +kernel) ?_
      refine A_ldcw (by decide +kernel) (by unfold in32; omega) ki_7_264 rfl ?_
      refine A_min (by decide +kernel) (by omega) (Nat.le_of_ble_eq_true rfl) lk_7_265 jst_min jin_math jcd_min ?_
      refine B_putp (M' := (mset M14 2 16 (if 100000 < (w32 ((w32 ((w32 ((M8 2 16) * 10)) + r13)) - 48)) then 100000 else (w32 ((w32 ((w32 ((M8 2 16) * 10)) + r13)) - 48))))) (q := (RX7, TX7, 18)) (ci := 7) (j := 16) (p := 16) (by decide +kernel) rfl (by decide) rfl (Or.inl ⟨rfl, rfl⟩) rfl fl_7_87 rfl ?_
      refine A_aload_n (i := 0) (f := 0) (by omega) rfl (by decide +kernel) rfl ?_
      refine A_dup (by decide +kernel) (by simp) ?_
      refine B_getp (v := ((mset M14 2 16 (if 100000 < (w32 ((w32 ((w32 ((M8 2 16) * 10)) + r13)) - 48)) then 100000 else (w32 ((w32 ((w32 ((M8 2 16) * 10)) + r13)) - 48)))) 2 13)) (q := (RX7, TX7, 18)) (ci := 7) (j := 13) (p := 13) (by decide +kernel) rfl (by decide) rfl (Or.inl rfl) fl_7_78 rfl ?_
      refine A_iconst (a := 1) (by decide +kernel) (by unfold in32; omega) ?_
      refine A_iadd (by decide +kernel) ?_
      refine B_putp (M' := (mset (mset M14 2 16 (if 100000 < (w32 ((w32 ((w32 ((M8 2 16) * 10)) + r13)) - 48)) then 100000 else (w32 ((w32 ((w32 ((M8 2 16) * 10)) + r13)) - 48)))) 2 13 (w32 (((mset M14 2 16 (if 100000 < (w32 ((w32 ((w32 ((M8 2 16) * 10)) + r13)) - 48)) then 100000 else (w32 ((w32 ((w32 ((M8 2 16) * 10)) + r13)) - 48)))) 2 13) + 1)))) (q := (RX7, TX7, 18)) (ci := 7) (j := 13) (p := 13) (by decide +kernel) rfl (by decide) rfl (Or.inl ⟨rfl, rfl⟩) rfl fl_7_78 rfl ?_
      refine A_goto (off := (-70)) (tgt := 0) (by decide +kernel) (by omega) ?_
      exact A_weak (lsub.keep lsub.nil) h15
theorem q_7_scanNumber  {M : Mem} {P : Mem → Prop} (h : A m7_scanNumber 2 0 0 [(17, ((2 : Nat) : Int))] [] M (Kd P)) : CD m7_scanNumber 2 [(17, ((2 : Nat) : Int))] M P := CD_of (by decide +kernel) (Nat.le_of_ble_eq_true rfl) h
theorem q_7_scanSign {x1 : Int} {M : Mem} {P : Mem → Prop} (h : (CI m7_knotOfSign 1 [(0, x1)] (mset M 2 13 (w32 ((M 2 13) + 1))) (fun r1 M2 => ((((mset M2 2 17 r1) 2 12) ≤ ((mset M2 2 17 r1) 2 13) → ((x1 ≠ 60 → ((x1 ≠ 60 → ((x1 ≠ 62 → (P (mset (mset M2 2 17 r1) 2 15 3))) ∧ (x1 = 62 → (P (mset (mset M2 2 17 r1) 2 15 3))))) ∧ (x1 = 60 → ((x1 ≠ 62 → (P (mset (mset M2 2 17 r1) 2 15 3))) ∧ (x1 = 62 → (P (mset (mset M2 2 17 r1) 2 15 3))))))) ∧ (x1 = 60 → ((x1 ≠ 60 → ((x1 ≠ 62 → (P (mset (mset M2 2 17 r1) 2 15 3))) ∧ (x1 = 62 → (P (mset (mset M2 2 17 r1) 2 15 3))))) ∧ (x1 = 60 → ((x1 ≠ 62 → (P (mset (mset M2 2 17 r1) 2 15 3))) ∧ (x1 = 62 → (P (mset (mset M2 2 17 r1) 2 15 3))))))))) ∧ (((mset M2 2 17 r1) 2 13) < ((mset M2 2 17 r1) 2 12) → (CI m10_at 1 [(30, ((1 : Nat) : Int)), (0, ((mset M2 2 17 r1) 2 13))] (mset M2 2 17 r1) (fun r28 M29 => ((x1 ≠ 60 → ((x1 ≠ 60 → ((x1 ≠ 62 → (P (mset M29 2 15 3))) ∧ (x1 = 62 → ((r28 ≠ 61 → (P (mset M29 2 15 3))) ∧ (r28 = 61 → (P (mset (mset (mset M29 2 17 10017) 2 13 (w32 (((mset M29 2 17 10017) 2 13) + 1))) 2 15 3))))))) ∧ (x1 = 60 → ((r28 ≠ 62 → ((x1 ≠ 62 → (P (mset M29 2 15 3))) ∧ (x1 = 62 → ((r28 ≠ 61 → (P (mset M29 2 15 3))) ∧ (r28 = 61 → (P (mset (mset (mset M29 2 17 10017) 2 13 (w32 (((mset M29 2 17 10017) 2 13) + 1))) 2 15 3))))))) ∧ (r28 = 62 → (P (mset (mset (mset M29 2 17 10016) 2 13 (w32 (((mset M29 2 17 10016) 2 13) + 1))) 2 15 3))))))) ∧ (x1 = 60 → ((r28 ≠ 61 → ((x1 ≠ 60 → ((x1 ≠ 62 → (P (mset M29 2 15 3))) ∧ (x1 = 62 → ((r28 ≠ 61 → (P (mset M29 2 15 3))) ∧ (r28 = 61 → (P (mset (mset (mset M29 2 17 10017) 2 13 (w32 (((mset M29 2 17 10017) 2 13) + 1))) 2 15 3))))))) ∧ (x1 = 60 → ((r28 ≠ 62 → ((x1 ≠ 62 → (P (mset M29 2 15 3))) ∧ (x1 = 62 → ((r28 ≠ 61 → (P (mset M29 2 15 3))) ∧ (r28 = 61 → (P (mset (mset (mset M29 2 17 10017) 2 13 (w32 (((mset M29 2 17 10017) 2 13) + 1))) 2 15 3))))))) ∧ (r28 = 62 → (P (mset (mset (mset M29 2 17 10016) 2 13 (w32 (((mset M29 2 17 10016) 2 13) + 1))) 2 15 3))))))) ∧ (r28 = 61 → (P (mset (mset (mset M29 2 17 10014) 2 13 (w32 (((mset M29 2 17 10014) 2 13) + 1))) 2 15 3))))))))))))) : CD m7_scanSign 2 [(17, ((2 : Nat) : Int)), (0, x1)] M P := by
  refine CD_of (by decide +kernel) (Nat.le_of_ble_eq_true rfl) ?_
  show A m7_scanSign 2 0 0 [(17, ((2 : Nat) : Int)), (0, x1), (2, 0)] [] M (Kd P)
  refine A_aload_n (i := 0) (f := 0) (by omega) rfl (by decide +kernel) rfl ?_
  refine A_dup (by decide +kernel) (by simp) ?_
  refine B_getp (v := (M 2 13)) (q := (RX7, TX7, 18)) (ci := 7) (j := 13) (p := 13) (by decide +kernel) rfl (by decide) rfl (Or.inl rfl) fl_7_78 rfl ?_
  refine A_iconst (a := 1) (by decide +kernel) (by unfold in32; omega) ?_
  refine A_iadd (by decide +kernel) ?_
  refine B_putp (M' := (mset M 2 13 (w32 ((M 2 13) + 1)))) (q := (RX7, TX7, 18)) (ci := 7) (j := 13) (p := 13) (by decide +kernel) rfl (by decide) rfl (Or.inl ⟨rfl, rfl⟩) rfl fl_7_78 rfl ?_
  refine A_aload_n (i := 0) (f := 0) (by omega) rfl (by decide +kernel) rfl ?_
  refine A_iload_n (i := 1) (f := 1) rfl (by decide +kernel) rfl ?_
  refine A_cSi (args := [(0, x1)]) (st := [(17, ((2 : Nat) : Int))]) (by decide +kernel) cv_m7_knotOfSign st_m7_knotOfSign lk_7_271 rfl (by omega) (Nat.le_of_ble_eq_true rfl) h (fun r1 M2 _ h3 => ?_)
  refine B_putp (M' := (mset M2 2 17 r1)) (q := (RX7, TX7, 18)) (ci := 7) (j := 17) (p := 17) (by decide +kernel) rfl (by decide) rfl (Or.inl ⟨rfl, rfl⟩) rfl fl_7_124 rfl ?_
  refine A_aload_n (i := 0) (f := 0) (by omega) rfl (by decide +kernel) rfl ?_
  refine B_getp (v := ((mset M2 2 17 r1) 2 13)) (q := (RX7, TX7, 18)) (ci := 7) (j := 13) (p := 13) (by decide +kernel) rfl (by decide) rfl (Or.inl rfl) fl_7_78 rfl ?_
  refine A_aload_n (i := 0) (f := 0) (by omega) rfl (by decide +kernel) rfl ?_
  refine B_getp (v := ((mset M2 2 17 r1) 2 12)) (q := (RX7, TX7, 18)) (ci := 7) (j := 12) (p := 12) (by decide +kernel) rfl (by decide) rfl (Or.inl rfl) fl_7_76 rfl ?_
  refine A_ic_ge (off := 17) (tgt := 43) (by decide +kernel) (by omega) (fun b4 => ?_) (fun b4 => ?_)
  · have h5 := h3.1 b4
    refine A_iconst (a := 0) (by decide +kernel) (by unfold in32; omega) ?_
    refine A_istore_n (i := 2) (f := 2) rfl (by decide +kernel) (by decide) (fun w h0 hw => by simp at hw; first | (rw [← hw]; decide) | (rw [← hw]; simp)) ?_
    refine A_iload_n (i := 1) (f := 1) rfl (by decide +kernel) rfl ?_
    refine A_bipush (a := 60) (by decide +kernel) (by unfold in32; omega) (by decide +kernel) ?_
    refine A_ic_ne (off := 29) (tgt := 77) (by decide +kernel) (by omega) (fun b7 => ?_) (fun b7 => ?_)
    · have h8 := h5.1 b7
      refine A_iload_n (i := 1) (f := 1) rfl (by decide +kernel) rfl ?_
      refine A_bipush (a := 60) (by decide +kernel) (by unfold in32; omega) (by decide +kernel) ?_
      refine A_ic_ne (off := 29) (tgt := 109) (by decide +kernel) (by omega) (fun b10 => ?_) (fun b10 => ?_)
      · have h11 := h8.1 b10
        refine A_iload_n (i := 1) (f := 1) rfl (by decide +kernel) rfl ?_
        refine A_bipush (a := 62) (by decide +kernel) (by unfold in32; omega) (by decide +kernel) ?_
        refine A_ic_ne (off := 26) (tgt := 138) (by decide +kernel) (by omega) (fun b13 => ?_) (fun b13 => ?_)
        · have h14 := h11.1 b13
          refine A_aload_n (i := 0) (f := 0) (by omega) rfl (by decide +kernel) rfl ?_
          refine A_iconst (a := 3) (by decide +kernel) (by unfold in32; omega) ?_
          refine B_putp (M' := (mset (mset M2 2 17 r1) 2 15 3)) (q := (RX7, TX7, 18)) (ci := 7) (j := 15) (p := 15) (by decide +kernel) rfl (by decide) rfl (Or.inl ⟨rfl, rfl⟩) rfl fl_7_84 rfl ?_
          exact A_ret ⟨by decide +kernel, rfl⟩ ⟨rfl, h14⟩
        · have h15 := h11.2 (Decidable.not_not.mp b13)
          refine A_iload_n (i := 2) (f := 2) rfl (by decide +kernel) rfl ?_
          refine A_bipush (a := 61) (by decide +kernel) (by unfold in32; omega) (by decide +kernel) ?_
          refine A_ic_ne (off := 20) (tgt := 138) (by decide +kernel) (by omega) (fun _ => ?_) (fun hb => absurd (by decide) hb)
          refine A_aload_n (i := 0) (f := 0) (by omega) rfl (by decide +kernel) rfl ?_
          refine A_iconst (a := 3) (by decide +kernel) (by unfold in32; omega) ?_
          refine B_putp (M' := (mset (mset M2 2 17 r1) 2 15 3)) (q := (RX7, TX7, 18)) (ci := 7) (j := 15) (p := 15) (by decide +kernel) rfl (by decide) rfl (Or.inl ⟨rfl, rfl⟩) rfl fl_7_84 rfl ?_
          exact A_ret ⟨by decide +kernel, rfl⟩ ⟨rfl, h15⟩
      · have h12 := h8.2 (Decidable.not_not.mp b10)
        refine A_iload_n (i := 2) (f := 2) rfl (by decide +kernel) rfl ?_
        refine A_bipush (a := 62) (by decide +kernel) (by unfold in32; omega) (by decide +kernel) ?_
        refine A_ic_ne (off := 23) (tgt := 109) (by decide +kernel) (by omega) (fun _ => ?_) (fun hb => absurd (by decide) hb)
        refine A_iload_n (i := 1) (f := 1) rfl (by decide +kernel) rfl ?_
        refine A_bipush (a := 62) (by decide +kernel) (by unfold in32; omega) (by decide +kernel) ?_
        refine A_ic_ne (off := 26) (tgt := 138) (by decide +kernel) (by omega) (fun b16 => ?_) (fun b16 => ?_)
        · have h17 := h12.1 b16
          refine A_aload_n (i := 0) (f := 0) (by omega) rfl (by decide +kernel) rfl ?_
          refine A_iconst (a := 3) (by decide +kernel) (by unfold in32; omega) ?_
          refine B_putp (M' := (mset (mset M2 2 17 r1) 2 15 3)) (q := (RX7, TX7, 18)) (ci := 7) (j := 15) (p := 15) (by decide +kernel) rfl (by decide) rfl (Or.inl ⟨rfl, rfl⟩) rfl fl_7_84 rfl ?_
          exact A_ret ⟨by decide +kernel, rfl⟩ ⟨rfl, h17⟩
        · have h18 := h12.2 (Decidable.not_not.mp b16)
          refine A_iload_n (i := 2) (f := 2) rfl (by decide +kernel) rfl ?_
          refine A_bipush (a := 61) (by decide +kernel) (by unfold in32; omega) (by decide +kernel) ?_
          refine A_ic_ne (off := 20) (tgt := 138) (by decide +kernel) (by omega) (fun _ => ?_) (fun hb => absurd (by decide) hb)
          refine A_aload_n (i := 0) (f := 0) (by omega) rfl (by decide +kernel) rfl ?_
          refine A_iconst (a := 3) (by decide +kernel) (by unfold in32; omega) ?_
          refine B_putp (M' := (mset (mset M2 2 17 r1) 2 15 3)) (q := (RX7, TX7, 18)) (ci := 7) (j := 15) (p := 15) (by decide +kernel) rfl (by decide) rfl (Or.inl ⟨rfl, rfl⟩) rfl fl_7_84 rfl ?_
          exact A_ret ⟨by decide +kernel, rfl⟩ ⟨rfl, h18⟩
    · have h9 := h5.2 (Decidable.not_not.mp b7)
      refine A_iload_n (i := 2) (f := 2) rfl (by decide +kernel) rfl ?_
      refine A_bipush (a := 61) (by decide +kernel) (by unfold in32; omega) (by decide +kernel) ?_
      refine A_ic_ne (off := 23) (tgt := 77) (by decide +kernel) (by omega) (fun _ => ?_) (fun hb => absurd (by decide) hb)
      refine A_iload_n (i := 1) (f := 1) rfl (by decide +kernel) rfl ?_
      refine A_bipush (a := 60) (by decide +kernel) (by unfold in32; omega) (by decide +kernel) ?_
      refine A_ic_ne (off := 29) (tgt := 109) (by decide +kernel) (by omega) (fun b19 => ?_) (fun b19 => ?_)
      · have h20 := h9.1 b19
        refine A_iload_n (i := 1) (f := 1) rfl (by decide +kernel) rfl ?_
        refine A_bipush (a := 62) (by decide +kernel) (by unfold in32; omega) (by decide +kernel) ?_
        refine A_ic_ne (off := 26) (tgt := 138) (by decide +kernel) (by omega) (fun b22 => ?_) (fun b22 => ?_)
        · have h23 := h20.1 b22
          refine A_aload_n (i := 0) (f := 0) (by omega) rfl (by decide +kernel) rfl ?_
          refine A_iconst (a := 3) (by decide +kernel) (by unfold in32; omega) ?_
          refine B_putp (M' := (mset (mset M2 2 17 r1) 2 15 3)) (q := (RX7, TX7, 18)) (ci := 7) (j := 15) (p := 15) (by decide +kernel) rfl (by decide) rfl (Or.inl ⟨rfl, rfl⟩) rfl fl_7_84 rfl ?_
          exact A_ret ⟨by decide +kernel, rfl⟩ ⟨rfl, h23⟩
        · have h24 := h20.2 (Decidable.not_not.mp b22)
          refine A_iload_n (i := 2) (f := 2) rfl (by decide +kernel) rfl ?_
          refine A_bipush (a := 61) (by decide +kernel) (by unfold in32; omega) (by decide +kernel) ?_
          refine A_ic_ne (off := 20) (tgt := 138) (by decide +kernel) (by omega) (fun _ => ?_) (fun hb => absurd (by decide) hb)
          refine A_aload_n (i := 0) (f := 0) (by omega) rfl (by decide +kernel) rfl ?_
          refine A_iconst (a := 3) (by decide +kernel) (by unfold in32; omega) ?_
          refine B_putp (M' := (mset (mset M2 2 17 r1) 2 15 3)) (q := (RX7, TX7, 18)) (ci := 7) (j := 15) (p := 15) (by decide +kernel) rfl (by decide) rfl (Or.inl ⟨rfl, rfl⟩) rfl fl_7_84 rfl ?_
          exact A_ret ⟨by decide +kernel, rfl⟩ ⟨rfl, h24⟩
      · have h21 := h9.2 (Decidable.not_not.mp b19)
        refine A_iload_n (i := 2) (f := 2) rfl (by decide +kernel) rfl ?_
        refine A_bipush (a := 62) (by decide +kernel) (by unfold in32; omega) (by decide +kernel) ?_
        refine A_ic_ne (off := 23) (tgt := 109) (by decide +kernel) (by omega) (fun _ => ?_) (fun hb => absurd (by decide) hb)
        refine A_iload_n (i := 1) (f := 1) rfl (by decide +kernel) rfl ?_
        refine A_bipush (a := 62) (by decide +kernel) (by unfold in32; omega) (by decide +kernel) ?_
        refine A_ic_ne (off := 26) (tgt := 138) (by decide +kernel) (by omega) (fun b25 => ?_) (fun b25 => ?_)
        · have h26 := h21.1 b25
          refine A_aload_n (i := 0) (f := 0) (by omega) rfl (by decide +kernel) rfl ?_
          refine A_iconst (a := 3) (by decide +kernel) (by unfold in32; omega) ?_
          refine B_putp (M' := (mset (mset M2 2 17 r1) 2 15 3)) (q := (RX7, TX7, 18)) (ci := 7) (j := 15) (p := 15) (by decide +kernel) rfl (by decide) rfl (Or.inl ⟨rfl, rfl⟩) rfl fl_7_84 rfl ?_
          exact A_ret ⟨by decide +kernel, rfl⟩ ⟨rfl, h26⟩
        · have h27 := h21.2 (Decidable.not_not.mp b25)
          refine A_iload_n (i := 2) (f := 2) rfl (by decide +kernel) rfl ?_
          refine A_bipush (a := 61) (by decide +kernel) (by unfold in32; omega) (by decide +kernel) ?_
          refine A_ic_ne (off := 20) (tgt := 138) (by decide +kernel) (by omega) (fun _ => ?_) (fun hb => absurd (by decide) hb)
          refine A_aload_n (i := 0) (f := 0) (by omega) rfl (by decide +kernel) rfl ?_
          refine A_iconst (a := 3) (by decide +kernel) (by unfold in32; omega) ?_
          refine B_putp (M' := (mset (mset M2 2 17 r1) 2 15 3)) (q := (RX7, TX7, 18)) (ci := 7) (j := 15) (p := 15) (by decide +kernel) rfl (by decide) rfl (Or.inl ⟨rfl, rfl⟩) rfl fl_7_84 rfl ?_
          exact A_ret ⟨by decide +kernel, rfl⟩ ⟨rfl, h27⟩
  · have h6 := h3.2 (Int.not_le.mp b4)
    refine A_aload_n (i := 0) (f := 0) (by omega) rfl (by decide +kernel) rfl ?_
    refine B_getr (o' := ((1 : Nat) : Int)) (q := (RX7, TX7, 18)) (ci := 7) (j := 0) (by decide +kernel) rfl (by decide) rfl (by omega) fl_7_9 rfl ?_
    refine A_aload_n (i := 0) (f := 0) (by omega) rfl (by decide +kernel) rfl ?_
    refine B_getp (v := ((mset M2 2 17 r1) 2 13)) (q := (RX7, TX7, 18)) (ci := 7) (j := 13) (p := 13) (by decide +kernel) rfl (by decide) rfl (Or.inl rfl) fl_7_78 rfl ?_
    refine A_cSNi (args := [(30, ((1 : Nat) : Int)), (0, ((mset M2 2 17 r1) 2 13))]) (st := []) (by decide +kernel) cv_m10_at st_m10_at lk_7_239 rfl (by omega) (Nat.le_of_ble_eq_true rfl) h6 (fun r28 M29 _ h30 => ?_)
    refine A_goto (off := 4) (tgt := 44) (by decide +kernel) (by omega) ?_
    refine A_istore_n (i := 2) (f := 2) rfl (by decide +kernel) (by decide) (fun w h0 hw => by simp at hw; first | (rw [← hw]; decide) | (rw [← hw]; simp)) ?_
    refine A_iload_n (i := 1) (f := 1) rfl (by decide +kernel) rfl ?_
    refine A_bipush (a := 60) (by decide +kernel) (by unfold in32; omega) (by decide +kernel) ?_
    refine A_ic_ne (off := 29) (tgt := 77) (by decide +kernel) (by omega) (fun b31 => ?_) (fun b31 => ?_)
    · have h32 := h30.1 b31
      refine A_iload_n (i := 1) (f := 1) rfl (by decide +kernel) rfl ?_
      refine A_bipush (a := 60) (by decide +kernel) (by unfold in32; omega) (by decide +kernel) ?_
      refine A_ic_ne (off := 29) (tgt := 109) (by decide +kernel) (by omega) (fun b34 => ?_) (fun b34 => ?_)
      · have h35 := h32.1 b34
        refine A_iload_n (i := 1) (f := 1) rfl (by decide +kernel) rfl ?_
        refine A_bipush (a := 62) (by decide +kernel) (by unfold in32; omega) (by decide +kernel) ?_
        refine A_ic_ne (off := 26) (tgt := 138) (by decide +kernel) (by omega) (fun b37 => ?_) (fun b37 => ?_)
        · have h38 := h35.1 b37
          refine A_aload_n (i := 0) (f := 0) (by omega) rfl (by decide +kernel) rfl ?_
          refine A_iconst (a := 3) (by decide +kernel) (by unfold in32; omega) ?_
          refine B_putp (M' := (mset M29 2 15 3)) (q := (RX7, TX7, 18)) (ci := 7) (j := 15) (p := 15) (by decide +kernel) rfl (by decide) rfl (Or.inl ⟨rfl, rfl⟩) rfl fl_7_84 rfl ?_
          exact A_ret ⟨by decide +kernel, rfl⟩ ⟨rfl, h38⟩
        · have h39 := h35.2 (Decidable.not_not.mp b37)
          refine A_iload_n (i := 2) (f := 2) rfl (by decide +kernel) rfl ?_
          refine A_bipush (a := 61) (by decide +kernel) (by unfold in32; omega) (by decide +kernel) ?_
          refine A_ic_ne (off := 20) (tgt := 138) (by decide +kernel) (by omega) (fun b40 => ?_) (fun b40 => ?_)
          · have h41 := h39.1 b40
            refine A_aload_n (i := 0) (f := 0) (by omega) rfl (by decide +kernel) rfl ?_
            refine A_iconst (a := 3) (by decide +kernel) (by unfold in32; omega) ?_
            refine B_putp (M' := (mset M29 2 15 3)) (q := (RX7, TX7, 18)) (ci := 7) (j := 15) (p := 15) (by decide +kernel) rfl (by decide) rfl (Or.inl ⟨rfl, rfl⟩) rfl fl_7_84 rfl ?_
            exact A_ret ⟨by decide +kernel, rfl⟩ ⟨rfl, h41⟩
          · have h42 := h39.2 (Decidable.not_not.mp b40)
            refine A_aload_n (i := 0) (f := 0) (by omega) rfl (by decide +kernel) rfl ?_
            refine A_sipush (a := 10017) (by decide +kernel) (by unfold in32; omega) (by decide +kernel) ?_
            refine B_putp (M' := (mset M29 2 17 10017)) (q := (RX7, TX7, 18)) (ci := 7) (j := 17) (p := 17) (by decide +kernel) rfl (by decide) rfl (Or.inl ⟨rfl, rfl⟩) rfl fl_7_124 rfl ?_
            refine A_aload_n (i := 0) (f := 0) (by omega) rfl (by decide +kernel) rfl ?_
            refine A_dup (by decide +kernel) (by simp) ?_
            refine B_getp (v := ((mset M29 2 17 10017) 2 13)) (q := (RX7, TX7, 18)) (ci := 7) (j := 13) (p := 13) (by decide +kernel) rfl (by decide) rfl (Or.inl rfl) fl_7_78 rfl ?_
            refine A_iconst (a := 1) (by decide +kernel) (by unfold in32; omega) ?_
            refine A_iadd (by decide +kernel) ?_
            refine B_putp (M' := (mset (mset M29 2 17 10017) 2 13 (w32 (((mset M29 2 17 10017) 2 13) + 1)))) (q := (RX7, TX7, 18)) (ci := 7) (j := 13) (p := 13) (by decide +kernel) rfl (by decide) rfl (Or.inl ⟨rfl, rfl⟩) rfl fl_7_78 rfl ?_
            refine A_aload_n (i := 0) (f := 0) (by omega) rfl (by decide +kernel) rfl ?_
            refine A_iconst (a := 3) (by decide +kernel) (by unfold in32; omega) ?_
            refine B_putp (M' := (mset (mset (mset M29 2 17 10017) 2 13 (w32 (((mset M29 2 17 10017) 2 13) + 1))) 2 15 3)) (q := (RX7, TX7, 18)) (ci := 7) (j := 15) (p := 15) (by decide +kernel) rfl (by decide) rfl (Or.inl ⟨rfl, rfl⟩) rfl fl_7_84 rfl ?_
            exact A_ret ⟨by decide +kernel, rfl⟩ ⟨rfl, h42⟩
      · have h36 := h32.2 (Decidable.not_not.mp b34)
        refine A_iload_n (i := 2) (f := 2) rfl (by decide +kernel) rfl ?_
        refine A_bipush (a := 62) (by decide +kernel) (by unfold in32; omega) (by decide +kernel) ?_
        refine A_ic_ne (off := 23) (tgt := 109) (by decide +kernel) (by omega) (fun b43 => ?_) (fun b43 => ?_)
        · have h44 := h36.1 b43
          refine A_iload_n (i := 1) (f := 1) rfl (by decide +kernel) rfl ?_
          refine A_bipush (a := 62) (by decide +kernel) (by unfold in32; omega) (by decide +kernel) ?_
          refine A_ic_ne (off := 26) (tgt := 138) (by decide +kernel) (by omega) (fun b46 => ?_) (fun b46 => ?_)
          · have h47 := h44.1 b46
            refine A_aload_n (i := 0) (f := 0) (by omega) rfl (by decide +kernel) rfl ?_
            refine A_iconst (a := 3) (by decide +kernel) (by unfold in32; omega) ?_
            refine B_putp (M' := (mset M29 2 15 3)) (q := (RX7, TX7, 18)) (ci := 7) (j := 15) (p := 15) (by decide +kernel) rfl (by decide) rfl (Or.inl ⟨rfl, rfl⟩) rfl fl_7_84 rfl ?_
            exact A_ret ⟨by decide +kernel, rfl⟩ ⟨rfl, h47⟩
          · have h48 := h44.2 (Decidable.not_not.mp b46)
            refine A_iload_n (i := 2) (f := 2) rfl (by decide +kernel) rfl ?_
            refine A_bipush (a := 61) (by decide +kernel) (by unfold in32; omega) (by decide +kernel) ?_
            refine A_ic_ne (off := 20) (tgt := 138) (by decide +kernel) (by omega) (fun b49 => ?_) (fun b49 => ?_)
            · have h50 := h48.1 b49
              refine A_aload_n (i := 0) (f := 0) (by omega) rfl (by decide +kernel) rfl ?_
              refine A_iconst (a := 3) (by decide +kernel) (by unfold in32; omega) ?_
              refine B_putp (M' := (mset M29 2 15 3)) (q := (RX7, TX7, 18)) (ci := 7) (j := 15) (p := 15) (by decide +kernel) rfl (by decide) rfl (Or.inl ⟨rfl, rfl⟩) rfl fl_7_84 rfl ?_
              exact A_ret ⟨by decide +kernel, rfl⟩ ⟨rfl, h50⟩
            · have h51 := h48.2 (Decidable.not_not.mp b49)
              refine A_aload_n (i := 0) (f := 0) (by omega) rfl (by decide +kernel) rfl ?_
              refine A_sipush (a := 10017) (by decide +kernel) (by unfold in32; omega) (by decide +kernel) ?_
              refine B_putp (M' := (mset M29 2 17 10017)) (q := (RX7, TX7, 18)) (ci := 7) (j := 17) (p := 17) (by decide +kernel) rfl (by decide) rfl (Or.inl ⟨rfl, rfl⟩) rfl fl_7_124 rfl ?_
              refine A_aload_n (i := 0) (f := 0) (by omega) rfl (by decide +kernel) rfl ?_
              refine A_dup (by decide +kernel) (by simp) ?_
              refine B_getp (v := ((mset M29 2 17 10017) 2 13)) (q := (RX7, TX7, 18)) (ci := 7) (j := 13) (p := 13) (by decide +kernel) rfl (by decide) rfl (Or.inl rfl) fl_7_78 rfl ?_
              refine A_iconst (a := 1) (by decide +kernel) (by unfold in32; omega) ?_
              refine A_iadd (by decide +kernel) ?_
              refine B_putp (M' := (mset (mset M29 2 17 10017) 2 13 (w32 (((mset M29 2 17 10017) 2 13) + 1)))) (q := (RX7, TX7, 18)) (ci := 7) (j := 13) (p := 13) (by decide +kernel) rfl (by decide) rfl (Or.inl ⟨rfl, rfl⟩) rfl fl_7_78 rfl ?_
              refine A_aload_n (i := 0) (f := 0) (by omega) rfl (by decide +kernel) rfl ?_
              refine A_iconst (a := 3) (by decide +kernel) (by unfold in32; omega) ?_
              refine B_putp (M' := (mset (mset (mset M29 2 17 10017) 2 13 (w32 (((mset M29 2 17 10017) 2 13) + 1))) 2 15 3)) (q := (RX7, TX7, 18)) (ci := 7) (j := 15) (p := 15) (by decide +kernel) rfl (by decide) rfl (Or.inl ⟨rfl, rfl⟩) rfl fl_7_84 rfl ?_
              exact A_ret ⟨by decide +kernel, rfl⟩ ⟨rfl, h51⟩
        · have h45 := h36.2 (Decidable.not_not.mp b43)
          refine A_aload_n (i := 0) (f := 0) (by omega) rfl (by decide +kernel) rfl ?_
          refine A_sipush (a := 10016) (by decide +kernel) (by unfold in32; omega) (by decide +kernel) ?_
          refine B_putp (M' := (mset M29 2 17 10016)) (q := (RX7, TX7, 18)) (ci := 7) (j := 17) (p := 17) (by decide +kernel) rfl (by decide) rfl (Or.inl ⟨rfl, rfl⟩) rfl fl_7_124 rfl ?_
          refine A_aload_n (i := 0) (f := 0) (by omega) rfl (by decide +kernel) rfl ?_
          refine A_dup (by decide +kernel) (by simp) ?_
          refine B_getp (v := ((mset M29 2 17 10016) 2 13)) (q := (RX7, TX7, 18)) (ci := 7) (j := 13) (p := 13) (by decide +kernel) rfl (by decide) rfl (Or.inl rfl) fl_7_78 rfl ?_
          refine A_iconst (a := 1) (by decide +kernel) (by unfold in32; omega) ?_
          refine A_iadd (by decide +kernel) ?_
          refine B_putp (M' := (mset (mset M29 2 17 10016) 2 13 (w32 (((mset M29 2 17 10016) 2 13) + 1)))) (q := (RX7, TX7, 18)) (ci := 7) (j := 13) (p := 13) (by decide +kernel) rfl (by decide) rfl (Or.inl ⟨rfl, rfl⟩) rfl fl_7_78 rfl ?_
          refine A_goto (off := 32) (tgt := 138) (by decide +kernel) (by omega) ?_
          refine A_aload_n (i := 0) (f := 0) (by omega) rfl (by decide +kernel) rfl ?_
          refine A_iconst (a := 3) (by decide +kernel) (by unfold in32; omega) ?_
          refine B_putp (M' := (mset (mset (mset M29 2 17 10016) 2 13 (w32 (((mset M29 2 17 10016) 2 13) + 1))) 2 15 3)) (q := (RX7, TX7, 18)) (ci := 7) (j := 15) (p := 15) (by decide +kernel) rfl (by decide) rfl (Or.inl ⟨rfl, rfl⟩) rfl fl_7_84 rfl ?_
          exact A_ret ⟨by decide +kernel, rfl⟩ ⟨rfl, h45⟩
    · have h33 := h30.2 (Decidable.not_not.mp b31)
      refine A_iload_n (i := 2) (f := 2) rfl (by decide +kernel) rfl ?_
      refine A_bipush (a := 61) (by decide +kernel) (by unfold in32; omega) (by decide +kernel) ?_
      refine A_ic_ne (off := 23) (tgt := 77) (by decide +kernel) (by omega) (fun b52 => ?_) (fun b52 => ?_)
      · have h53 := h33.1 b52
        refine A_iload_n (i := 1) (f := 1) rfl (by decide +kernel) rfl ?_
        refine A_bipush (a := 60) (by decide +kernel) (by unfold in32; omega) (by decide +kernel) ?_
        refine A_ic_ne (off := 29) (tgt := 109) (by decide +kernel) (by omega) (fun b55 => ?_) (fun b55 => ?_)
        · have h56 := h53.1 b55
          refine A_iload_n (i := 1) (f := 1) rfl (by decide +kernel) rfl ?_
          refine A_bipush (a := 62) (by decide +kernel) (by unfold in32; omega) (by decide +kernel) ?_
          refine A_ic_ne (off := 26) (tgt := 138) (by decide +kernel) (by omega) (fun b58 => ?_) (fun b58 => ?_)
          · have h59 := h56.1 b58
            refine A_aload_n (i := 0) (f := 0) (by omega) rfl (by decide +kernel) rfl ?_
            refine A_iconst (a := 3) (by decide +kernel) (by unfold in32; omega) ?_
            refine B_putp (M' := (mset M29 2 15 3)) (q := (RX7, TX7, 18)) (ci := 7) (j := 15) (p := 15) (by decide +kernel) rfl (by decide) rfl (Or.inl ⟨rfl, rfl⟩) rfl fl_7_84 rfl ?_
            exact A_ret ⟨by decide +kernel, rfl⟩ ⟨rfl, h59⟩
          · have h60 := h56.2 (Decidable.not_not.mp b58)
            refine A_iload_n (i := 2) (f := 2) rfl (by decide +kernel) rfl ?_
            refine A_bipush (a := 61) (by decide +kernel) (by unfold in32; omega) (by decide +kernel) ?_
            refine A_ic_ne (off := 20) (tgt := 138) (by decide +kernel) (by omega) (fun b61 => ?_) (fun b61 => ?_)
            · have h62 := h60.1 b61
              refine A_aload_n (i := 0) (f := 0) (by omega) rfl (by decide +kernel) rfl ?_
              refine A_iconst (a := 3) (by decide +kernel) (by unfold in32; omega) ?_
              refine B_putp (M' := (mset M29 2 15 3)) (q := (RX7, TX7, 18)) (ci := 7) (j := 15) (p := 15) (by decide +kernel) rfl (by decide) rfl (Or.inl ⟨rfl, rfl⟩) rfl fl_7_84 rfl ?_
              exact A_ret ⟨by decide +kernel, rfl⟩ ⟨rfl, h62⟩
            · have h63 := h60.2 (Decidable.not_not.mp b61)
              refine A_aload_n (i := 0) (f := 0) (by omega) rfl (by decide +kernel) rfl ?_
              refine A_sipush (a := 10017) (by decide +kernel) (by unfold in32; omega) (by decide +kernel) ?_
              refine B_putp (M' := (mset M29 2 17 10017)) (q := (RX7, TX7, 18)) (ci := 7) (j := 17) (p := 17) (by decide +kernel) rfl (by decide) rfl (Or.inl ⟨rfl, rfl⟩) rfl fl_7_124 rfl ?_
              refine A_aload_n (i := 0) (f := 0) (by omega) rfl (by decide +kernel) rfl ?_
              refine A_dup (by decide +kernel) (by simp) ?_
              refine B_getp (v := ((mset M29 2 17 10017) 2 13)) (q := (RX7, TX7, 18)) (ci := 7) (j := 13) (p := 13) (by decide +kernel) rfl (by decide) rfl (Or.inl rfl) fl_7_78 rfl ?_
              refine A_iconst (a := 1) (by decide +kernel) (by unfold in32; omega) ?_
              refine A_iadd (by decide +kernel) ?_
              refine B_putp (M' := (mset (mset M29 2 17 10017) 2 13 (w32 (((mset M29 2 17 10017) 2 13) + 1)))) (q := (RX7, TX7, 18)) (ci := 7) (j := 13) (p := 13) (by decide +kernel) rfl (by decide) rfl (Or.inl ⟨rfl, rfl⟩) rfl fl_7_78 rfl ?_
              refine A_aload_n (i := 0) (f := 0) (by omega) rfl (by decide +kernel) rfl ?_
              refine A_iconst (a := 3) (by decide +kernel) (by unfold in32; omega) ?_
              refine B_putp (M' := (mset (mset (mset M29 2 17 10017) 2 13 (w32 (((mset M29 2 17 10017) 2 13) + 1))) 2 15 3)) (q := (RX7, TX7, 18)) (ci := 7) (j := 15) (p := 15) (by decide +kernel) rfl (by decide) rfl (Or.inl ⟨rfl, rfl⟩) rfl fl_7_84 rfl ?_
              exact A_ret ⟨by decide +kernel, rfl⟩ ⟨rfl, h63⟩
        · have h57 := h53.2 (Decidable.not_not.mp b55)
          refine A_iload_n (i := 2) (f := 2) rfl (by decide +kernel) rfl ?_
          refine A_bipush (a := 62) (by decide +kernel) (by unfold in32; omega) (by decide +kernel) ?_
          refine A_ic_ne (off := 23) (tgt := 109) (by decide +kernel) (by omega) (fun b64 => ?_) (fun b64 => ?_)
          · have h65 := h57.1 b64
            refine A_iload_n (i := 1) (f := 1) rfl (by decide +kernel) rfl ?_
            refine A_bipush (a := 62) (by decide +kernel) (by unfold in32; omega) (by decide +kernel) ?_
            refine A_ic_ne (off := 26) (tgt := 138) (by decide +kernel) (by omega) (fun b67 => ?_) (fun b67 => ?_)
            · have h68 := h65.1 b67
              refine A_aload_n (i := 0) (f := 0) (by omega) rfl (by decide +kernel) rfl ?_
              refine A_iconst (a := 3) (by decide +kernel) (by unfold in32; omega) ?_
              refine B_putp (M' := (mset M29 2 15 3)) (q := (RX7, TX7, 18)) (ci := 7) (j := 15) (p := 15) (by decide +kernel) rfl (by decide) rfl (Or.inl ⟨rfl, rfl⟩) rfl fl_7_84 rfl ?_
              exact A_ret ⟨by decide +kernel, rfl⟩ ⟨rfl, h68⟩
            · have h69 := h65.2 (Decidable.not_not.mp b67)
              refine A_iload_n (i := 2) (f := 2) rfl (by decide +kernel) rfl ?_
              refine A_bipush (a := 61) (by decide +kernel) (by unfold in32; omega) (by decide +kernel) ?_
              refine A_ic_ne (off := 20) (tgt := 138) (by decide +kernel) (by omega) (fun b70 => ?_) (fun b70 => ?_)
              · have h71 := h69.1 b70
                refine A_aload_n (i := 0) (f := 0) (by omega) rfl (by decide +kernel) rfl ?_
                refine A_iconst (a := 3) (by decide +kernel) (by unfold in32; omega) ?_
                refine B_putp (M' := (mset M29 2 15 3)) (q := (RX7, TX7, 18)) (ci := 7) (j := 15) (p := 15) (by decide +kernel) rfl (by decide) rfl (Or.inl ⟨rfl, rfl⟩) rfl fl_7_84 rfl ?_
                exact A_ret ⟨by decide +kernel, rfl⟩ ⟨rfl, h71⟩
              · have h72 := h69.2 (Decidable.not_not.mp b70)
                refine A_aload_n (i := 0) (f := 0) (by omega) rfl (by decide +kernel) rfl ?_
                refine A_sipush (a := 10017) (by decide +kernel) (by unfold in32; omega) (by decide +kernel) ?_
                refine B_putp (M' := (mset M29 2 17 10017)) (q := (RX7, TX7, 18)) (ci := 7) (j := 17) (p := 17) (by decide +kernel) rfl (by decide) rfl (Or.inl ⟨rfl, rfl⟩) rfl fl_7_124 rfl ?_
                refine A_aload_n (i := 0) (f := 0) (by omega) rfl (by decide +kernel) rfl ?_
                refine A_dup (by decide +kernel) (by simp) ?_
                refine B_getp (v := ((mset M29 2 17 10017) 2 13)) (q := (RX7, TX7, 18)) (ci := 7) (j := 13) (p := 13) (by decide +kernel) rfl (by decide) rfl (Or.inl rfl) fl_7_78 rfl ?_
                refine A_iconst (a := 1) (by decide +kernel) (by unfold in32; omega) ?_
                refine A_iadd (by decide +kernel) ?_
                refine B_putp (M' := (mset (mset M29 2 17 10017) 2 13 (w32 (((mset M29 2 17 10017) 2 13) + 1)))) (q := (RX7, TX7, 18)) (ci := 7) (j := 13) (p := 13) (by decide +kernel) rfl (by decide) rfl (Or.inl ⟨rfl, rfl⟩) rfl fl_7_78 rfl ?_
                refine A_aload_n (i := 0) (f := 0) (by omega) rfl (by decide +kernel) rfl ?_
                refine A_iconst (a := 3) (by decide +kernel) (by unfold in32; omega) ?_
                refine B_putp (M' := (mset (mset (mset M29 2 17 10017) 2 13 (w32 (((mset M29 2 17 10017) 2 13) + 1))) 2 15 3)) (q := (RX7, TX7, 18)) (ci := 7) (j := 15) (p := 15) (by decide +kernel) rfl (by decide) rfl (Or.inl ⟨rfl, rfl⟩) rfl fl_7_84 rfl ?_
                exact A_ret ⟨by decide +kernel, rfl⟩ ⟨rfl, h72⟩
          · have h66 := h57.2 (Decidable.not_not.mp b64)
            refine A_aload_n (i := 0) (f := 0) (by omega) rfl (by decide +kernel) rfl ?_
            refine A_sipush (a := 10016) (by decide +kernel) (by unfold in32; omega) (by decide +kernel) ?_
            refine B_putp (M' := (mset M29 2 17 10016)) (q := (RX7, TX7, 18)) (ci := 7) (j := 17) (p := 17) (by decide +kernel) rfl (by decide) rfl (Or.inl ⟨rfl, rfl⟩) rfl fl_7_124 rfl ?_
            refine A_aload_n (i := 0) (f := 0) (by omega) rfl (by decide +kernel) rfl ?_
            refine A_dup (by decide +kernel) (by simp) ?_
            refine B_getp (v := ((mset M29 2 17 10016) 2 13)) (q := (RX7, TX7, 18)) (ci := 7) (j := 13) (p := 13) (by decide +kernel) rfl (by decide) rfl (Or.inl rfl) fl_7_78 rfl ?_
            refine A_iconst (a := 1) (by decide +kernel) (by unfold in32; omega) ?_
            refine A_iadd (by decide +kernel) ?_
            refine B_putp (M' := (mset (mset M29 2 17 10016) 2 13 (w32 (((mset M29 2 17 10016) 2 13) + 1)))) (q := (RX7, TX7, 18)) (ci := 7) (j := 13) (p := 13) (by decide +kernel) rfl (by decide) rfl (Or.inl ⟨rfl, rfl⟩) rfl fl_7_78 rfl ?_
            refine A_goto (off := 32) (tgt := 138) (by decide +kernel) (by omega) ?_
            refine A_aload_n (i := 0) (f := 0) (by omega) rfl (by decide +kernel) rfl ?_
            refine A_iconst (a := 3) (by decide +kernel) (by unfold in32; omega) ?_
            refine B_putp (M' := (mset (mset (mset M29 2 17 10016) 2 13 (w32 (((mset M29 2 17 10016) 2 13) + 1))) 2 15 3)) (q := (RX7, TX7, 18)) (ci := 7) (j := 15) (p := 15) (by decide +kernel) rfl (by decide) rfl (Or.inl ⟨rfl, rfl⟩) rfl fl_7_84 rfl ?_
            exact A_ret ⟨by decide +kernel, rfl⟩ ⟨rfl, h66⟩
      · have h54 := h33.2 (Decidable.not_not.mp b52)
        refine A_aload_n (i := 0) (f := 0) (by omega) rfl (by decide +kernel) rfl ?_
        refine A_sipush (a := 10014) (by decide +kernel) (by unfold in32; omega) (by decide +kernel) ?_
        refine B_putp (M' := (mset M29 2 17 10014)) (q := (RX7, TX7, 18)) (ci := 7) (j := 17) (p := 17) (by decide +kernel) rfl (by decide) rfl (Or.inl ⟨rfl, rfl⟩) rfl fl_7_124 rfl ?_
        refine A_aload_n (i := 0) (f := 0) (by omega) rfl (by decide +kernel) rfl ?_
        refine A_dup (by decide +kernel) (by simp) ?_
        refine B_getp (v := ((mset M29 2 17 10014) 2 13)) (q := (RX7, TX7, 18)) (ci := 7) (j := 13) (p := 13) (by decide +kernel) rfl (by decide) rfl (Or.inl rfl) fl_7_78 rfl ?_
        refine A_iconst (a := 1) (by decide +kernel) (by unfold in32; omega) ?_
        refine A_iadd (by decide +kernel) ?_
        refine B_putp (M' := (mset (mset M29 2 17 10014) 2 13 (w32 (((mset M29 2 17 10014) 2 13) + 1)))) (q := (RX7, TX7, 18)) (ci := 7) (j := 13) (p := 13) (by decide +kernel) rfl (by decide) rfl (Or.inl ⟨rfl, rfl⟩) rfl fl_7_78 rfl ?_
        refine A_goto (off := 64) (tgt := 138) (by decide +kernel) (by omega) ?_
        refine A_aload_n (i := 0) (f := 0) (by omega) rfl (by decide +kernel) rfl ?_
        refine A_iconst (a := 3) (by decide +kernel) (by unfold in32; omega) ?_
        refine B_putp (M' := (mset (mset (mset M29 2 17 10014) 2 13 (w32 (((mset M29 2 17 10014) 2 13) + 1))) 2 15 3)) (q := (RX7, TX7, 18)) (ci := 7) (j := 15) (p := 15) (by decide +kernel) rfl (by decide) rfl (Or.inl ⟨rfl, rfl⟩) rfl fl_7_84 rfl ?_
        exact A_ret ⟨by decide +kernel, rfl⟩ ⟨rfl, h54⟩
theorem q_7_knotOfSign {x0 : Int} {M : Mem} {P : Int → Mem → Prop} (h : ((x0 = 40 → (P 10030 M)) ∧ ((x0 = 41 → (P 10031 M)) ∧ ((x0 = 42 → (P 10021 M)) ∧ ((x0 = 43 → (P 10019 M)) ∧ ((x0 = 44 → (P (-1) M)) ∧ ((x0 = 45 → (P 10020 M)) ∧ ((x0 = 46 → (P (-1) M)) ∧ ((x0 = 47 → (P 10022 M)) ∧ ((x0 = 48 → (P (-1) M)) ∧ ((x0 = 49 → (P (-1) M)) ∧ ((x0 = 50 → (P (-1) M)) ∧ ((x0 = 51 → (P (-1) M)) ∧ ((x0 = 52 → (P (-1) M)) ∧ ((x0 = 53 → (P (-1) M)) ∧ ((x0 = 54 → (P (-1) M)) ∧ ((x0 = 55 → (P (-1) M)) ∧ ((x0 = 56 → (P (-1) M)) ∧ ((x0 = 57 → (P (-1) M)) ∧ ((x0 = 58 → (P (-1) M)) ∧ ((x0 = 59 → (P 10032 M)) ∧ ((x0 = 60 → (P 10013 M)) ∧ ((x0 = 61 → (P 10015 M)) ∧ ((x0 = 62 → (P 10018 M)) ∧ ((x0 < 40 ∨ 62 < x0) → (P (-1) M)))))))))))))))))))))))))) : CI m7_knotOfSign 1 [(0, x0)] M P := by
  refine CI_of (by decide +kernel) (Nat.le_of_ble_eq_true rfl) ?_
  show A m7_knotOfSign 1 0 0 [(0, x0)] [] M (Ki P)
  refine A_iload_n (i := 0) (f := 0) rfl (by decide +kernel) rfl ?_
  have hsw : x0 = 40 ∨ x0 = 41 ∨ x0 = 42 ∨ x0 = 43 ∨ x0 = 44 ∨ x0 = 45 ∨ x0 = 46 ∨ x0 = 47 ∨ x0 = 48 ∨ x0 = 49 ∨ x0 = 50 ∨ x0 = 51 ∨ x0 = 52 ∨ x0 = 53 ∨ x0 = 54 ∨ x0 = 55 ∨ x0 = 56 ∨ x0 = 57 ∨ x0 = 58 ∨ x0 = 59 ∨ x0 = 60 ∨ x0 = 61 ∨ x0 = 62 ∨ (x0 < 40 ∨ 62 < x0) := by omega
  rcases hsw with e1 | e1 | e1 | e1 | e1 | e1 | e1 | e1 | e1 | e1 | e1 | e1 | e1 | e1 | e1 | e1 | e1 | e1 | e1 | e1 | e1 | e1 | e1 | e1
  · have h2 := h.1 e1
    refine A_tin (len := 107) (dflt := 147) (lo := 40) (hi := 62) (offs := #[135, 139, 127, 119, 147, 123, 147, 131, 147, 147, 147, 147, 147, 147, 147, 147, 147, 147, 147, 143, 107, 111, 115]) (off := 135) (tgt := 136) (by decide +kernel) (by omega) (by omega) (by rw [e1]; rfl) (by omega) ?_
    refine A_sipush (a := 10030) (by decide +kernel) (by unfold in32; omega) (by decide +kernel) ?_
    exact A_ret ⟨by decide +kernel, Or.inl rfl⟩ ⟨_, rfl, h2⟩
  · have h3 := h.2.1 e1
    refine A_tin (len := 107) (dflt := 147) (lo := 40) (hi := 62) (offs := #[135, 139, 127, 119, 147, 123, 147, 131, 147, 147, 147, 147, 147, 147, 147, 147, 147, 147, 147, 143, 107, 111, 115]) (off := 139) (tgt := 140) (by decide +kernel) (by omega) (by omega) (by rw [e1]; rfl) (by omega) ?_
    refine A_sipush (a := 10031) (by decide +kernel) (by unfold in32; omega) (by decide +kernel) ?_
    exact A_ret ⟨by decide +kernel, Or.inl rfl⟩ ⟨_, rfl, h3⟩
  · have h4 := h.2.2.1 e1
    refine A_tin (len := 107) (dflt := 147) (lo := 40) (hi := 62) (offs := #[135, 139, 127, 119, 147, 123, 147, 131, 147, 147, 147, 147, 147, 147, 147, 147, 147, 147, 147, 143, 107, 111, 115]) (off := 127) (tgt := 128) (by decide +kernel) (by omega) (by omega) (by rw [e1]; rfl) (by omega) ?_
    refine A_sipush (a := 10021) (by decide +kernel) (by unfold in32; omega) (by decide +kernel) ?_
    exact A_ret ⟨by decide +kernel, Or.inl rfl⟩ ⟨_, rfl, h4⟩
  · have h5 := h.2.2.2.1 e1
    refine A_tin (len := 107) (dflt := 147) (lo := 40) (hi := 62) (offs := #[135, 139, 127, 119, 147, 123, 147, 131, 147, 147, 147, 147, 147, 147, 147, 147, 147, 147, 147, 143, 107, 111, 115]) (off := 119) (tgt := 120) (by decide +kernel) (by omega) (by omega) (by rw [e1]; rfl) (by omega) ?_
    refine A_sipush (a := 10019) (by decide +kernel) (by unfold in32; omega) (by decide +kernel) ?_
    exact A_ret ⟨by decide +kernel, Or.inl rfl⟩ ⟨_, rfl, h5⟩
  · have h6 := h.2.2.2.2.1 e1
    refine A_tin (len := 107) (dflt := 147) (lo := 40) (hi := 62) (offs := #[135, 139, 127, 119, 147, 123, 147, 131, 147, 147, 147, 147, 147, 147, 147, 147, 147, 147, 147, 143, 107, 111, 115]) (off := 147) (tgt := 148) (by decide +kernel) (by omega) (by omega) (by rw [e1]; rfl) (by omega) ?_
    refine A_iconst (a := (-1)) (by decide +kernel) (by unfold in32; omega) ?_
    exact A_ret ⟨by decide +kernel, Or.inl rfl⟩ ⟨_, rfl, h6⟩
  · have h7 := h.2.2.2.2.2.1 e1
    refine A_tin (len := 107) (dflt := 147) (lo := 40) (hi := 62) (offs := #[135, 139, 127, 119, 147, 123, 147, 131, 147, 147, 147, 147, 147, 147, 147, 147, 147, 147, 147, 143, 107, 111, 115]) (off := 123) (tgt := 124) (by decide +kernel) (by omega) (by omega) (by rw [e1]; rfl) (by omega) ?_
    refine A_sipush (a := 10020) (by decide +kernel) (by unfold in32; omega) (by decide +kernel) ?_
    exact A_ret ⟨by decide +kernel, Or.inl rfl⟩ ⟨_, rfl, h7⟩
  · have h8 := h.2.2.2.2.2.2.1 e1
    refine A_tin (len := 107) (dflt := 147) (lo := 40) (hi := 62) (offs := #[135, 139, 127, 119, 147, 123, 147, 131, 147, 147, 147, 147, 147, 147, 147, 147, 147, 147, 147, 143, 107, 111, 115]) (off := 147) (tgt := 148) (by decide +kernel) (by omega) (by omega) (by rw [e1]; rfl) (by omega) ?_
    refine A_iconst (a := (-1)) (by decide +kernel) (by unfold in32; omega) ?_
    exact A_ret ⟨by decide +kernel, Or.inl rfl⟩ ⟨_, rfl, h8⟩
  · have h9 := h.2.2.2.2.2.2.2.1 e1
    refine A_tin (len := 107) (dflt := 147) (lo := 40) (hi := 62) (offs := #[135, 139, 127, 119, 147, 123, 147, 131, 147, 147, 147, 147, 147, 147, 147, 147, 147, 147, 147, 143, 107, 111, 115]) (off := 131) (tgt := 132) (by decide +kernel) (by omega) (by omega) (by rw [e1]; rfl) (by omega) ?_
    refine A_sipush (a := 10022) (by decide +kernel) (by unfold in32; omega) (by decide +kernel) ?_
    exact A_ret ⟨by decide +kernel, Or.inl rfl⟩ ⟨_, rfl, h9⟩
  · have h10 := h.2.2.2.2.2.2.2.2.1 e1
    refine A_tin (len := 107) (dflt := 147) (lo := 40) (hi := 62) (offs := #[135, 139, 127, 119, 147, 123, 147, 131, 147, 147, 147, 147, 147, 147, 147, 147, 147, 147, 147, 143, 107, 111, 115]) (off := 147) (tgt := 148) (by decide +kernel) (by omega) (by omega) (by rw [e1]; rfl) (by omega) ?_
    refine A_iconst (a := (-1)) (by decide +kernel) (by unfold in32; omega) ?_
    exact A_ret ⟨by decide +kernel, Or.inl rfl⟩ ⟨_, rfl, h10⟩
  · have h11 := h.2.2.2.2.2.2.2.2.2.1 e1
    refine A_tin (len := 107) (dflt := 147) (lo := 40) (hi := 62) (offs := #[135, 139, 127, 119, 147, 123, 147, 131, 147, 147, 147, 147, 147, 147, 147, 147, 147, 147, 147, 143, 107, 111, 115]) (off := 147) (tgt := 148) (by decide +kernel) (by omega) (by omega) (by rw [e1]; rfl) (by omega) ?_
    refine A_iconst (a := (-1)) (by decide +kernel) (by unfold in32; omega) ?_
    exact A_ret ⟨by decide +kernel, Or.inl rfl⟩ ⟨_, rfl, h11⟩
  · have h12 := h.2.2.2.2.2.2.2.2.2.2.1 e1
    refine A_tin (len := 107) (dflt := 147) (lo := 40) (hi := 62) (offs := #[135, 139, 127, 119, 147, 123, 147, 131, 147, 147, 147, 147, 147, 147, 147, 147, 147, 147, 147, 143, 107, 111, 115]) (off := 147) (tgt := 148) (by decide +kernel) (by omega) (by omega) (by rw [e1]; rfl) (by omega) ?_
    refine A_iconst (a := (-1)) (by decide +kernel) (by unfold in32; omega) ?_
    exact A_ret ⟨by decide +kernel, Or.inl rfl⟩ ⟨_, rfl, h12⟩
  · have h13 := h.2.2.2.2.2.2.2.2.2.2.2.1 e1
    refine A_tin (len := 107) (dflt := 147) (lo := 40) (hi := 62) (offs := #[135, 139, 127, 119, 147, 123, 147, 131, 147, 147, 147, 147, 147, 147, 147, 147, 147, 147, 147, 143, 107, 111, 115]) (off := 147) (tgt := 148) (by decide +kernel) (by omega) (by omega) (by rw [e1]; rfl) (by omega) ?_
    refine A_iconst (a := (-1)) (by decide +kernel) (by unfold in32; omega) ?_
    exact A_ret ⟨by decide +kernel, Or.inl rfl⟩ ⟨_, rfl, h13⟩
  · have h14 := h.2.2.2.2.2.2.2.2.2.2.2.2.1 e1
    refine A_tin (len := 107) (dflt := 147) (lo := 40) (hi := 62) (offs := #[135, 139, 127, 119, 147, 123, 147, 131, 147, 147, 147, 147, 147, 147, 147, 147, 147, 147, 147, 143, 107, 111, 115]) (off := 147) (tgt := 148) (by decide +kernel) (by omega) (by omega) (by rw [e1]; rfl) (by omega) ?_
    refine A_iconst (a := (-1)) (by decide +kernel) (by unfold in32; omega) ?_
    exact A_ret ⟨by decide +kernel, Or.inl rfl⟩ ⟨_, rfl, h14⟩
  · have h15 := h.2.2.2.2.2.2.2.2.2.2.2.2.2.1 e1
    refine A_tin (len := 107) (dflt := 147) (lo := 40) (hi := 62) (offs := #[135, 139, 127, 119, 147, 123, 147, 131, 147, 147, 147, 147, 147, 147, 147, 147, 147, 147, 147, 143, 107, 111, 115]) (off := 147) (tgt := 148) (by decide +kernel) (by omega) (by omega) (by rw [e1]; rfl) (by omega) ?_
    refine A_iconst (a := (-1)) (by decide +kernel) (by unfold in32; omega) ?_
    exact A_ret ⟨by decide +kernel, Or.inl rfl⟩ ⟨_, rfl, h15⟩
  · have h16 := h.2.2.2.2.2.2.2.2.2.2.2.2.2.2.1 e1
    refine A_tin (len := 107) (dflt := 147) (lo := 40) (hi := 62) (offs := #[135, 139, 127, 119, 147, 123, 147, 131, 147, 147, 147, 147, 147, 147, 147, 147, 147, 147, 147, 143, 107, 111, 115]) (off := 147) (tgt := 148) (by decide +kernel) (by omega) (by omega) (by rw [e1]; rfl) (by omega) ?_
    refine A_iconst (a := (-1)) (by decide +kernel) (by unfold in32; omega) ?_
    exact A_ret ⟨by decide +kernel, Or.inl rfl⟩ ⟨_, rfl, h16⟩
  · have h17 := h.2.2.2.2.2.2.2.2.2.2.2.2.2.2.2.1 e1
    refine A_tin (len := 107) (dflt := 147) (lo := 40) (hi := 62) (offs := #[135, 139, 127, 119, 147, 123, 147, 131, 147, 147, 147, 147, 147, 147, 147, 147, 147, 147, 147, 143, 107, 111, 115]) (off := 147) (tgt := 148) (by decide +kernel) (by omega) (by omega) (by rw [e1]; rfl) (by omega) ?_
    refine A_iconst (a := (-1)) (by decide +kernel) (by unfold in32; omega) ?_
    exact A_ret ⟨by decide +kernel, Or.inl rfl⟩ ⟨_, rfl, h17⟩
  · have h18 := h.2.2.2.2.2.2.2.2.2.2.2.2.2.2.2.2.1 e1
    refine A_tin (len := 107) (dflt := 147) (lo := 40) (hi := 62) (offs := #[135, 139, 127, 119, 147, 123, 147, 131, 147, 147, 147, 147, 147, 147, 147, 147, 147, 147, 147, 143, 107, 111, 115]) (off := 147) (tgt := 148) (by decide +kernel) (by omega) (by omega) (by rw [e1]; rfl) (by omega) ?_
    refine A_iconst (a := (-1)) (by decide +kernel) (by unfold in32; omega) ?_
    exact A_ret ⟨by decide +kernel, Or.inl rfl⟩ ⟨_, rfl, h18⟩
  · have h19 := h.2.2.2.2.2.2.2.2.2.2.2.2.2.2.2.2.2.1 e1
    refine A_tin (len := 107) (dflt := 147) (lo := 40) (hi := 62) (offs := #[135, 139, 127, 119, 147, 123, 147, 131, 147, 147, 147, 147, 147, 147, 147, 147, 147, 147, 147, 143, 107, 111, 115]) (off := 147) (tgt := 148) (by decide +kernel) (by omega) (by omega) (by rw [e1]; rfl) (by omega) ?_
    refine A_iconst (a := (-1)) (by decide +kernel) (by unfold in32; omega) ?_
    exact A_ret ⟨by decide +kernel, Or.inl rfl⟩ ⟨_, rfl, h19⟩
  · have h20 := h.2.2.2.2.2.2.2.2.2.2.2.2.2.2.2.2.2.2.1 e1
    refine A_tin (len := 107) (dflt := 147) (lo := 40) (hi := 62) (offs := #[135, 139, 127, 119, 147, 123, 147, 131, 147, 147, 147, 147, 147, 147, 147, 147, 147, 147, 147, 143, 107, 111, 115]) (off := 147) (tgt := 148) (by decide +kernel) (by omega) (by omega) (by rw [e1]; rfl) (by omega) ?_
    refine A_iconst (a := (-1)) (by decide +kernel) (by unfold in32; omega) ?_
    exact A_ret ⟨by decide +kernel, Or.inl rfl⟩ ⟨_, rfl, h20⟩
  · have h21 := h.2.2.2.2.2.2.2.2.2.2.2.2.2.2.2.2.2.2.2.1 e1
    refine A_tin (len := 107) (dflt := 147) (lo := 40) (hi := 62) (offs := #[135, 139, 127, 119, 147, 123, 147, 131, 147, 147, 147, 147, 147, 147, 147, 147, 147, 147, 147, 143, 107, 111, 115]) (off := 143) (tgt := 144) (by decide +kernel) (by omega) (by omega) (by rw [e1]; rfl) (by omega) ?_
    refine A_sipush (a := 10032) (by decide +kernel) (by unfold in32; omega) (by decide +kernel) ?_
    exact A_ret ⟨by decide +kernel, Or.inl rfl⟩ ⟨_, rfl, h21⟩
  · have h22 := h.2.2.2.2.2.2.2.2.2.2.2.2.2.2.2.2.2.2.2.2.1 e1
    refine A_tin (len := 107) (dflt := 147) (lo := 40) (hi := 62) (offs := #[135, 139, 127, 119, 147, 123, 147, 131, 147, 147, 147, 147, 147, 147, 147, 147, 147, 147, 147, 143, 107, 111, 115]) (off := 107) (tgt := 108) (by decide +kernel) (by omega) (by omega) (by rw [e1]; rfl) (by omega) ?_
    refine A_sipush (a := 10013) (by decide +kernel) (by unfold in32; omega) (by decide +kernel) ?_
    exact A_ret ⟨by decide +kernel, Or.inl rfl⟩ ⟨_, rfl, h22⟩
  · have h23 := h.2.2.2.2.2.2.2.2.2.2.2.2.2.2.2.2.2.2.2.2.2.1 e1
    refine A_tin (len := 107) (dflt := 147) (lo := 40) (hi := 62) (offs := #[135, 139, 127, 119, 147, 123, 147, 131, 147, 147, 147, 147, 147, 147, 147, 147, 147, 147, 147, 143, 107, 111, 115]) (off := 111) (tgt := 112) (by decide +kernel) (by omega) (by omega) (by rw [e1]; rfl) (by omega) ?_
    refine A_sipush (a := 10015) (by decide +kernel) (by unfold in32; omega) (by decide +kernel) ?_
    exact A_ret ⟨by decide +kernel, Or.inl rfl⟩ ⟨_, rfl, h23⟩
  · have h24 := h.2.2.2.2.2.2.2.2.2.2.2.2.2.2.2.2.2.2.2.2.2.2.1 e1
    refine A_tin (len := 107) (dflt := 147) (lo := 40) (hi := 62) (offs := #[135, 139, 127, 119, 147, 123, 147, 131, 147, 147, 147, 147, 147, 147, 147, 147, 147, 147, 147, 143, 107, 111, 115]) (off := 115) (tgt := 116) (by decide +kernel) (by omega) (by omega) (by rw [e1]; rfl) (by omega) ?_
    refine A_sipush (a := 10018) (by decide +kernel) (by unfold in32; omega) (by decide +kernel) ?_
    exact A_ret ⟨by decide +kernel, Or.inl rfl⟩ ⟨_, rfl, h24⟩
  · have h25 := h.2.2.2.2.2.2.2.2.2.2.2.2.2.2.2.2.2.2.2.2.2.2.2 e1
    refine A_tout (len := 107) (dflt := 147) (lo := 40) (hi := 62) (offs := #[135, 139, 127, 119, 147, 123, 147, 131, 147, 147, 147, 147, 147, 147, 147, 147, 147, 147, 147, 143, 107, 111, 115]) (tgt := 148) (by decide +kernel) e1 (by omega) ?_
    refine A_iconst (a := (-1)) (by decide +kernel) (by unfold in32; omega) ?_
    exact A_ret ⟨by decide +kernel, Or.inl rfl⟩ ⟨_, rfl, h25⟩
theorem q_7_isBlank {x0 : Int} {M : Mem} {P : Int → Mem → Prop} (h : ((x0 = 10 → (P 1 M)) ∧ (x0 ≠ 10 → ((x0 ≠ 32 → (P 0 M)) ∧ (x0 = 32 → (P 1 M)))))) : CI m7_isBlank 1 [(0, x0)] M P := by
  refine CI_of (by decide +kernel) (Nat.le_of_ble_eq_true rfl) ?_
  show A m7_isBlank 1 0 0 [(0, x0)] [] M (Ki P)
  refine A_iload_n (i := 0) (f := 0) rfl (by decide +kernel) rfl ?_
  refine A_bipush (a := 10) (by decide +kernel) (by unfold in32; omega) (by decide +kernel) ?_
  refine A_ic_eq (off := 9) (tgt := 12) (by decide +kernel) (by omega) (fun b1 => ?_) (fun b1 => ?_)
  · have h2 := h.1 b1
    refine A_iconst (a := 1) (by decide +kernel) (by unfold in32; omega) ?_
    refine A_goto (off := 4) (tgt := 17) (by decide +kernel) (by omega) ?_
    exact A_ret ⟨by decide +kernel, Or.inr ⟨rfl, by decide⟩⟩ ⟨_, rfl, h2⟩
  · have h3 := h.2 b1
    refine A_iload_n (i := 0) (f := 0) rfl (by decide +kernel) rfl ?_
    refine A_bipush (a := 32) (by decide +kernel) (by unfold in32; omega) (by decide +kernel) ?_
    refine A_ic_ne (off := 7) (tgt := 16) (by decide +kernel) (by omega) (fun b4 => ?_) (fun b4 => ?_)
    · have h5 := h3.1 b4
      refine A_iconst (a := 0) (by decide +kernel) (by unfold in32; omega) ?_
      exact A_ret ⟨by decide +kernel, Or.inr ⟨rfl, by decide⟩⟩ ⟨_, rfl, h5⟩
    · have h6 := h3.2 (Decidable.not_not.mp b4)
      refine A_iconst (a := 1) (by decide +kernel) (by unfold in32; omega) ?_
      refine A_goto (off := 4) (tgt := 17) (by decide +kernel) (by omega) ?_
      exact A_ret ⟨by decide +kernel, Or.inr ⟨rfl, by decide⟩⟩ ⟨_, rfl, h6⟩
theorem q_7_isLetter {x0 : Int} {M : Mem} {P : Int → Mem → Prop} (h : ((x0 < 97 → (P 0 M)) ∧ (97 ≤ x0 → ((122 < x0 → (P 0 M)) ∧ (x0 ≤ 122 → (P 1 M)))))) : CI m7_isLetter 1 [(0, x0)] M P := by
  refine CI_of (by decide +kernel) (Nat.le_of_ble_eq_true rfl) ?_
  show A m7_isLetter 1 0 0 [(0, x0)] [] M (Ki P)
  refine A_iload_n (i := 0) (f := 0) rfl (by decide +kernel) rfl ?_
  refine A_bipush (a := 97) (by decide +kernel) (by unfold in32; omega) (by decide +kernel) ?_
  refine A_ic_lt (off := 13) (tgt := 16) (by decide +kernel) (by omega) (fun b1 => ?_) (fun b1 => ?_)
  · have h2 := h.1 b1
    refine A_iconst (a := 0) (by decide +kernel) (by unfold in32; omega) ?_
    exact A_ret ⟨by decide +kernel, Or.inr ⟨rfl, by decide⟩⟩ ⟨_, rfl, h2⟩
  · have h3 := h.2 (Int.not_lt.mp b1)
    refine A_iload_n (i := 0) (f := 0) rfl (by decide +kernel) rfl ?_
    refine A_bipush (a := 122) (by decide +kernel) (by unfold in32; omega) (by decide +kernel) ?_
    refine A_ic_gt (off := 7) (tgt := 16) (by decide +kernel) (by omega) (fun b4 => ?_) (fun b4 => ?_)
    · have h5 := h3.1 b4
      refine A_iconst (a := 0) (by decide +kernel) (by unfold in32; omega) ?_
      exact A_ret ⟨by decide +kernel, Or.inr ⟨rfl, by decide⟩⟩ ⟨_, rfl, h5⟩
    · have h6 := h3.2 (Int.not_lt.mp b4)
      refine A_iconst (a := 1) (by decide +kernel) (by unfold in32; omega) ?_
      refine A_goto (off := 4) (tgt := 17) (by decide +kernel) (by omega) ?_
      exact A_ret ⟨by decide +kernel, Or.inr ⟨rfl, by decide⟩⟩ ⟨_, rfl, h6⟩
theorem q_7_isDigit {x0 : Int} {M : Mem} {P : Int → Mem → Prop} (h : ((x0 < 48 → (P 0 M)) ∧ (48 ≤ x0 → ((57 < x0 → (P 0 M)) ∧ (x0 ≤ 57 → (P 1 M)))))) : CI m7_isDigit 1 [(0, x0)] M P := by
  refine CI_of (by decide +kernel) (Nat.le_of_ble_eq_true rfl) ?_
  show A m7_isDigit 1 0 0 [(0, x0)] [] M (Ki P)
  refine A_iload_n (i := 0) (f := 0) rfl (by decide +kernel) rfl ?_
  refine A_bipush (a := 48) (by decide +kernel) (by unfold in32; omega) (by decide +kernel) ?_
  refine A_ic_lt (off := 13) (tgt := 16) (by decide +kernel) (by omega) (fun b1 => ?_) (fun b1 => ?_)
  · have h2 := h.1 b1
    refine A_iconst (a := 0) (by decide +kernel) (by unfold in32; omega) ?_
    exact A_ret ⟨by decide +kernel, Or.inr ⟨rfl, by decide⟩⟩ ⟨_, rfl, h2⟩
  · have h3 := h.2 (Int.not_lt.mp b1)
    refine A_iload_n (i := 0) (f := 0) rfl (by decide +kernel) rfl ?_
    refine A_bipush (a := 57) (by decide +kernel) (by unfold in32; omega) (by decide +kernel) ?_
    refine A_ic_gt (off := 7) (tgt := 16) (by decide +kernel) (by omega) (fun b4 => ?_) (fun b4 => ?_)
    · have h5 := h3.1 b4
      refine A_iconst (a := 0) (by decide +kernel) (by unfold in32; omega) ?_
      exact A_ret ⟨by decide +kernel, Or.inr ⟨rfl, by decide⟩⟩ ⟨_, rfl, h5⟩
    · have h6 := h3.2 (Int.not_lt.mp b4)
      refine A_iconst (a := 1) (by decide +kernel) (by unfold in32; omega) ?_
      refine A_goto (off := 4) (tgt := 17) (by decide +kernel) (by omega) ?_
      exact A_ret ⟨by decide +kernel, Or.inr ⟨rfl, by decide⟩⟩ ⟨_, rfl, h6⟩
