/-! CourtTongueModel: its regions (made by wip/whole/gall.py) -/
theorem q_11_thrown  {M : Mem} {P : Int → Mem → Prop} (h : (P (M 59 0) M)) : CI m11_thrown 1 [(20, ((59 : Nat) : Int))] M P := by
  refine CI_of (by decide +kernel) (Nat.le_of_ble_eq_true rfl) ?_
  show A m11_thrown 1 0 0 [(20, ((59 : Nat) : Int))] [] M (Ki P)
  refine A_aload_n (i := 0) (f := 0) (by omega) rfl (by decide +kernel) rfl ?_
  refine B_getp (v := (M 59 0)) (q := (RX11, TX11, 59)) (ci := 10) (j := 0) (p := 0) (by decide +kernel) rfl (by decide) rfl (Or.inl rfl) fl_11_118 rfl ?_
  exact A_ret ⟨by decide +kernel, Or.inl rfl⟩ ⟨_, rfl, h⟩
theorem q_11_feed {x1 : Int} {x2 : Int} {x3 : Int} {x4 : Int} {x5 : Int} {M : Mem} {P : Int → Mem → Prop} (h : ((((mset M 59 0 0) 59 2) ≤ 680 → A m11_feed 1 0 20 [(20, ((59 : Nat) : Int)), (0, x1), (0, x2), (0, x3), (0, x4), (0, x5), (0, 0), (2, 0)] [] (mset M 59 0 0) (Ki P)) ∧ (680 < ((mset M 59 0 0) 59 2) → (P (-1) (mset M 59 0 0))))) : CI m11_feed 1 [(20, ((59 : Nat) : Int)), (0, x1), (0, x2), (0, x3), (0, x4), (0, x5)] M P := by
  refine CI_of (by decide +kernel) (Nat.le_of_ble_eq_true rfl) ?_
  show A m11_feed 1 0 0 [(20, ((59 : Nat) : Int)), (0, x1), (0, x2), (0, x3), (0, x4), (0, x5), (2, 0), (2, 0)] [] M (Ki P)
  refine A_aload_n (i := 0) (f := 0) (by omega) rfl (by decide +kernel) rfl ?_
  refine A_iconst (a := 0) (by decide +kernel) (by unfold in32; omega) ?_
  refine B_putp (M' := (mset M 59 0 0)) (q := (RX11, TX11, 59)) (ci := 10) (j := 0) (p := 0) (by decide +kernel) rfl (by decide) rfl (Or.inl ⟨rfl, rfl⟩) rfl fl_11_118 rfl ?_
  refine A_aload_n (i := 0) (f := 0) (by omega) rfl (by decide +kernel) rfl ?_
  refine B_getp (v := ((mset M 59 0 0) 59 2)) (q := (RX11, TX11, 59)) (ci := 10) (j := 2) (p := 2) (by decide +kernel) rfl (by decide) rfl (Or.inl rfl) fl_11_121 rfl ?_
  refine A_sipush (a := 680) (by decide +kernel) (by unfold in32; omega) (by decide +kernel) ?_
  refine A_ic_le (off := 5) (tgt := 17) (by decide +kernel) (by omega) (fun b1 => ?_) (fun b1 => ?_)
  · have h2 := h.1 b1
    refine A_iconst (a := 0) (by decide +kernel) (by unfold in32; omega) ?_
    refine A_istore (i := 6) (by decide +kernel) (by decide) (fun w h0 hw => by simp at hw; first | (rw [← hw]; decide) | (rw [← hw]; simp)) ?_
    exact A_weak (lsub.keep (lsub.keep (lsub.keep (lsub.keep (lsub.keep (lsub.keep (lsub.keep (lsub.drop lsub.nil)))))))) h2
  · have h3 := h.2 (Int.not_le.mp b1)
    refine A_iconst (a := (-1)) (by decide +kernel) (by unfold in32; omega) ?_
    exact A_ret ⟨by decide +kernel, Or.inl rfl⟩ ⟨_, rfl, h3⟩
theorem r_11_feed_20 {x1 : Int} {x2 : Int} {x3 : Int} {x4 : Int} {x5 : Int} {x6 : Int} {M : Mem} {P : Int → Mem → Prop} (h : ((20 ≤ x6 → (P ((mset M 59 2 (w32 ((M 59 2) + 20))) 59 2) (mset M 59 2 (w32 ((M 59 2) + 20))))) ∧ (x6 < 20 → ((4 ≤ x6 → ((8 ≤ x6 → ((12 ≤ x6 → ((16 ≤ x6 → ((0 ≤ (w32 ((M 59 2) + x6)) ∧ (w32 ((M 59 2) + x6)) < 700) ∧ A m11_feed 1 0 20 [(20, ((59 : Nat) : Int)), (0, x1), (0, x2), (0, x3), (0, x4), (0, x5), (0, (w32 (x6 + 1))), (2, 0)] [] (mset M 60 ((w32 ((M 59 2) + x6))).toNat (iand (ishr x5 (w32 (24 - (w32 (8 * (w32 (Int.tmod x6 4))))))) 255)) (Ki P))) ∧ (x6 < 16 → ((0 ≤ (w32 ((M 59 2) + x6)) ∧ (w32 ((M 59 2) + x6)) < 700) ∧ A m11_feed 1 0 20 [(20, ((59 : Nat) : Int)), (0, x1), (0, x2), (0, x3), (0, x4), (0, x5), (0, (w32 (x6 + 1))), (2, 0)] [] (mset M 60 ((w32 ((M 59 2) + x6))).toNat (iand (ishr x4 (w32 (24 - (w32 (8 * (w32 (Int.tmod x6 4))))))) 255)) (Ki P))))) ∧ (x6 < 12 → ((0 ≤ (w32 ((M 59 2) + x6)) ∧ (w32 ((M 59 2) + x6)) < 700) ∧ A m11_feed 1 0 20 [(20, ((59 : Nat) : Int)), (0, x1), (0, x2), (0, x3), (0, x4), (0, x5), (0, (w32 (x6 + 1))), (2, 0)] [] (mset M 60 ((w32 ((M 59 2) + x6))).toNat (iand (ishr x3 (w32 (24 - (w32 (8 * (w32 (Int.tmod x6 4))))))) 255)) (Ki P))))) ∧ (x6 < 8 → ((0 ≤ (w32 ((M 59 2) + x6)) ∧ (w32 ((M 59 2) + x6)) < 700) ∧ A m11_feed 1 0 20 [(20, ((59 : Nat) : Int)), (0, x1), (0, x2), (0, x3), (0, x4), (0, x5), (0, (w32 (x6 + 1))), (2, 0)] [] (mset M 60 ((w32 ((M 59 2) + x6))).toNat (iand (ishr x2 (w32 (24 - (w32 (8 * (w32 (Int.tmod x6 4))))))) 255)) (Ki P))))) ∧ (x6 < 4 → ((0 ≤ (w32 ((M 59 2) + x6)) ∧ (w32 ((M 59 2) + x6)) < 700) ∧ A m11_feed 1 0 20 [(20, ((59 : Nat) : Int)), (0, x1), (0, x2), (0, x3), (0, x4), (0, x5), (0, (w32 (x6 + 1))), (2, 0)] [] (mset M 60 ((w32 ((M 59 2) + x6))).toNat (iand (ishr x1 (w32 (24 - (w32 (8 * (w32 (Int.tmod x6 4))))))) 255)) (Ki P))))))) : A m11_feed 1 0 20 [(20, ((59 : Nat) : Int)), (0, x1), (0, x2), (0, x3), (0, x4), (0, x5), (0, x6), (2, 0)] [] M (Ki P) := by
  refine A_iload (i := 6) (by decide +kernel) rfl ?_
  refine A_bipush (a := 20) (by decide +kernel) (by unfold in32; omega) (by decide +kernel) ?_
  refine A_ic_ge (off := 86) (tgt := 110) (by decide +kernel) (by omega) (fun b1 => ?_) (fun b1 => ?_)
  · have h2 := h.1 b1
    refine A_aload_n (i := 0) (f := 0) (by omega) rfl (by decide +kernel) rfl ?_
    refine A_dup (by decide +kernel) (by simp) ?_
    refine B_getp (v := (M 59 2)) (q := (RX11, TX11, 59)) (ci := 10) (j := 2) (p := 2) (by decide +kernel) rfl (by decide) rfl (Or.inl rfl) fl_11_121 rfl ?_
    refine A_bipush (a := 20) (by decide +kernel) (by unfold in32; omega) (by decide +kernel) ?_
    refine A_iadd (by decide +kernel) ?_
    refine B_putp (M' := (mset M 59 2 (w32 ((M 59 2) + 20)))) (q := (RX11, TX11, 59)) (ci := 10) (j := 2) (p := 2) (by decide +kernel) rfl (by decide) rfl (Or.inl ⟨rfl, rfl⟩) rfl fl_11_121 rfl ?_
    refine A_aload_n (i := 0) (f := 0) (by omega) rfl (by decide +kernel) rfl ?_
    refine B_getp (v := ((mset M 59 2 (w32 ((M 59 2) + 20))) 59 2)) (q := (RX11, TX11, 59)) (ci := 10) (j := 2) (p := 2) (by decide +kernel) rfl (by decide) rfl (Or.inl rfl) fl_11_121 rfl ?_
    exact A_ret ⟨by decide +kernel, Or.inl rfl⟩ ⟨_, rfl, h2⟩
  · have h3 := h.2 (Int.not_le.mp b1)
    refine A_iload (i := 6) (by decide +kernel) rfl ?_
    refine A_iconst (a := 4) (by decide +kernel) (by unfold in32; omega) ?_
    refine A_ic_ge (off := 7) (tgt := 37) (by decide +kernel) (by omega) (fun b4 => ?_) (fun b4 => ?_)
    · have h5 := h3.1 b4
      refine A_iload (i := 6) (by decide +kernel) rfl ?_
      refine A_bipush (a := 8) (by decide +kernel) (by unfold in32; omega) (by decide +kernel) ?_
      refine A_ic_ge (off := 7) (tgt := 48) (by decide +kernel) (by omega) (fun b7 => ?_) (fun b7 => ?_)
      · have h8 := h5.1 b7
        refine A_iload (i := 6) (by decide +kernel) rfl ?_
        refine A_bipush (a := 12) (by decide +kernel) (by unfold in32; omega) (by decide +kernel) ?_
        refine A_ic_ge (off := 7) (tgt := 59) (by decide +kernel) (by omega) (fun b10 => ?_) (fun b10 => ?_)
        · have h11 := h8.1 b10
          refine A_iload (i := 6) (by decide +kernel) rfl ?_
          refine A_bipush (a := 16) (by decide +kernel) (by unfold in32; omega) (by decide +kernel) ?_
          refine A_ic_ge (off := 8) (tgt := 71) (by decide +kernel) (by omega) (fun b13 => ?_) (fun b13 => ?_)
          · have h14 := h11.1 b13
            refine A_iload (i := 5) (by decide +kernel) rfl ?_
            refine A_istore (i := 7) (by decide +kernel) (by decide) (fun w h0 hw => by simp at hw; first | (rw [← hw]; decide) | (rw [← hw]; simp)) ?_
            refine A_aload_n (i := 0) (f := 0) (by omega) rfl (by decide +kernel) rfl ?_
            refine B_getr (o' := ((60 : Nat) : Int)) (q := (RX11, TX11, 59)) (ci := 10) (j := 1) (by decide +kernel) rfl (by decide) rfl (by omega) fl_11_7 rfl ?_
            refine A_aload_n (i := 0) (f := 0) (by omega) rfl (by decide +kernel) rfl ?_
            refine B_getp (v := (M 59 2)) (q := (RX11, TX11, 59)) (ci := 10) (j := 2) (p := 2) (by decide +kernel) rfl (by decide) rfl (Or.inl rfl) fl_11_121 rfl ?_
            refine A_iload (i := 6) (by decide +kernel) rfl ?_
            refine A_iadd (by decide +kernel) ?_
            refine A_iload (i := 7) (by decide +kernel) rfl ?_
            refine A_bipush (a := 24) (by decide +kernel) (by unfold in32; omega) (by decide +kernel) ?_
            refine A_bipush (a := 8) (by decide +kernel) (by unfold in32; omega) (by decide +kernel) ?_
            refine A_iload (i := 6) (by decide +kernel) rfl ?_
            refine A_iconst (a := 4) (by decide +kernel) (by unfold in32; omega) ?_
            refine A_irem (by decide +kernel) (by omega) ?_
            refine A_imul (by decide +kernel) ?_
            refine A_isub (by decide +kernel) ?_
            refine A_ishr (by decide +kernel) ?_
            refine A_sipush (a := 255) (by decide +kernel) (by unfold in32; omega) (by decide +kernel) ?_
            refine A_iand (by decide +kernel) ?_
            refine B_iast (M' := (mset M 60 ((w32 ((M 59 2) + x6))).toNat (iand (ishr x5 (w32 (24 - (w32 (8 * (w32 (Int.tmod x6 4))))))) 255))) (by decide +kernel) h14.1 rfl ?_
            have h16 := h14.2
            refine A_iinc (i := 6) (n := 1) (by decide +kernel) (by decide) rfl (fun w h0 hw => by simp at hw; first | (rw [← hw]; decide) | (rw [← hw]; simp)) ?_
            refine A_goto (off := (-87)) (tgt := 20) (by decide +kernel) (by omega) ?_
            exact A_weak (lsub.keep (lsub.keep (lsub.keep (lsub.keep (lsub.keep (lsub.keep (lsub.keep (lsub.drop lsub.nil)))))))) h16
          · have h15 := h11.2 (Int.not_le.mp b13)
            refine A_iload (i := 4) (by decide +kernel) rfl ?_
            refine A_goto (off := 5) (tgt := 73) (by decide +kernel) (by omega) ?_
            refine A_istore (i := 7) (by decide +kernel) (by decide) (fun w h0 hw => by simp at hw; first | (rw [← hw]; decide) | (rw [← hw]; simp)) ?_
            refine A_aload_n (i := 0) (f := 0) (by omega) rfl (by decide +kernel) rfl ?_
            refine B_getr (o' := ((60 : Nat) : Int)) (q := (RX11, TX11, 59)) (ci := 10) (j := 1) (by decide +kernel) rfl (by decide) rfl (by omega) fl_11_7 rfl ?_
            refine A_aload_n (i := 0) (f := 0) (by omega) rfl (by decide +kernel) rfl ?_
            refine B_getp (v := (M 59 2)) (q := (RX11, TX11, 59)) (ci := 10) (j := 2) (p := 2) (by decide +kernel) rfl (by decide) rfl (Or.inl rfl) fl_11_121 rfl ?_
            refine A_iload (i := 6) (by decide +kernel) rfl ?_
            refine A_iadd (by decide +kernel) ?_
            refine A_iload (i := 7) (by decide +kernel) rfl ?_
            refine A_bipush (a := 24) (by decide +kernel) (by unfold in32; omega) (by decide +kernel) ?_
            refine A_bipush (a := 8) (by decide +kernel) (by unfold in32; omega) (by decide +kernel) ?_
            refine A_iload (i := 6) (by decide +kernel) rfl ?_
            refine A_iconst (a := 4) (by decide +kernel) (by unfold in32; omega) ?_
            refine A_irem (by decide +kernel) (by omega) ?_
            refine A_imul (by decide +kernel) ?_
            refine A_isub (by decide +kernel) ?_
            refine A_ishr (by decide +kernel) ?_
            refine A_sipush (a := 255) (by decide +kernel) (by unfold in32; omega) (by decide +kernel) ?_
            refine A_iand (by decide +kernel) ?_
            refine B_iast (M' := (mset M 60 ((w32 ((M 59 2) + x6))).toNat (iand (ishr x4 (w32 (24 - (w32 (8 * (w32 (Int.tmod x6 4))))))) 255))) (by decide +kernel) h15.1 rfl ?_
            have h17 := h15.2
            refine A_iinc (i := 6) (n := 1) (by decide +kernel) (by decide) rfl (fun w h0 hw => by simp at hw; first | (rw [← hw]; decide) | (rw [← hw]; simp)) ?_
            refine A_goto (off := (-87)) (tgt := 20) (by decide +kernel) (by omega) ?_
            exact A_weak (lsub.keep (lsub.keep (lsub.keep (lsub.keep (lsub.keep (lsub.keep (lsub.keep (lsub.drop lsub.nil)))))))) h17
        · have h12 := h8.2 (Int.not_le.mp b10)
          refine A_iload_n (i := 3) (f := 3) rfl (by decide +kernel) rfl ?_
          refine A_goto (off := 17) (tgt := 73) (by decide +kernel) (by omega) ?_
          refine A_istore (i := 7) (by decide +kernel) (by decide) (fun w h0 hw => by simp at hw; first | (rw [← hw]; decide) | (rw [← hw]; simp)) ?_
          refine A_aload_n (i := 0) (f := 0) (by omega) rfl (by decide +kernel) rfl ?_
          refine B_getr (o' := ((60 : Nat) : Int)) (q := (RX11, TX11, 59)) (ci := 10) (j := 1) (by decide +kernel) rfl (by decide) rfl (by omega) fl_11_7 rfl ?_
          refine A_aload_n (i := 0) (f := 0) (by omega) rfl (by decide +kernel) rfl ?_
          refine B_getp (v := (M 59 2)) (q := (RX11, TX11, 59)) (ci := 10) (j := 2) (p := 2) (by decide +kernel) rfl (by decide) rfl (Or.inl rfl) fl_11_121 rfl ?_
          refine A_iload (i := 6) (by decide +kernel) rfl ?_
          refine A_iadd (by decide +kernel) ?_
          refine A_iload (i := 7) (by decide +kernel) rfl ?_
          refine A_bipush (a := 24) (by decide +kernel) (by unfold in32; omega) (by decide +kernel) ?_
          refine A_bipush (a := 8) (by decide +kernel) (by unfold in32; omega) (by decide +kernel) ?_
          refine A_iload (i := 6) (by decide +kernel) rfl ?_
          refine A_iconst (a := 4) (by decide +kernel) (by unfold in32; omega) ?_
          refine A_irem (by decide +kernel) (by omega) ?_
          refine A_imul (by decide +kernel) ?_
          refine A_isub (by decide +kernel) ?_
          refine A_ishr (by decide +kernel) ?_
          refine A_sipush (a := 255) (by decide +kernel) (by unfold in32; omega) (by decide +kernel) ?_
          refine A_iand (by decide +kernel) ?_
          refine B_iast (M' := (mset M 60 ((w32 ((M 59 2) + x6))).toNat (iand (ishr x3 (w32 (24 - (w32 (8 * (w32 (Int.tmod x6 4))))))) 255))) (by decide +kernel) h12.1 rfl ?_
          have h18 := h12.2
          refine A_iinc (i := 6) (n := 1) (by decide +kernel) (by decide) rfl (fun w h0 hw => by simp at hw; first | (rw [← hw]; decide) | (rw [← hw]; simp)) ?_
          refine A_goto (off := (-87)) (tgt := 20) (by decide +kernel) (by omega) ?_
          exact A_weak (lsub.keep (lsub.keep (lsub.keep (lsub.keep (lsub.keep (lsub.keep (lsub.keep (lsub.drop lsub.nil)))))))) h18
      · have h9 := h5.2 (Int.not_le.mp b7)
        refine A_iload_n (i := 2) (f := 2) rfl (by decide +kernel) rfl ?_
        refine A_goto (off := 28) (tgt := 73) (by decide +kernel) (by omega) ?_
        refine A_istore (i := 7) (by decide +kernel) (by decide) (fun w h0 hw => by simp at hw; first | (rw [← hw]; decide) | (rw [← hw]; simp)) ?_
        refine A_aload_n (i := 0) (f := 0) (by omega) rfl (by decide +kernel) rfl ?_
        refine B_getr (o' := ((60 : Nat) : Int)) (q := (RX11, TX11, 59)) (ci := 10) (j := 1) (by decide +kernel) rfl (by decide) rfl (by omega) fl_11_7 rfl ?_
        refine A_aload_n (i := 0) (f := 0) (by omega) rfl (by decide +kernel) rfl ?_
        refine B_getp (v := (M 59 2)) (q := (RX11, TX11, 59)) (ci := 10) (j := 2) (p := 2) (by decide +kernel) rfl (by decide) rfl (Or.inl rfl) fl_11_121 rfl ?_
        refine A_iload (i := 6) (by decide +kernel) rfl ?_
        refine A_iadd (by decide +kernel) ?_
        refine A_iload (i := 7) (by decide +kernel) rfl ?_
        refine A_bipush (a := 24) (by decide +kernel) (by unfold in32; omega) (by decide +kernel) ?_
        refine A_bipush (a := 8) (by decide +kernel) (by unfold in32; omega) (by decide +kernel) ?_
        refine A_iload (i := 6) (by decide +kernel) rfl ?_
        refine A_iconst (a := 4) (by decide +kernel) (by unfold in32; omega) ?_
        refine A_irem (by decide +kernel) (by omega) ?_
        refine A_imul (by decide +kernel) ?_
        refine A_isub (by decide +kernel) ?_
        refine A_ishr (by decide +kernel) ?_
        refine A_sipush (a := 255) (by decide +kernel) (by unfold in32; omega) (by decide +kernel) ?_
        refine A_iand (by decide +kernel) ?_
        refine B_iast (M' := (mset M 60 ((w32 ((M 59 2) + x6))).toNat (iand (ishr x2 (w32 (24 - (w32 (8 * (w32 (Int.tmod x6 4))))))) 255))) (by decide +kernel) h9.1 rfl ?_
        have h19 := h9.2
        refine A_iinc (i := 6) (n := 1) (by decide +kernel) (by decide) rfl (fun w h0 hw => by simp at hw; first | (rw [← hw]; decide) | (rw [← hw]; simp)) ?_
        refine A_goto (off := (-87)) (tgt := 20) (by decide +kernel) (by omega) ?_
        exact A_weak (lsub.keep (lsub.keep (lsub.keep (lsub.keep (lsub.keep (lsub.keep (lsub.keep (lsub.drop lsub.nil)))))))) h19
    · have h6 := h3.2 (Int.not_le.mp b4)
      refine A_iload_n (i := 1) (f := 1) rfl (by decide +kernel) rfl ?_
      refine A_goto (off := 39) (tgt := 73) (by decide +kernel) (by omega) ?_
      refine A_istore (i := 7) (by decide +kernel) (by decide) (fun w h0 hw => by simp at hw; first | (rw [← hw]; decide) | (rw [← hw]; simp)) ?_
      refine A_aload_n (i := 0) (f := 0) (by omega) rfl (by decide +kernel) rfl ?_
      refine B_getr (o' := ((60 : Nat) : Int)) (q := (RX11, TX11, 59)) (ci := 10) (j := 1) (by decide +kernel) rfl (by decide) rfl (by omega) fl_11_7 rfl ?_
      refine A_aload_n (i := 0) (f := 0) (by omega) rfl (by decide +kernel) rfl ?_
      refine B_getp (v := (M 59 2)) (q := (RX11, TX11, 59)) (ci := 10) (j := 2) (p := 2) (by decide +kernel) rfl (by decide) rfl (Or.inl rfl) fl_11_121 rfl ?_
      refine A_iload (i := 6) (by decide +kernel) rfl ?_
      refine A_iadd (by decide +kernel) ?_
      refine A_iload (i := 7) (by decide +kernel) rfl ?_
      refine A_bipush (a := 24) (by decide +kernel) (by unfold in32; omega) (by decide +kernel) ?_
      refine A_bipush (a := 8) (by decide +kernel) (by unfold in32; omega) (by decide +kernel) ?_
      refine A_iload (i := 6) (by decide +kernel) rfl ?_
      refine A_iconst (a := 4) (by decide +kernel) (by unfold in32; omega) ?_
      refine A_irem (by decide +kernel) (by omega) ?_
      refine A_imul (by decide +kernel) ?_
      refine A_isub (by decide +kernel) ?_
      refine A_ishr (by decide +kernel) ?_
      refine A_sipush (a := 255) (by decide +kernel) (by unfold in32; omega) (by decide +kernel) ?_
      refine A_iand (by decide +kernel) ?_
      refine B_iast (M' := (mset M 60 ((w32 ((M 59 2) + x6))).toNat (iand (ishr x1 (w32 (24 - (w32 (8 * (w32 (Int.tmod x6 4))))))) 255))) (by decide +kernel) h6.1 rfl ?_
      have h20 := h6.2
      refine A_iinc (i := 6) (n := 1) (by decide +kernel) (by decide) rfl (fun w h0 hw => by simp at hw; first | (rw [← hw]; decide) | (rw [← hw]; simp)) ?_
      refine A_goto (off := (-87)) (tgt := 20) (by decide +kernel) (by omega) ?_
      exact A_weak (lsub.keep (lsub.keep (lsub.keep (lsub.keep (lsub.keep (lsub.keep (lsub.keep (lsub.drop lsub.nil)))))))) h20
theorem q_11_here  {M : Mem} {P : Int → Mem → Prop} (h : (((M 59 18) ≤ (M 59 19) → (P (-1) M)) ∧ ((M 59 19) < (M 59 18) → ((0 ≤ (M 59 19) ∧ (M 59 19) < 700) ∧ (P (M 60 ((M 59 19)).toNat) M))))) : CI m11_here 1 [(20, ((59 : Nat) : Int))] M P := by
  refine CI_of (by decide +kernel) (Nat.le_of_ble_eq_true rfl) ?_
  show A m11_here 1 0 0 [(20, ((59 : Nat) : Int))] [] M (Ki P)
  refine A_aload_n (i := 0) (f := 0) (by omega) rfl (by decide +kernel) rfl ?_
  refine B_getp (v := (M 59 19)) (q := (RX11, TX11, 59)) (ci := 10) (j := 19) (p := 19) (by decide +kernel) rfl (by decide) rfl (Or.inl rfl) fl_11_124 rfl ?_
  refine A_aload_n (i := 0) (f := 0) (by omega) rfl (by decide +kernel) rfl ?_
  refine B_getp (v := (M 59 18)) (q := (RX11, TX11, 59)) (ci := 10) (j := 18) (p := 18) (by decide +kernel) rfl (by decide) rfl (Or.inl rfl) fl_11_127 rfl ?_
  refine A_ic_ge (off := 15) (tgt := 23) (by decide +kernel) (by omega) (fun b1 => ?_) (fun b1 => ?_)
  · have h2 := h.1 b1
    refine A_iconst (a := (-1)) (by decide +kernel) (by unfold in32; omega) ?_
    exact A_ret ⟨by decide +kernel, Or.inl rfl⟩ ⟨_, rfl, h2⟩
  · have h3 := h.2 (Int.not_le.mp b1)
    refine A_aload_n (i := 0) (f := 0) (by omega) rfl (by decide +kernel) rfl ?_
    refine B_getr (o' := ((60 : Nat) : Int)) (q := (RX11, TX11, 59)) (ci := 10) (j := 1) (by decide +kernel) rfl (by decide) rfl (by omega) fl_11_7 rfl ?_
    refine A_aload_n (i := 0) (f := 0) (by omega) rfl (by decide +kernel) rfl ?_
    refine B_getp (v := (M 59 19)) (q := (RX11, TX11, 59)) (ci := 10) (j := 19) (p := 19) (by decide +kernel) rfl (by decide) rfl (Or.inl rfl) fl_11_124 rfl ?_
    refine B_iald (v := (M 60 ((M 59 19)).toNat)) (by decide +kernel) h3.1 rfl ?_
    have h4 := h3.2
    refine A_goto (off := 4) (tgt := 24) (by decide +kernel) (by omega) ?_
    exact A_ret ⟨by decide +kernel, Or.inl rfl⟩ ⟨_, rfl, h4⟩
theorem q_11_isSmall {x0 : Int} {M : Mem} {P : Int → Mem → Prop} (h : ((x0 < 97 → (P 0 M)) ∧ (97 ≤ x0 → ((122 < x0 → (P 0 M)) ∧ (x0 ≤ 122 → (P 1 M)))))) : CI m11_isSmall 1 [(0, x0)] M P := by
  refine CI_of (by decide +kernel) (Nat.le_of_ble_eq_true rfl) ?_
  show A m11_isSmall 1 0 0 [(0, x0)] [] M (Ki P)
  refine A_iload_n (i := 0) (f := 0) rfl (by decide +kernel) rfl ?_
  refine A_bipush (a := 97) (by decide +kernel) (by unfold in32; omega) (by decide +kernel) ?_
  refine A_ic_lt (off := 13) (tgt := 16) (by decide +kernel) (by omega) (fun b1 => ?_) (fun b1 => ?_)
  · have h2 := h.1 b1
    refine A_iconst (a := 0) (by decide +kernel) (by unfold in32; omega) ?_
    exact A_ret ⟨by decide +kernel, Or.inr ⟨rfl, by decide⟩⟩ ⟨_, rfl, h2⟩
  · have h3 := h.2 (Int.not_lt.mp b1)
    refine A_iload_n (i := 0) (f := 0) rfl (by decide +kernel) rfl ?_
    refine A_bipush (a := 122) (by decide +kernel) (by unfold in32; omega) (by decide +kernel) ?_
    refine A_ic_gt (off := 7) (tgt := 16) (by decide +kernel) (by omega) (fun b4 => ?_) (fun b4 => ?_)
    · have h5 := h3.1 b4
      refine A_iconst (a := 0) (by decide +kernel) (by unfold in32; omega) ?_
      exact A_ret ⟨by decide +kernel, Or.inr ⟨rfl, by decide⟩⟩ ⟨_, rfl, h5⟩
    · have h6 := h3.2 (Int.not_lt.mp b4)
      refine A_iconst (a := 1) (by decide +kernel) (by unfold in32; omega) ?_
      refine A_goto (off := 4) (tgt := 17) (by decide +kernel) (by omega) ?_
      exact A_ret ⟨by decide +kernel, Or.inr ⟨rfl, by decide⟩⟩ ⟨_, rfl, h6⟩
theorem q_11_isDigit {x0 : Int} {M : Mem} {P : Int → Mem → Prop} (h : ((x0 < 48 → (P 0 M)) ∧ (48 ≤ x0 → ((57 < x0 → (P 0 M)) ∧ (x0 ≤ 57 → (P 1 M)))))) : CI m11_isDigit 1 [(0, x0)] M P := by
  refine CI_of (by decide +kernel) (Nat.le_of_ble_eq_true rfl) ?_
  show A m11_isDigit 1 0 0 [(0, x0)] [] M (Ki P)
  refine A_iload_n (i := 0) (f := 0) rfl (by decide +kernel) rfl ?_
  refine A_bipush (a := 48) (by decide +kernel) (by unfold in32; omega) (by decide +kernel) ?_
  refine A_ic_lt (off := 13) (tgt := 16) (by decide +kernel) (by omega) (fun b1 => ?_) (fun b1 => ?_)
  · have h2 := h.1 b1
    refine A_iconst (a := 0) (by decide +kernel) (by unfold in32; omega) ?_
    exact A_ret ⟨by decide +kernel, Or.inr ⟨rfl, by decide⟩⟩ ⟨_, rfl, h2⟩
  · have h3 := h.2 (Int.not_lt.mp b1)
    refine A_iload_n (i := 0) (f := 0) rfl (by decide +kernel) rfl ?_
    refine A_bipush (a := 57) (by decide +kernel) (by unfold in32; omega) (by decide +kernel) ?_
    refine A_ic_gt (off := 7) (tgt := 16) (by decide +kernel) (by omega) (fun b4 => ?_) (fun b4 => ?_)
    · have h5 := h3.1 b4
      refine A_iconst (a := 0) (by decide +kernel) (by unfold in32; omega) ?_
      exact A_ret ⟨by decide +kernel, Or.inr ⟨rfl, by decide⟩⟩ ⟨_, rfl, h5⟩
    · have h6 := h3.2 (Int.not_lt.mp b4)
      refine A_iconst (a := 1) (by decide +kernel) (by unfold in32; omega) ?_
      refine A_goto (off := 4) (tgt := 17) (by decide +kernel) (by omega) ?_
      exact A_ret ⟨by decide +kernel, Or.inr ⟨rfl, by decide⟩⟩ ⟨_, rfl, h6⟩
theorem r_11_token_0  {M : Mem} {P : Mem → Prop} (h : (CI m11_here 1 [(20, ((59 : Nat) : Int))] M (fun r1 M2 => ((r1 = 10 → A m11_token 3 0 0 [(20, ((59 : Nat) : Int)), (2, 0)] [] (mset M2 59 19 (w32 ((M2 59 19) + 1))) (Kd P)) ∧ (r1 ≠ 10 → (CI m11_here 1 [(20, ((59 : Nat) : Int))] M2 (fun r7 M8 => ((r7 ≠ 32 → (CI m11_here 1 [(20, ((59 : Nat) : Int))] (mset M8 59 20 (M8 59 19)) (fun r13 M14 => ((r13 ≠ (-1) → (CI m11_isSmall 1 [(0, r13)] M14 (fun r19 M20 => ((r19 = 0 → (CI m11_isDigit 1 [(0, r13)] M20 (fun r25 M26 => ((r25 = 0 → (CD m11_sign 2 [(20, ((59 : Nat) : Int)), (0, r13)] M26 (fun M32 => (P M32)))) ∧ (r25 ≠ 0 → A m11_token 3 0 162 [(20, ((59 : Nat) : Int)), (2, 0)] [] (mset (mset M26 59 21 2) 59 22 0) (Kd P)))))) ∧ (r19 ≠ 0 → A m11_token 3 0 64 [(20, ((59 : Nat) : Int)), (2, 0)] [] M20 (Kd P)))))) ∧ (r13 = (-1) → (P (mset M14 59 21 4))))))) ∧ (r7 = 32 → A m11_token 3 0 0 [(20, ((59 : Nat) : Int)), (2, 0)] [] (mset M8 59 19 (w32 ((M8 59 19) + 1))) (Kd P)))))))))) : A m11_token 3 0 0 [(20, ((59 : Nat) : Int)), (2, 0)] [] M (Kd P) := by
  refine A_aload_n (i := 0) (f := 0) (by omega) rfl (by decide +kernel) rfl ?_
  refine A_cVi (q := (RX11, TX11, 59)) (ci := 10) (o := ((59 : Nat) : Int)) (args := []) (st := []) (by decide +kernel) cv_m11_here rfl rfl in_m11_here se_m11_here lk_11_130 rfl (by omega) (Nat.le_of_ble_eq_true rfl) h (fun r1 M2 _ h3 => ?_)
  refine A_bipush (a := 10) (by decide +kernel) (by unfold in32; omega) (by decide +kernel) ?_
  refine A_ic_eq (off := 12) (tgt := 18) (by decide +kernel) (by omega) (fun b4 => ?_) (fun b4 => ?_)
  · have h5 := h3.1 b4
    refine A_aload_n (i := 0) (f := 0) (by omega) rfl (by decide +kernel) rfl ?_
    refine A_dup (by decide +kernel) (by simp) ?_
    refine B_getp (v := (M2 59 19)) (q := (RX11, TX11, 59)) (ci := 10) (j := 19) (p := 19) (by decide +kernel) rfl (by decide) rfl (Or.inl rfl) fl_11_124 rfl ?_
    refine A_iconst (a := 1) (by decide +kernel) (by unfold in32; omega) ?_
    refine A_iadd (by decide +kernel) ?_
    refine B_putp (M' := (mset M2 59 19 (w32 ((M2 59 19) + 1)))) (q := (RX11, TX11, 59)) (ci := 10) (j := 19) (p := 19) (by decide +kernel) rfl (by decide) rfl (Or.inl ⟨rfl, rfl⟩) rfl fl_11_124 rfl ?_
    refine A_goto (off := (-28)) (tgt := 0) (by decide +kernel) (by omega) ?_
    exact A_weak (lsub.keep (lsub.drop lsub.nil)) h5
  · have h6 := h3.2 b4
    refine A_aload_n (i := 0) (f := 0) (by omega) rfl (by decide +kernel) rfl ?_
    refine A_cVi (q := (RX11, TX11, 59)) (ci := 10) (o := ((59 : Nat) : Int)) (args := []) (st := []) (by decide +kernel) cv_m11_here rfl rfl in_m11_here se_m11_here lk_11_130 rfl (by omega) (Nat.le_of_ble_eq_true rfl) h6 (fun r7 M8 _ h9 => ?_)
    refine A_bipush (a := 32) (by decide +kernel) (by unfold in32; omega) (by decide +kernel) ?_
    refine A_ic_ne (off := 16) (tgt := 31) (by decide +kernel) (by omega) (fun b10 => ?_) (fun b10 => ?_)
    · have h11 := h9.1 b10
      refine A_aload_n (i := 0) (f := 0) (by omega) rfl (by decide +kernel) rfl ?_
      refine A_aload_n (i := 0) (f := 0) (by omega) rfl (by decide +kernel) rfl ?_
      refine B_getp (v := (M8 59 19)) (q := (RX11, TX11, 59)) (ci := 10) (j := 19) (p := 19) (by decide +kernel) rfl (by decide) rfl (Or.inl rfl) fl_11_124 rfl ?_
      refine B_putp (M' := (mset M8 59 20 (M8 59 19))) (q := (RX11, TX11, 59)) (ci := 10) (j := 20) (p := 20) (by decide +kernel) rfl (by decide) rfl (Or.inl ⟨rfl, rfl⟩) rfl fl_11_134 rfl ?_
      refine A_aload_n (i := 0) (f := 0) (by omega) rfl (by decide +kernel) rfl ?_
      refine A_cVi (q := (RX11, TX11, 59)) (ci := 10) (o := ((59 : Nat) : Int)) (args := []) (st := []) (by decide +kernel) cv_m11_here rfl rfl in_m11_here se_m11_here lk_11_130 rfl (by omega) (Nat.le_of_ble_eq_true rfl) h11 (fun r13 M14 _ h15 => ?_)
      refine A_istore_n (i := 1) (f := 1) rfl (by decide +kernel) (by decide) (fun w h0 hw => by simp at hw; first | (rw [← hw]; decide) | (rw [← hw]; simp)) ?_
      refine A_iload_n (i := 1) (f := 1) rfl (by decide +kernel) rfl ?_
      refine A_iconst (a := (-1)) (by decide +kernel) (by unfold in32; omega) ?_
      refine A_ic_ne (off := 11) (tgt := 57) (by decide +kernel) (by omega) (fun b16 => ?_) (fun b16 => ?_)
      · have h17 := h15.1 b16
        refine A_iload_n (i := 1) (f := 1) rfl (by decide +kernel) rfl ?_
        refine A_cSi (args := [(0, r13)]) (st := []) (by decide +kernel) cv_m11_isSmall st_m11_isSmall lk_11_140 rfl (by omega) (Nat.le_of_ble_eq_true rfl) h17 (fun r19 M20 _ h21 => ?_)
        refine A_if_eq (off := 84) (tgt := 145) (by decide +kernel) (by omega) (fun b22 => ?_) (fun b22 => ?_)
        · have h23 := h21.1 b22
          refine A_iload_n (i := 1) (f := 1) rfl (by decide +kernel) rfl ?_
          refine A_cSi (args := [(0, r13)]) (st := []) (by decide +kernel) cv_m11_isDigit st_m11_isDigit lk_11_153 rfl (by omega) (Nat.le_of_ble_eq_true rfl) h23 (fun r25 M26 _ h27 => ?_)
          refine A_if_eq (off := 72) (tgt := 221) (by decide +kernel) (by omega) (fun b28 => ?_) (fun b28 => ?_)
          · have h29 := h27.1 b28
            refine A_aload_n (i := 0) (f := 0) (by omega) rfl (by decide +kernel) rfl ?_
            refine A_iload_n (i := 1) (f := 1) rfl (by decide +kernel) rfl ?_
            refine A_cVd (q := (RX11, TX11, 59)) (ci := 10) (o := ((59 : Nat) : Int)) (args := [(0, r13)]) (st := []) (by decide +kernel) cv_m11_sign rfl rfl in_m11_sign se_m11_sign lk_11_156 rfl (by omega) (Nat.le_of_ble_eq_true rfl) h29 (fun M32 h33 => ?_)
            exact A_ret ⟨by decide +kernel, rfl⟩ ⟨rfl, h33⟩
          · have h30 := h27.2 b28
            refine A_aload_n (i := 0) (f := 0) (by omega) rfl (by decide +kernel) rfl ?_
            refine A_iconst (a := 2) (by decide +kernel) (by unfold in32; omega) ?_
            refine B_putp (M' := (mset M26 59 21 2)) (q := (RX11, TX11, 59)) (ci := 10) (j := 21) (p := 21) (by decide +kernel) rfl (by decide) rfl (Or.inl ⟨rfl, rfl⟩) rfl fl_11_137 rfl ?_
            refine A_aload_n (i := 0) (f := 0) (by omega) rfl (by decide +kernel) rfl ?_
            refine A_iconst (a := 0) (by decide +kernel) (by unfold in32; omega) ?_
            refine B_putp (M' := (mset (mset M26 59 21 2) 59 22 0)) (q := (RX11, TX11, 59)) (ci := 10) (j := 22) (p := 22) (by decide +kernel) rfl (by decide) rfl (Or.inl ⟨rfl, rfl⟩) rfl fl_11_147 rfl ?_
            exact A_weak (lsub.keep (lsub.drop lsub.nil)) h30
        · have h24 := h21.2 b22
          exact A_weak (lsub.keep (lsub.drop lsub.nil)) h24
      · have h18 := h15.2 (Decidable.not_not.mp b16)
        refine A_aload_n (i := 0) (f := 0) (by omega) rfl (by decide +kernel) rfl ?_
        refine A_iconst (a := 4) (by decide +kernel) (by unfold in32; omega) ?_
        refine B_putp (M' := (mset M14 59 21 4)) (q := (RX11, TX11, 59)) (ci := 10) (j := 21) (p := 21) (by decide +kernel) rfl (by decide) rfl (Or.inl ⟨rfl, rfl⟩) rfl fl_11_137 rfl ?_
        refine A_goto (off := 172) (tgt := 226) (by decide +kernel) (by omega) ?_
        exact A_ret ⟨by decide +kernel, rfl⟩ ⟨rfl, h18⟩
    · have h12 := h9.2 (Decidable.not_not.mp b10)
      refine A_aload_n (i := 0) (f := 0) (by omega) rfl (by decide +kernel) rfl ?_
      refine A_dup (by decide +kernel) (by simp) ?_
      refine B_getp (v := (M8 59 19)) (q := (RX11, TX11, 59)) (ci := 10) (j := 19) (p := 19) (by decide +kernel) rfl (by decide) rfl (Or.inl rfl) fl_11_124 rfl ?_
      refine A_iconst (a := 1) (by decide +kernel) (by unfold in32; omega) ?_
      refine A_iadd (by decide +kernel) ?_
      refine B_putp (M' := (mset M8 59 19 (w32 ((M8 59 19) + 1)))) (q := (RX11, TX11, 59)) (ci := 10) (j := 19) (p := 19) (by decide +kernel) rfl (by decide) rfl (Or.inl ⟨rfl, rfl⟩) rfl fl_11_124 rfl ?_
      refine A_goto (off := (-28)) (tgt := 0) (by decide +kernel) (by omega) ?_
      exact A_weak (lsub.keep (lsub.drop lsub.nil)) h12
theorem q_11_token  {M : Mem} {P : Mem → Prop} (h : A m11_token 3 0 0 [(20, ((59 : Nat) : Int)), (2, 0)] [] M (Kd P)) : CD m11_token 3 [(20, ((59 : Nat) : Int))] M P := CD_of (by decide +kernel) (Nat.le_of_ble_eq_true rfl) h
theorem r_11_token_64  {M : Mem} {P : Mem → Prop} (h : (CI m11_here 1 [(20, ((59 : Nat) : Int))] M (fun r1 M2 => (CI m11_isSmall 1 [(0, r1)] M2 (fun r4 M5 => ((r4 = 0 → (CI m11_word 2 [(20, ((59 : Nat) : Int))] M5 (fun r10 M11 => ((((mset M11 59 22 r10) 59 22) = (-1) → (((w32 (((mset M11 59 22 r10) 59 19) - ((mset M11 59 22 r10) 59 20))) ≤ 6 → ((((mset (mset M11 59 22 r10) 59 21 1) 59 21) ≠ 1 → (P (mset (mset M11 59 22 r10) 59 21 1))) ∧ (((mset (mset M11 59 22 r10) 59 21 1) 59 21) = 1 → (CD m11_name 1 [(20, ((59 : Nat) : Int))] (mset (mset M11 59 22 r10) 59 21 1) (fun M23 => (P M23)))))) ∧ (6 < (w32 (((mset M11 59 22 r10) 59 19) - ((mset M11 59 22 r10) 59 20))) → ((((mset (mset M11 59 22 r10) 59 21 5) 59 21) ≠ 1 → (P (mset (mset M11 59 22 r10) 59 21 5))) ∧ (((mset (mset M11 59 22 r10) 59 21 5) 59 21) = 1 → (CD m11_name 1 [(20, ((59 : Nat) : Int))] (mset (mset M11 59 22 r10) 59 21 5) (fun M29 => (P M29)))))))) ∧ (((mset M11 59 22 r10) 59 22) ≠ (-1) → ((((mset (mset M11 59 22 r10) 59 21 0) 59 21) ≠ 1 → (P (mset (mset M11 59 22 r10) 59 21 0))) ∧ (((mset (mset M11 59 22 r10) 59 21 0) 59 21) = 1 → (CD m11_name 1 [(20, ((59 : Nat) : Int))] (mset (mset M11 59 22 r10) 59 21 0) (fun M35 => (P M35)))))))))) ∧ (r4 ≠ 0 → A m11_token 3 0 64 [(20, ((59 : Nat) : Int)), (2, 0)] [] (mset M5 59 19 (w32 ((M5 59 19) + 1))) (Kd P)))))))) : A m11_token 3 0 64 [(20, ((59 : Nat) : Int)), (2, 0)] [] M (Kd P) := by
  refine A_aload_n (i := 0) (f := 0) (by omega) rfl (by decide +kernel) rfl ?_
  refine A_cVi (q := (RX11, TX11, 59)) (ci := 10) (o := ((59 : Nat) : Int)) (args := []) (st := []) (by decide +kernel) cv_m11_here rfl rfl in_m11_here se_m11_here lk_11_130 rfl (by omega) (Nat.le_of_ble_eq_true rfl) h (fun r1 M2 _ h3 => ?_)
  refine A_cSi (args := [(0, r1)]) (st := []) (by decide +kernel) cv_m11_isSmall st_m11_isSmall lk_11_140 rfl (by omega) (Nat.le_of_ble_eq_true rfl) h3 (fun r4 M5 _ h6 => ?_)
  refine A_if_eq (off := 16) (tgt := 87) (by decide +kernel) (by omega) (fun b7 => ?_) (fun b7 => ?_)
  · have h8 := h6.1 b7
    refine A_aload_n (i := 0) (f := 0) (by omega) rfl (by decide +kernel) rfl ?_
    refine A_aload_n (i := 0) (f := 0) (by omega) rfl (by decide +kernel) rfl ?_
    refine A_cVi (q := (RX11, TX11, 59)) (ci := 10) (o := ((59 : Nat) : Int)) (args := []) (st := [(20, ((59 : Nat) : Int))]) (by decide +kernel) cv_m11_word rfl rfl in_m11_word se_m11_word lk_11_144 rfl (by omega) (Nat.le_of_ble_eq_true rfl) h8 (fun r10 M11 _ h12 => ?_)
    refine B_putp (M' := (mset M11 59 22 r10)) (q := (RX11, TX11, 59)) (ci := 10) (j := 22) (p := 22) (by decide +kernel) rfl (by decide) rfl (Or.inl ⟨rfl, rfl⟩) rfl fl_11_147 rfl ?_
    refine A_aload_n (i := 0) (f := 0) (by omega) rfl (by decide +kernel) rfl ?_
    refine A_aload_n (i := 0) (f := 0) (by omega) rfl (by decide +kernel) rfl ?_
    refine B_getp (v := ((mset M11 59 22 r10) 59 22)) (q := (RX11, TX11, 59)) (ci := 10) (j := 22) (p := 22) (by decide +kernel) rfl (by decide) rfl (Or.inl rfl) fl_11_147 rfl ?_
    refine A_iconst (a := (-1)) (by decide +kernel) (by unfold in32; omega) ?_
    refine A_ic_eq (off := 7) (tgt := 108) (by decide +kernel) (by omega) (fun b13 => ?_) (fun b13 => ?_)
    · have h14 := h12.1 b13
      refine A_aload_n (i := 0) (f := 0) (by omega) rfl (by decide +kernel) rfl ?_
      refine B_getp (v := ((mset M11 59 22 r10) 59 19)) (q := (RX11, TX11, 59)) (ci := 10) (j := 19) (p := 19) (by decide +kernel) rfl (by decide) rfl (Or.inl rfl) fl_11_124 rfl ?_
      refine A_aload_n (i := 0) (f := 0) (by omega) rfl (by decide +kernel) rfl ?_
      refine B_getp (v := ((mset M11 59 22 r10) 59 20)) (q := (RX11, TX11, 59)) (ci := 10) (j := 20) (p := 20) (by decide +kernel) rfl (by decide) rfl (Or.inl rfl) fl_11_134 rfl ?_
      refine A_isub (by decide +kernel) ?_
      refine A_bipush (a := 6) (by decide +kernel) (by unfold in32; omega) (by decide +kernel) ?_
      refine A_ic_le (off := 7) (tgt := 126) (by decide +kernel) (by omega) (fun b16 => ?_) (fun b16 => ?_)
      · have h17 := h14.1 b16
        refine A_iconst (a := 1) (by decide +kernel) (by unfold in32; omega) ?_
        refine B_putp (M' := (mset (mset M11 59 22 r10) 59 21 1)) (q := (RX11, TX11, 59)) (ci := 10) (j := 21) (p := 21) (by decide +kernel) rfl (by decide) rfl (Or.inl ⟨rfl, rfl⟩) rfl fl_11_137 rfl ?_
        refine A_aload_n (i := 0) (f := 0) (by omega) rfl (by decide +kernel) rfl ?_
        refine B_getp (v := ((mset (mset M11 59 22 r10) 59 21 1) 59 21)) (q := (RX11, TX11, 59)) (ci := 10) (j := 21) (p := 21) (by decide +kernel) rfl (by decide) rfl (Or.inl rfl) fl_11_137 rfl ?_
        refine A_iconst (a := 1) (by decide +kernel) (by unfold in32; omega) ?_
        refine A_ic_ne (off := 91) (tgt := 226) (by decide +kernel) (by omega) (fun b19 => ?_) (fun b19 => ?_)
        · have h20 := h17.1 b19
          exact A_ret ⟨by decide +kernel, rfl⟩ ⟨rfl, h20⟩
        · have h21 := h17.2 (Decidable.not_not.mp b19)
          refine A_aload_n (i := 0) (f := 0) (by omega) rfl (by decide +kernel) rfl ?_
          refine A_cVd (q := (RX11, TX11, 59)) (ci := 10) (o := ((59 : Nat) : Int)) (args := []) (st := []) (by decide +kernel) cv_m11_name rfl rfl in_m11_name se_m11_name lk_11_150 rfl (by omega) (Nat.le_of_ble_eq_true rfl) h21 (fun M23 h24 => ?_)
          refine A_goto (off := 84) (tgt := 226) (by decide +kernel) (by omega) ?_
          exact A_ret ⟨by decide +kernel, rfl⟩ ⟨rfl, h24⟩
      · have h18 := h14.2 (Int.not_le.mp b16)
        refine A_iconst (a := 5) (by decide +kernel) (by unfold in32; omega) ?_
        refine A_goto (off := 4) (tgt := 127) (by decide +kernel) (by omega) ?_
        refine B_putp (M' := (mset (mset M11 59 22 r10) 59 21 5)) (q := (RX11, TX11, 59)) (ci := 10) (j := 21) (p := 21) (by decide +kernel) rfl (by decide) rfl (Or.inl ⟨rfl, rfl⟩) rfl fl_11_137 rfl ?_
        refine A_aload_n (i := 0) (f := 0) (by omega) rfl (by decide +kernel) rfl ?_
        refine B_getp (v := ((mset (mset M11 59 22 r10) 59 21 5) 59 21)) (q := (RX11, TX11, 59)) (ci := 10) (j := 21) (p := 21) (by decide +kernel) rfl (by decide) rfl (Or.inl rfl) fl_11_137 rfl ?_
        refine A_iconst (a := 1) (by decide +kernel) (by unfold in32; omega) ?_
        refine A_ic_ne (off := 91) (tgt := 226) (by decide +kernel) (by omega) (fun b25 => ?_) (fun b25 => ?_)
        · have h26 := h18.1 b25
          exact A_ret ⟨by decide +kernel, rfl⟩ ⟨rfl, h26⟩
        · have h27 := h18.2 (Decidable.not_not.mp b25)
          refine A_aload_n (i := 0) (f := 0) (by omega) rfl (by decide +kernel) rfl ?_
          refine A_cVd (q := (RX11, TX11, 59)) (ci := 10) (o := ((59 : Nat) : Int)) (args := []) (st := []) (by decide +kernel) cv_m11_name rfl rfl in_m11_name se_m11_name lk_11_150 rfl (by omega) (Nat.le_of_ble_eq_true rfl) h27 (fun M29 h30 => ?_)
          refine A_goto (off := 84) (tgt := 226) (by decide +kernel) (by omega) ?_
          exact A_ret ⟨by decide +kernel, rfl⟩ ⟨rfl, h30⟩
    · have h15 := h12.2 b13
      refine A_iconst (a := 0) (by decide +kernel) (by unfold in32; omega) ?_
      refine A_goto (off := 22) (tgt := 127) (by decide +kernel) (by omega) ?_
      refine B_putp (M' := (mset (mset M11 59 22 r10) 59 21 0)) (q := (RX11, TX11, 59)) (ci := 10) (j := 21) (p := 21) (by decide +kernel) rfl (by decide) rfl (Or.inl ⟨rfl, rfl⟩) rfl fl_11_137 rfl ?_
      refine A_aload_n (i := 0) (f := 0) (by omega) rfl (by decide +kernel) rfl ?_
      refine B_getp (v := ((mset (mset M11 59 22 r10) 59 21 0) 59 21)) (q := (RX11, TX11, 59)) (ci := 10) (j := 21) (p := 21) (by decide +kernel) rfl (by decide) rfl (Or.inl rfl) fl_11_137 rfl ?_
      refine A_iconst (a := 1) (by decide +kernel) (by unfold in32; omega) ?_
      refine A_ic_ne (off := 91) (tgt := 226) (by decide +kernel) (by omega) (fun b31 => ?_) (fun b31 => ?_)
      · have h32 := h15.1 b31
        exact A_ret ⟨by decide +kernel, rfl⟩ ⟨rfl, h32⟩
      · have h33 := h15.2 (Decidable.not_not.mp b31)
        refine A_aload_n (i := 0) (f := 0) (by omega) rfl (by decide +kernel) rfl ?_
        refine A_cVd (q := (RX11, TX11, 59)) (ci := 10) (o := ((59 : Nat) : Int)) (args := []) (st := []) (by decide +kernel) cv_m11_name rfl rfl in_m11_name se_m11_name lk_11_150 rfl (by omega) (Nat.le_of_ble_eq_true rfl) h33 (fun M35 h36 => ?_)
        refine A_goto (off := 84) (tgt := 226) (by decide +kernel) (by omega) ?_
        exact A_ret ⟨by decide +kernel, rfl⟩ ⟨rfl, h36⟩
  · have h9 := h6.2 b7
    refine A_aload_n (i := 0) (f := 0) (by omega) rfl (by decide +kernel) rfl ?_
    refine A_dup (by decide +kernel) (by simp) ?_
    refine B_getp (v := (M5 59 19)) (q := (RX11, TX11, 59)) (ci := 10) (j := 19) (p := 19) (by decide +kernel) rfl (by decide) rfl (Or.inl rfl) fl_11_124 rfl ?_
    refine A_iconst (a := 1) (by decide +kernel) (by unfold in32; omega) ?_
    refine A_iadd (by decide +kernel) ?_
    refine B_putp (M' := (mset M5 59 19 (w32 ((M5 59 19) + 1)))) (q := (RX11, TX11, 59)) (ci := 10) (j := 19) (p := 19) (by decide +kernel) rfl (by decide) rfl (Or.inl ⟨rfl, rfl⟩) rfl fl_11_124 rfl ?_
    refine A_goto (off := (-20)) (tgt := 64) (by decide +kernel) (by omega) ?_
    exact A_weak (lsub.keep (lsub.drop lsub.nil)) h9
theorem r_11_token_162  {M : Mem} {P : Mem → Prop} (h : (CI m11_here 1 [(20, ((59 : Nat) : Int))] M (fun r1 M2 => (CI m11_isDigit 1 [(0, r1)] M2 (fun r4 M5 => ((r4 = 0 → (P M5)) ∧ (r4 ≠ 0 → (((M5 59 22) ≤ 9999 → (CI m11_here 1 [(20, ((59 : Nat) : Int))] M5 (fun r13 M14 => A m11_token 3 0 162 [(20, ((59 : Nat) : Int)), (2, 0)] [] (mset (mset M14 59 22 (w32 ((w32 ((w32 (10 * (M5 59 22))) + r13)) - 48))) 59 19 (w32 (((mset M14 59 22 (w32 ((w32 ((w32 (10 * (M5 59 22))) + r13)) - 48))) 59 19) + 1))) (Kd P)))) ∧ (9999 < (M5 59 22) → A m11_token 3 0 162 [(20, ((59 : Nat) : Int)), (2, 0)] [] (mset (mset M5 59 22 (M5 59 22)) 59 19 (w32 (((mset M5 59 22 (M5 59 22)) 59 19) + 1))) (Kd P)))))))))) : A m11_token 3 0 162 [(20, ((59 : Nat) : Int)), (2, 0)] [] M (Kd P) := by
  refine A_aload_n (i := 0) (f := 0) (by omega) rfl (by decide +kernel) rfl ?_
  refine A_cVi (q := (RX11, TX11, 59)) (ci := 10) (o := ((59 : Nat) : Int)) (args := []) (st := []) (by decide +kernel) cv_m11_here rfl rfl in_m11_here se_m11_here lk_11_130 rfl (by omega) (Nat.le_of_ble_eq_true rfl) h (fun r1 M2 _ h3 => ?_)
  refine A_cSi (args := [(0, r1)]) (st := []) (by decide +kernel) cv_m11_isDigit st_m11_isDigit lk_11_153 rfl (by omega) (Nat.le_of_ble_eq_true rfl) h3 (fun r4 M5 _ h6 => ?_)
  refine A_if_eq (off := 57) (tgt := 226) (by decide +kernel) (by omega) (fun b7 => ?_) (fun b7 => ?_)
  · have h8 := h6.1 b7
    exact A_ret ⟨by decide +kernel, rfl⟩ ⟨rfl, h8⟩
  · have h9 := h6.2 b7
    refine A_aload_n (i := 0) (f := 0) (by omega) rfl (by decide +kernel) rfl ?_
    refine A_aload_n (i := 0) (f := 0) (by omega) rfl (by decide +kernel) rfl ?_
    refine B_getp (v := (M5 59 22)) (q := (RX11, TX11, 59)) (ci := 10) (j := 22) (p := 22) (by decide +kernel) rfl (by decide) rfl (Or.inl rfl) fl_11_147 rfl ?_
    refine A_sipush (a := 9999) (by decide +kernel) (by unfold in32; omega) (by decide +kernel) ?_
    refine A_ic_le (off := 10) (tgt := 190) (by decide +kernel) (by omega) (fun b10 => ?_) (fun b10 => ?_)
    · have h11 := h9.1 b10
      refine A_bipush (a := 10) (by decide +kernel) (by unfold in32; omega) (by decide +kernel) ?_
      refine A_aload_n (i := 0) (f := 0) (by omega) rfl (by decide +kernel) rfl ?_
      refine B_getp (v := (M5 59 22)) (q := (RX11, TX11, 59)) (ci := 10) (j := 22) (p := 22) (by decide +kernel) rfl (by decide) rfl (Or.inl rfl) fl_11_147 rfl ?_
      refine A_imul (by decide +kernel) ?_
      refine A_aload_n (i := 0) (f := 0) (by omega) rfl (by decide +kernel) rfl ?_
      refine A_cVi (q := (RX11, TX11, 59)) (ci := 10) (o := ((59 : Nat) : Int)) (args := []) (st := [(0, (w32 (10 * (M5 59 22)))), (20, ((59 : Nat) : Int))]) (by decide +kernel) cv_m11_here rfl rfl in_m11_here se_m11_here lk_11_130 rfl (by omega) (Nat.le_of_ble_eq_true rfl) h11 (fun r13 M14 _ h15 => ?_)
      refine A_iadd (by decide +kernel) ?_
      refine A_bipush (a := 48) (by decide +kernel) (by unfold in32; omega) (by decide +kernel) ?_
      refine A_isub (by decide +kernel) ?_
      refine B_putp (M' := (mset M14 59 22 (w32 ((w32 ((w32 (10 * (M5 59 22))) + r13)) - 48)))) (q := (RX11, TX11, 59)) (ci := 10) (j := 22) (p := 22) (by decide +kernel) rfl (by decide) rfl (Or.inl ⟨rfl, rfl⟩) rfl fl_11_147 rfl ?_
      refine A_aload_n (i := 0) (f := 0) (by omega) rfl (by decide +kernel) rfl ?_
      refine A_dup (by decide +kernel) (by simp) ?_
      refine B_getp (v := ((mset M14 59 22 (w32 ((w32 ((w32 (10 * (M5 59 22))) + r13)) - 48))) 59 19)) (q := (RX11, TX11, 59)) (ci := 10) (j := 19) (p := 19) (by decide +kernel) rfl (by decide) rfl (Or.inl rfl) fl_11_124 rfl ?_
      refine A_iconst (a := 1) (by decide +kernel) (by unfold in32; omega) ?_
      refine A_iadd (by decide +kernel) ?_
      refine B_putp (M' := (mset (mset M14 59 22 (w32 ((w32 ((w32 (10 * (M5 59 22))) + r13)) - 48))) 59 19 (w32 (((mset M14 59 22 (w32 ((w32 ((w32 (10 * (M5 59 22))) + r13)) - 48))) 59 19) + 1)))) (q := (RX11, TX11, 59)) (ci := 10) (j := 19) (p := 19) (by decide +kernel) rfl (by decide) rfl (Or.inl ⟨rfl, rfl⟩) rfl fl_11_124 rfl ?_
      refine A_goto (off := (-56)) (tgt := 162) (by decide +kernel) (by omega) ?_
      exact A_weak (lsub.keep (lsub.drop lsub.nil)) h15
    · have h12 := h9.2 (Int.not_le.mp b10)
      refine A_aload_n (i := 0) (f := 0) (by omega) rfl (by decide +kernel) rfl ?_
      refine B_getp (v := (M5 59 22)) (q := (RX11, TX11, 59)) (ci := 10) (j := 22) (p := 22) (by decide +kernel) rfl (by decide) rfl (Or.inl rfl) fl_11_147 rfl ?_
      refine A_goto (off := 18) (tgt := 205) (by decide +kernel) (by omega) ?_
      refine B_putp (M' := (mset M5 59 22 (M5 59 22))) (q := (RX11, TX11, 59)) (ci := 10) (j := 22) (p := 22) (by decide +kernel) rfl (by decide) rfl (Or.inl ⟨rfl, rfl⟩) rfl fl_11_147 rfl ?_
      refine A_aload_n (i := 0) (f := 0) (by omega) rfl (by decide +kernel) rfl ?_
      refine A_dup (by decide +kernel) (by simp) ?_
      refine B_getp (v := ((mset M5 59 22 (M5 59 22)) 59 19)) (q := (RX11, TX11, 59)) (ci := 10) (j := 19) (p := 19) (by decide +kernel) rfl (by decide) rfl (Or.inl rfl) fl_11_124 rfl ?_
      refine A_iconst (a := 1) (by decide +kernel) (by unfold in32; omega) ?_
      refine A_iadd (by decide +kernel) ?_
      refine B_putp (M' := (mset (mset M5 59 22 (M5 59 22)) 59 19 (w32 (((mset M5 59 22 (M5 59 22)) 59 19) + 1)))) (q := (RX11, TX11, 59)) (ci := 10) (j := 19) (p := 19) (by decide +kernel) rfl (by decide) rfl (Or.inl ⟨rfl, rfl⟩) rfl fl_11_124 rfl ?_
      refine A_goto (off := (-56)) (tgt := 162) (by decide +kernel) (by omega) ?_
      exact A_weak (lsub.keep (lsub.drop lsub.nil)) h12
theorem q_11_sign {x1 : Int} {M : Mem} {P : Mem → Prop} (h : ((x1 = 59 → ((x1 ≠ 60 → A m11_sign 2 0 106 [(20, ((59 : Nat) : Int)), (0, x1)] [] (mset (mset (mset M 59 19 (w32 ((M 59 19) + 1))) 59 21 3) 59 22 x1) (Kd P)) ∧ (x1 = 60 → (CI m11_here 1 [(20, ((59 : Nat) : Int))] (mset (mset (mset M 59 19 (w32 ((M 59 19) + 1))) 59 21 3) 59 22 x1) (fun r7 M8 => ((r7 ≠ 61 → A m11_sign 2 0 106 [(20, ((59 : Nat) : Int)), (0, x1)] [] M8 (Kd P)) ∧ (r7 = 61 → A m11_sign 2 0 106 [(20, ((59 : Nat) : Int)), (0, x1)] [] (mset M8 59 22 256) (Kd P)))))))) ∧ (x1 ≠ 59 → ((x1 = 40 → ((x1 ≠ 60 → A m11_sign 2 0 106 [(20, ((59 : Nat) : Int)), (0, x1)] [] (mset (mset (mset M 59 19 (w32 ((M 59 19) + 1))) 59 21 3) 59 22 x1) (Kd P)) ∧ (x1 = 60 → (CI m11_here 1 [(20, ((59 : Nat) : Int))] (mset (mset (mset M 59 19 (w32 ((M 59 19) + 1))) 59 21 3) 59 22 x1) (fun r19 M20 => ((r19 ≠ 61 → A m11_sign 2 0 106 [(20, ((59 : Nat) : Int)), (0, x1)] [] M20 (Kd P)) ∧ (r19 = 61 → A m11_sign 2 0 106 [(20, ((59 : Nat) : Int)), (0, x1)] [] (mset M20 59 22 256) (Kd P)))))))) ∧ (x1 ≠ 40 → ((x1 = 41 → ((x1 ≠ 60 → A m11_sign 2 0 106 [(20, ((59 : Nat) : Int)), (0, x1)] [] (mset (mset (mset M 59 19 (w32 ((M 59 19) + 1))) 59 21 3) 59 22 x1) (Kd P)) ∧ (x1 = 60 → (CI m11_here 1 [(20, ((59 : Nat) : Int))] (mset (mset (mset M 59 19 (w32 ((M 59 19) + 1))) 59 21 3) 59 22 x1) (fun r31 M32 => ((r31 ≠ 61 → A m11_sign 2 0 106 [(20, ((59 : Nat) : Int)), (0, x1)] [] M32 (Kd P)) ∧ (r31 = 61 → A m11_sign 2 0 106 [(20, ((59 : Nat) : Int)), (0, x1)] [] (mset M32 59 22 256) (Kd P)))))))) ∧ (x1 ≠ 41 → ((x1 = 43 → ((x1 ≠ 60 → A m11_sign 2 0 106 [(20, ((59 : Nat) : Int)), (0, x1)] [] (mset (mset (mset M 59 19 (w32 ((M 59 19) + 1))) 59 21 3) 59 22 x1) (Kd P)) ∧ (x1 = 60 → (CI m11_here 1 [(20, ((59 : Nat) : Int))] (mset (mset (mset M 59 19 (w32 ((M 59 19) + 1))) 59 21 3) 59 22 x1) (fun r43 M44 => ((r43 ≠ 61 → A m11_sign 2 0 106 [(20, ((59 : Nat) : Int)), (0, x1)] [] M44 (Kd P)) ∧ (r43 = 61 → A m11_sign 2 0 106 [(20, ((59 : Nat) : Int)), (0, x1)] [] (mset M44 59 22 256) (Kd P)))))))) ∧ (x1 ≠ 43 → ((x1 = 45 → ((x1 ≠ 60 → A m11_sign 2 0 106 [(20, ((59 : Nat) : Int)), (0, x1)] [] (mset (mset (mset M 59 19 (w32 ((M 59 19) + 1))) 59 21 3) 59 22 x1) (Kd P)) ∧ (x1 = 60 → (CI m11_here 1 [(20, ((59 : Nat) : Int))] (mset (mset (mset M 59 19 (w32 ((M 59 19) + 1))) 59 21 3) 59 22 x1) (fun r55 M56 => ((r55 ≠ 61 → A m11_sign 2 0 106 [(20, ((59 : Nat) : Int)), (0, x1)] [] M56 (Kd P)) ∧ (r55 = 61 → A m11_sign 2 0 106 [(20, ((59 : Nat) : Int)), (0, x1)] [] (mset M56 59 22 256) (Kd P)))))))) ∧ (x1 ≠ 45 → ((x1 = 42 → ((x1 ≠ 60 → A m11_sign 2 0 106 [(20, ((59 : Nat) : Int)), (0, x1)] [] (mset (mset (mset M 59 19 (w32 ((M 59 19) + 1))) 59 21 3) 59 22 x1) (Kd P)) ∧ (x1 = 60 → (CI m11_here 1 [(20, ((59 : Nat) : Int))] (mset (mset (mset M 59 19 (w32 ((M 59 19) + 1))) 59 21 3) 59 22 x1) (fun r67 M68 => ((r67 ≠ 61 → A m11_sign 2 0 106 [(20, ((59 : Nat) : Int)), (0, x1)] [] M68 (Kd P)) ∧ (r67 = 61 → A m11_sign 2 0 106 [(20, ((59 : Nat) : Int)), (0, x1)] [] (mset M68 59 22 256) (Kd P)))))))) ∧ (x1 ≠ 42 → ((x1 = 47 → ((x1 ≠ 60 → A m11_sign 2 0 106 [(20, ((59 : Nat) : Int)), (0, x1)] [] (mset (mset (mset M 59 19 (w32 ((M 59 19) + 1))) 59 21 3) 59 22 x1) (Kd P)) ∧ (x1 = 60 → (CI m11_here 1 [(20, ((59 : Nat) : Int))] (mset (mset (mset M 59 19 (w32 ((M 59 19) + 1))) 59 21 3) 59 22 x1) (fun r79 M80 => ((r79 ≠ 61 → A m11_sign 2 0 106 [(20, ((59 : Nat) : Int)), (0, x1)] [] M80 (Kd P)) ∧ (r79 = 61 → A m11_sign 2 0 106 [(20, ((59 : Nat) : Int)), (0, x1)] [] (mset M80 59 22 256) (Kd P)))))))) ∧ (x1 ≠ 47 → ((x1 = 60 → ((x1 ≠ 60 → A m11_sign 2 0 106 [(20, ((59 : Nat) : Int)), (0, x1)] [] (mset (mset (mset M 59 19 (w32 ((M 59 19) + 1))) 59 21 3) 59 22 x1) (Kd P)) ∧ (x1 = 60 → (CI m11_here 1 [(20, ((59 : Nat) : Int))] (mset (mset (mset M 59 19 (w32 ((M 59 19) + 1))) 59 21 3) 59 22 x1) (fun r91 M92 => ((r91 ≠ 61 → A m11_sign 2 0 106 [(20, ((59 : Nat) : Int)), (0, x1)] [] M92 (Kd P)) ∧ (r91 = 61 → A m11_sign 2 0 106 [(20, ((59 : Nat) : Int)), (0, x1)] [] (mset M92 59 22 256) (Kd P)))))))) ∧ (x1 ≠ 60 → ((x1 = 61 → ((x1 ≠ 60 → A m11_sign 2 0 106 [(20, ((59 : Nat) : Int)), (0, x1)] [] (mset (mset (mset M 59 19 (w32 ((M 59 19) + 1))) 59 21 3) 59 22 x1) (Kd P)) ∧ (x1 = 60 → (CI m11_here 1 [(20, ((59 : Nat) : Int))] (mset (mset (mset M 59 19 (w32 ((M 59 19) + 1))) 59 21 3) 59 22 x1) (fun r103 M104 => ((r103 ≠ 61 → A m11_sign 2 0 106 [(20, ((59 : Nat) : Int)), (0, x1)] [] M104 (Kd P)) ∧ (r103 = 61 → A m11_sign 2 0 106 [(20, ((59 : Nat) : Int)), (0, x1)] [] (mset M104 59 22 256) (Kd P)))))))) ∧ (x1 ≠ 61 → ((x1 ≠ 62 → ((x1 ≠ 60 → A m11_sign 2 0 106 [(20, ((59 : Nat) : Int)), (0, x1)] [] (mset (mset (mset M 59 19 (w32 ((M 59 19) + 1))) 59 21 5) 59 22 x1) (Kd P)) ∧ (x1 = 60 → (CI m11_here 1 [(20, ((59 : Nat) : Int))] (mset (mset (mset M 59 19 (w32 ((M 59 19) + 1))) 59 21 5) 59 22 x1) (fun r115 M116 => ((r115 ≠ 61 → A m11_sign 2 0 106 [(20, ((59 : Nat) : Int)), (0, x1)] [] M116 (Kd P)) ∧ (r115 = 61 → A m11_sign 2 0 106 [(20, ((59 : Nat) : Int)), (0, x1)] [] (mset M116 59 22 256) (Kd P)))))))) ∧ (x1 = 62 → ((x1 ≠ 60 → A m11_sign 2 0 106 [(20, ((59 : Nat) : Int)), (0, x1)] [] (mset (mset (mset M 59 19 (w32 ((M 59 19) + 1))) 59 21 3) 59 22 x1) (Kd P)) ∧ (x1 = 60 → (CI m11_here 1 [(20, ((59 : Nat) : Int))] (mset (mset (mset M 59 19 (w32 ((M 59 19) + 1))) 59 21 3) 59 22 x1) (fun r124 M125 => ((r124 ≠ 61 → A m11_sign 2 0 106 [(20, ((59 : Nat) : Int)), (0, x1)] [] M125 (Kd P)) ∧ (r124 = 61 → A m11_sign 2 0 106 [(20, ((59 : Nat) : Int)), (0, x1)] [] (mset M125 59 22 256) (Kd P)))))))))))))))))))))))))))) : CD m11_sign 2 [(20, ((59 : Nat) : Int)), (0, x1)] M P := by
  refine CD_of (by decide +kernel) (Nat.le_of_ble_eq_true rfl) ?_
  show A m11_sign 2 0 0 [(20, ((59 : Nat) : Int)), (0, x1)] [] M (Kd P)
  refine A_aload_n (i := 0) (f := 0) (by omega) rfl (by decide +kernel) rfl ?_
  refine A_dup (by decide +kernel) (by simp) ?_
  refine B_getp (v := (M 59 19)) (q := (RX11, TX11, 59)) (ci := 10) (j := 19) (p := 19) (by decide +kernel) rfl (by decide) rfl (Or.inl rfl) fl_11_124 rfl ?_
  refine A_iconst (a := 1) (by decide +kernel) (by unfold in32; omega) ?_
  refine A_iadd (by decide +kernel) ?_
  refine B_putp (M' := (mset M 59 19 (w32 ((M 59 19) + 1)))) (q := (RX11, TX11, 59)) (ci := 10) (j := 19) (p := 19) (by decide +kernel) rfl (by decide) rfl (Or.inl ⟨rfl, rfl⟩) rfl fl_11_124 rfl ?_
  refine A_aload_n (i := 0) (f := 0) (by omega) rfl (by decide +kernel) rfl ?_
  refine A_iload_n (i := 1) (f := 1) rfl (by decide +kernel) rfl ?_
  refine A_bipush (a := 59) (by decide +kernel) (by unfold in32; omega) (by decide +kernel) ?_
  refine A_ic_eq (off := 57) (tgt := 71) (by decide +kernel) (by omega) (fun b1 => ?_) (fun b1 => ?_)
  · have h2 := h.1 b1
    refine A_iconst (a := 3) (by decide +kernel) (by unfold in32; omega) ?_
    refine A_goto (off := 4) (tgt := 76) (by decide +kernel) (by omega) ?_
    refine B_putp (M' := (mset (mset M 59 19 (w32 ((M 59 19) + 1))) 59 21 3)) (q := (RX11, TX11, 59)) (ci := 10) (j := 21) (p := 21) (by decide +kernel) rfl (by decide) rfl (Or.inl ⟨rfl, rfl⟩) rfl fl_11_137 rfl ?_
    refine A_aload_n (i := 0) (f := 0) (by omega) rfl (by decide +kernel) rfl ?_
    refine A_iload_n (i := 1) (f := 1) rfl (by decide +kernel) rfl ?_
    refine B_putp (M' := (mset (mset (mset M 59 19 (w32 ((M 59 19) + 1))) 59 21 3) 59 22 x1)) (q := (RX11, TX11, 59)) (ci := 10) (j := 22) (p := 22) (by decide +kernel) rfl (by decide) rfl (Or.inl ⟨rfl, rfl⟩) rfl fl_11_147 rfl ?_
    refine A_iload_n (i := 1) (f := 1) rfl (by decide +kernel) rfl ?_
    refine A_bipush (a := 60) (by decide +kernel) (by unfold in32; omega) (by decide +kernel) ?_
    refine A_ic_ne (off := 19) (tgt := 106) (by decide +kernel) (by omega) (fun b4 => ?_) (fun b4 => ?_)
    · have h5 := h2.1 b4
      exact A_weak (lsub.keep (lsub.keep lsub.nil)) h5
    · have h6 := h2.2 (Decidable.not_not.mp b4)
      refine A_aload_n (i := 0) (f := 0) (by omega) rfl (by decide +kernel) rfl ?_
      refine A_cVi (q := (RX11, TX11, 59)) (ci := 10) (o := ((59 : Nat) : Int)) (args := []) (st := []) (by decide +kernel) cv_m11_here rfl rfl in_m11_here se_m11_here lk_11_130 rfl (by omega) (Nat.le_of_ble_eq_true rfl) h6 (fun r7 M8 _ h9 => ?_)
      refine A_bipush (a := 61) (by decide +kernel) (by unfold in32; omega) (by decide +kernel) ?_
      refine A_ic_ne (off := 10) (tgt := 106) (by decide +kernel) (by omega) (fun b10 => ?_) (fun b10 => ?_)
      · have h11 := h9.1 b10
        exact A_weak (lsub.keep (lsub.keep lsub.nil)) h11
      · have h12 := h9.2 (Decidable.not_not.mp b10)
        refine A_aload_n (i := 0) (f := 0) (by omega) rfl (by decide +kernel) rfl ?_
        refine A_sipush (a := 256) (by decide +kernel) (by unfold in32; omega) (by decide +kernel) ?_
        refine B_putp (M' := (mset M8 59 22 256)) (q := (RX11, TX11, 59)) (ci := 10) (j := 22) (p := 22) (by decide +kernel) rfl (by decide) rfl (Or.inl ⟨rfl, rfl⟩) rfl fl_11_147 rfl ?_
        exact A_weak (lsub.keep (lsub.keep lsub.nil)) h12
  · have h3 := h.2 b1
    refine A_iload_n (i := 1) (f := 1) rfl (by decide +kernel) rfl ?_
    refine A_bipush (a := 40) (by decide +kernel) (by unfold in32; omega) (by decide +kernel) ?_
    refine A_ic_eq (off := 51) (tgt := 71) (by decide +kernel) (by omega) (fun b13 => ?_) (fun b13 => ?_)
    · have h14 := h3.1 b13
      refine A_iconst (a := 3) (by decide +kernel) (by unfold in32; omega) ?_
      refine A_goto (off := 4) (tgt := 76) (by decide +kernel) (by omega) ?_
      refine B_putp (M' := (mset (mset M 59 19 (w32 ((M 59 19) + 1))) 59 21 3)) (q := (RX11, TX11, 59)) (ci := 10) (j := 21) (p := 21) (by decide +kernel) rfl (by decide) rfl (Or.inl ⟨rfl, rfl⟩) rfl fl_11_137 rfl ?_
      refine A_aload_n (i := 0) (f := 0) (by omega) rfl (by decide +kernel) rfl ?_
      refine A_iload_n (i := 1) (f := 1) rfl (by decide +kernel) rfl ?_
      refine B_putp (M' := (mset (mset (mset M 59 19 (w32 ((M 59 19) + 1))) 59 21 3) 59 22 x1)) (q := (RX11, TX11, 59)) (ci := 10) (j := 22) (p := 22) (by decide +kernel) rfl (by decide) rfl (Or.inl ⟨rfl, rfl⟩) rfl fl_11_147 rfl ?_
      refine A_iload_n (i := 1) (f := 1) rfl (by decide +kernel) rfl ?_
      refine A_bipush (a := 60) (by decide +kernel) (by unfold in32; omega) (by decide +kernel) ?_
      refine A_ic_ne (off := 19) (tgt := 106) (by decide +kernel) (by omega) (fun b16 => ?_) (fun b16 => ?_)
      · have h17 := h14.1 b16
        exact A_weak (lsub.keep (lsub.keep lsub.nil)) h17
      · have h18 := h14.2 (Decidable.not_not.mp b16)
        refine A_aload_n (i := 0) (f := 0) (by omega) rfl (by decide +kernel) rfl ?_
        refine A_cVi (q := (RX11, TX11, 59)) (ci := 10) (o := ((59 : Nat) : Int)) (args := []) (st := []) (by decide +kernel) cv_m11_here rfl rfl in_m11_here se_m11_here lk_11_130 rfl (by omega) (Nat.le_of_ble_eq_true rfl) h18 (fun r19 M20 _ h21 => ?_)
        refine A_bipush (a := 61) (by decide +kernel) (by unfold in32; omega) (by decide +kernel) ?_
        refine A_ic_ne (off := 10) (tgt := 106) (by decide +kernel) (by omega) (fun b22 => ?_) (fun b22 => ?_)
        · have h23 := h21.1 b22
          exact A_weak (lsub.keep (lsub.keep lsub.nil)) h23
        · have h24 := h21.2 (Decidable.not_not.mp b22)
          refine A_aload_n (i := 0) (f := 0) (by omega) rfl (by decide +kernel) rfl ?_
          refine A_sipush (a := 256) (by decide +kernel) (by unfold in32; omega) (by decide +kernel) ?_
          refine B_putp (M' := (mset M20 59 22 256)) (q := (RX11, TX11, 59)) (ci := 10) (j := 22) (p := 22) (by decide +kernel) rfl (by decide) rfl (Or.inl ⟨rfl, rfl⟩) rfl fl_11_147 rfl ?_
          exact A_weak (lsub.keep (lsub.keep lsub.nil)) h24
    · have h15 := h3.2 b13
      refine A_iload_n (i := 1) (f := 1) rfl (by decide +kernel) rfl ?_
      refine A_bipush (a := 41) (by decide +kernel) (by unfold in32; omega) (by decide +kernel) ?_
      refine A_ic_eq (off := 45) (tgt := 71) (by decide +kernel) (by omega) (fun b25 => ?_) (fun b25 => ?_)
      · have h26 := h15.1 b25
        refine A_iconst (a := 3) (by decide +kernel) (by unfold in32; omega) ?_
        refine A_goto (off := 4) (tgt := 76) (by decide +kernel) (by omega) ?_
        refine B_putp (M' := (mset (mset M 59 19 (w32 ((M 59 19) + 1))) 59 21 3)) (q := (RX11, TX11, 59)) (ci := 10) (j := 21) (p := 21) (by decide +kernel) rfl (by decide) rfl (Or.inl ⟨rfl, rfl⟩) rfl fl_11_137 rfl ?_
        refine A_aload_n (i := 0) (f := 0) (by omega) rfl (by decide +kernel) rfl ?_
        refine A_iload_n (i := 1) (f := 1) rfl (by decide +kernel) rfl ?_
        refine B_putp (M' := (mset (mset (mset M 59 19 (w32 ((M 59 19) + 1))) 59 21 3) 59 22 x1)) (q := (RX11, TX11, 59)) (ci := 10) (j := 22) (p := 22) (by decide +kernel) rfl (by decide) rfl (Or.inl ⟨rfl, rfl⟩) rfl fl_11_147 rfl ?_
        refine A_iload_n (i := 1) (f := 1) rfl (by decide +kernel) rfl ?_
        refine A_bipush (a := 60) (by decide +kernel) (by unfold in32; omega) (by decide +kernel) ?_
        refine A_ic_ne (off := 19) (tgt := 106) (by decide +kernel) (by omega) (fun b28 => ?_) (fun b28 => ?_)
        · have h29 := h26.1 b28
          exact A_weak (lsub.keep (lsub.keep lsub.nil)) h29
        · have h30 := h26.2 (Decidable.not_not.mp b28)
          refine A_aload_n (i := 0) (f := 0) (by omega) rfl (by decide +kernel) rfl ?_
          refine A_cVi (q := (RX11, TX11, 59)) (ci := 10) (o := ((59 : Nat) : Int)) (args := []) (st := []) (by decide +kernel) cv_m11_here rfl rfl in_m11_here se_m11_here lk_11_130 rfl (by omega) (Nat.le_of_ble_eq_true rfl) h30 (fun r31 M32 _ h33 => ?_)
          refine A_bipush (a := 61) (by decide +kernel) (by unfold in32; omega) (by decide +kernel) ?_
          refine A_ic_ne (off := 10) (tgt := 106) (by decide +kernel) (by omega) (fun b34 => ?_) (fun b34 => ?_)
          · have h35 := h33.1 b34
            exact A_weak (lsub.keep (lsub.keep lsub.nil)) h35
          · have h36 := h33.2 (Decidable.not_not.mp b34)
            refine A_aload_n (i := 0) (f := 0) (by omega) rfl (by decide +kernel) rfl ?_
            refine A_sipush (a := 256) (by decide +kernel) (by unfold in32; omega) (by decide +kernel) ?_
            refine B_putp (M' := (mset M32 59 22 256)) (q := (RX11, TX11, 59)) (ci := 10) (j := 22) (p := 22) (by decide +kernel) rfl (by decide) rfl (Or.inl ⟨rfl, rfl⟩) rfl fl_11_147 rfl ?_
            exact A_weak (lsub.keep (lsub.keep lsub.nil)) h36
      · have h27 := h15.2 b25
        refine A_iload_n (i := 1) (f := 1) rfl (by decide +kernel) rfl ?_
        refine A_bipush (a := 43) (by decide +kernel) (by unfold in32; omega) (by decide +kernel) ?_
        refine A_ic_eq (off := 39) (tgt := 71) (by decide +kernel) (by omega) (fun b37 => ?_) (fun b37 => ?_)
        · have h38 := h27.1 b37
          refine A_iconst (a := 3) (by decide +kernel) (by unfold in32; omega) ?_
          refine A_goto (off := 4) (tgt := 76) (by decide +kernel) (by omega) ?_
          refine B_putp (M' := (mset (mset M 59 19 (w32 ((M 59 19) + 1))) 59 21 3)) (q := (RX11, TX11, 59)) (ci := 10) (j := 21) (p := 21) (by decide +kernel) rfl (by decide) rfl (Or.inl ⟨rfl, rfl⟩) rfl fl_11_137 rfl ?_
          refine A_aload_n (i := 0) (f := 0) (by omega) rfl (by decide +kernel) rfl ?_
          refine A_iload_n (i := 1) (f := 1) rfl (by decide +kernel) rfl ?_
          refine B_putp (M' := (mset (mset (mset M 59 19 (w32 ((M 59 19) + 1))) 59 21 3) 59 22 x1)) (q := (RX11, TX11, 59)) (ci := 10) (j := 22) (p := 22) (by decide +kernel) rfl (by decide) rfl (Or.inl ⟨rfl, rfl⟩) rfl fl_11_147 rfl ?_
          refine A_iload_n (i := 1) (f := 1) rfl (by decide +kernel) rfl ?_
          refine A_bipush (a := 60) (by decide +kernel) (by unfold in32; omega) (by decide +kernel) ?_
          refine A_ic_ne (off := 19) (tgt := 106) (by decide +kernel) (by omega) (fun b40 => ?_) (fun b40 => ?_)
          · have h41 := h38.1 b40
            exact A_weak (lsub.keep (lsub.keep lsub.nil)) h41
          · have h42 := h38.2 (Decidable.not_not.mp b40)
            refine A_aload_n (i := 0) (f := 0) (by omega) rfl (by decide +kernel) rfl ?_
            refine A_cVi (q := (RX11, TX11, 59)) (ci := 10) (o := ((59 : Nat) : Int)) (args := []) (st := []) (by decide +kernel) cv_m11_here rfl rfl in_m11_here se_m11_here lk_11_130 rfl (by omega) (Nat.le_of_ble_eq_true rfl) h42 (fun r43 M44 _ h45 => ?_)
            refine A_bipush (a := 61) (by decide +kernel) (by unfold in32; omega) (by decide +kernel) ?_
            refine A_ic_ne (off := 10) (tgt := 106) (by decide +kernel) (by omega) (fun b46 => ?_) (fun b46 => ?_)
            · have h47 := h45.1 b46
              exact A_weak (lsub.keep (lsub.keep lsub.nil)) h47
            · have h48 := h45.2 (Decidable.not_not.mp b46)
              refine A_aload_n (i := 0) (f := 0) (by omega) rfl (by decide +kernel) rfl ?_
              refine A_sipush (a := 256) (by decide +kernel) (by unfold in32; omega) (by decide +kernel) ?_
              refine B_putp (M' := (mset M44 59 22 256)) (q := (RX11, TX11, 59)) (ci := 10) (j := 22) (p := 22) (by decide +kernel) rfl (by decide) rfl (Or.inl ⟨rfl, rfl⟩) rfl fl_11_147 rfl ?_
              exact A_weak (lsub.keep (lsub.keep lsub.nil)) h48
        · have h39 := h27.2 b37
          refine A_iload_n (i := 1) (f := 1) rfl (by decide +kernel) rfl ?_
          refine A_bipush (a := 45) (by decide +kernel) (by unfold in32; omega) (by decide +kernel) ?_
          refine A_ic_eq (off := 33) (tgt := 71) (by decide +kernel) (by omega) (fun b49 => ?_) (fun b49 => ?_)
          · have h50 := h39.1 b49
            refine A_iconst (a := 3) (by decide +kernel) (by unfold in32; omega) ?_
            refine A_goto (off := 4) (tgt := 76) (by decide +kernel) (by omega) ?_
            refine B_putp (M' := (mset (mset M 59 19 (w32 ((M 59 19) + 1))) 59 21 3)) (q := (RX11, TX11, 59)) (ci := 10) (j := 21) (p := 21) (by decide +kernel) rfl (by decide) rfl (Or.inl ⟨rfl, rfl⟩) rfl fl_11_137 rfl ?_
            refine A_aload_n (i := 0) (f := 0) (by omega) rfl (by decide +kernel) rfl ?_
            refine A_iload_n (i := 1) (f := 1) rfl (by decide +kernel) rfl ?_
            refine B_putp (M' := (mset (mset (mset M 59 19 (w32 ((M 59 19) + 1))) 59 21 3) 59 22 x1)) (q := (RX11, TX11, 59)) (ci := 10) (j := 22) (p := 22) (by decide +kernel) rfl (by decide) rfl (Or.inl ⟨rfl, rfl⟩) rfl fl_11_147 rfl ?_
            refine A_iload_n (i := 1) (f := 1) rfl (by decide +kernel) rfl ?_
            refine A_bipush (a := 60) (by decide +kernel) (by unfold in32; omega) (by decide +kernel) ?_
            refine A_ic_ne (off := 19) (tgt := 106) (by decide +kernel) (by omega) (fun b52 => ?_) (fun b52 => ?_)
            · have h53 := h50.1 b52
              exact A_weak (lsub.keep (lsub.keep lsub.nil)) h53
            · have h54 := h50.2 (Decidable.not_not.mp b52)
              refine A_aload_n (i := 0) (f := 0) (by omega) rfl (by decide +kernel) rfl ?_
              refine A_cVi (q := (RX11, TX11, 59)) (ci := 10) (o := ((59 : Nat) : Int)) (args := []) (st := []) (by decide +kernel) cv_m11_here rfl rfl in_m11_here se_m11_here lk_11_130 rfl (by omega) (Nat.le_of_ble_eq_true rfl) h54 (fun r55 M56 _ h57 => ?_)
              refine A_bipush (a := 61) (by decide +kernel) (by unfold in32; omega) (by decide +kernel) ?_
              refine A_ic_ne (off := 10) (tgt := 106) (by decide +kernel) (by omega) (fun b58 => ?_) (fun b58 => ?_)
              · have h59 := h57.1 b58
                exact A_weak (lsub.keep (lsub.keep lsub.nil)) h59
              · have h60 := h57.2 (Decidable.not_not.mp b58)
                refine A_aload_n (i := 0) (f := 0) (by omega) rfl (by decide +kernel) rfl ?_
                refine A_sipush (a := 256) (by decide +kernel) (by unfold in32; omega) (by decide +kernel) ?_
                refine B_putp (M' := (mset M56 59 22 256)) (q := (RX11, TX11, 59)) (ci := 10) (j := 22) (p := 22) (by decide +kernel) rfl (by decide) rfl (Or.inl ⟨rfl, rfl⟩) rfl fl_11_147 rfl ?_
                exact A_weak (lsub.keep (lsub.keep lsub.nil)) h60
          · have h51 := h39.2 b49
            refine A_iload_n (i := 1) (f := 1) rfl (by decide +kernel) rfl ?_
            refine A_bipush (a := 42) (by decide +kernel) (by unfold in32; omega) (by decide +kernel) ?_
            refine A_ic_eq (off := 27) (tgt := 71) (by decide +kernel) (by omega) (fun b61 => ?_) (fun b61 => ?_)
            · have h62 := h51.1 b61
              refine A_iconst (a := 3) (by decide +kernel) (by unfold in32; omega) ?_
              refine A_goto (off := 4) (tgt := 76) (by decide +kernel) (by omega) ?_
              refine B_putp (M' := (mset (mset M 59 19 (w32 ((M 59 19) + 1))) 59 21 3)) (q := (RX11, TX11, 59)) (ci := 10) (j := 21) (p := 21) (by decide +kernel) rfl (by decide) rfl (Or.inl ⟨rfl, rfl⟩) rfl fl_11_137 rfl ?_
              refine A_aload_n (i := 0) (f := 0) (by omega) rfl (by decide +kernel) rfl ?_
              refine A_iload_n (i := 1) (f := 1) rfl (by decide +kernel) rfl ?_
              refine B_putp (M' := (mset (mset (mset M 59 19 (w32 ((M 59 19) + 1))) 59 21 3) 59 22 x1)) (q := (RX11, TX11, 59)) (ci := 10) (j := 22) (p := 22) (by decide +kernel) rfl (by decide) rfl (Or.inl ⟨rfl, rfl⟩) rfl fl_11_147 rfl ?_
              refine A_iload_n (i := 1) (f := 1) rfl (by decide +kernel) rfl ?_
              refine A_bipush (a := 60) (by decide +kernel) (by unfold in32; omega) (by decide +kernel) ?_
              refine A_ic_ne (off := 19) (tgt := 106) (by decide +kernel) (by omega) (fun b64 => ?_) (fun b64 => ?_)
              · have h65 := h62.1 b64
                exact A_weak (lsub.keep (lsub.keep lsub.nil)) h65
              · have h66 := h62.2 (Decidable.not_not.mp b64)
                refine A_aload_n (i := 0) (f := 0) (by omega) rfl (by decide +kernel) rfl ?_
                refine A_cVi (q := (RX11, TX11, 59)) (ci := 10) (o := ((59 : Nat) : Int)) (args := []) (st := []) (by decide +kernel) cv_m11_here rfl rfl in_m11_here se_m11_here lk_11_130 rfl (by omega) (Nat.le_of_ble_eq_true rfl) h66 (fun r67 M68 _ h69 => ?_)
                refine A_bipush (a := 61) (by decide +kernel) (by unfold in32; omega) (by decide +kernel) ?_
                refine A_ic_ne (off := 10) (tgt := 106) (by decide +kernel) (by omega) (fun b70 => ?_) (fun b70 => ?_)
                · have h71 := h69.1 b70
                  exact A_weak (lsub.keep (lsub.keep lsub.nil)) h71
                · have h72 := h69.2 (Decidable.not_not.mp b70)
                  refine A_aload_n (i := 0) (f := 0) (by omega) rfl (by decide +kernel) rfl ?_
                  refine A_sipush (a := 256) (by decide +kernel) (by unfold in32; omega) (by decide +kernel) ?_
                  refine B_putp (M' := (mset M68 59 22 256)) (q := (RX11, TX11, 59)) (ci := 10) (j := 22) (p := 22) (by decide +kernel) rfl (by decide) rfl (Or.inl ⟨rfl, rfl⟩) rfl fl_11_147 rfl ?_
                  exact A_weak (lsub.keep (lsub.keep lsub.nil)) h72
            · have h63 := h51.2 b61
              refine A_iload_n (i := 1) (f := 1) rfl (by decide +kernel) rfl ?_
              refine A_bipush (a := 47) (by decide +kernel) (by unfold in32; omega) (by decide +kernel) ?_
              refine A_ic_eq (off := 21) (tgt := 71) (by decide +kernel) (by omega) (fun b73 => ?_) (fun b73 => ?_)
              · have h74 := h63.1 b73
                refine A_iconst (a := 3) (by decide +kernel) (by unfold in32; omega) ?_
                refine A_goto (off := 4) (tgt := 76) (by decide +kernel) (by omega) ?_
                refine B_putp (M' := (mset (mset M 59 19 (w32 ((M 59 19) + 1))) 59 21 3)) (q := (RX11, TX11, 59)) (ci := 10) (j := 21) (p := 21) (by decide +kernel) rfl (by decide) rfl (Or.inl ⟨rfl, rfl⟩) rfl fl_11_137 rfl ?_
                refine A_aload_n (i := 0) (f := 0) (by omega) rfl (by decide +kernel) rfl ?_
                refine A_iload_n (i := 1) (f := 1) rfl (by decide +kernel) rfl ?_
                refine B_putp (M' := (mset (mset (mset M 59 19 (w32 ((M 59 19) + 1))) 59 21 3) 59 22 x1)) (q := (RX11, TX11, 59)) (ci := 10) (j := 22) (p := 22) (by decide +kernel) rfl (by decide) rfl (Or.inl ⟨rfl, rfl⟩) rfl fl_11_147 rfl ?_
                refine A_iload_n (i := 1) (f := 1) rfl (by decide +kernel) rfl ?_
                refine A_bipush (a := 60) (by decide +kernel) (by unfold in32; omega) (by decide +kernel) ?_
                refine A_ic_ne (off := 19) (tgt := 106) (by decide +kernel) (by omega) (fun b76 => ?_) (fun b76 => ?_)
                · have h77 := h74.1 b76
                  exact A_weak (lsub.keep (lsub.keep lsub.nil)) h77
                · have h78 := h74.2 (Decidable.not_not.mp b76)
                  refine A_aload_n (i := 0) (f := 0) (by omega) rfl (by decide +kernel) rfl ?_
                  refine A_cVi (q := (RX11, TX11, 59)) (ci := 10) (o := ((59 : Nat) : Int)) (args := []) (st := []) (by decide +kernel) cv_m11_here rfl rfl in_m11_here se_m11_here lk_11_130 rfl (by omega) (Nat.le_of_ble_eq_true rfl) h78 (fun r79 M80 _ h81 => ?_)
                  refine A_bipush (a := 61) (by decide +kernel) (by unfold in32; omega) (by decide +kernel) ?_
                  refine A_ic_ne (off := 10) (tgt := 106) (by decide +kernel) (by omega) (fun b82 => ?_) (fun b82 => ?_)
                  · have h83 := h81.1 b82
                    exact A_weak (lsub.keep (lsub.keep lsub.nil)) h83
                  · have h84 := h81.2 (Decidable.not_not.mp b82)
                    refine A_aload_n (i := 0) (f := 0) (by omega) rfl (by decide +kernel) rfl ?_
                    refine A_sipush (a := 256) (by decide +kernel) (by unfold in32; omega) (by decide +kernel) ?_
                    refine B_putp (M' := (mset M80 59 22 256)) (q := (RX11, TX11, 59)) (ci := 10) (j := 22) (p := 22) (by decide +kernel) rfl (by decide) rfl (Or.inl ⟨rfl, rfl⟩) rfl fl_11_147 rfl ?_
                    exact A_weak (lsub.keep (lsub.keep lsub.nil)) h84
              · have h75 := h63.2 b73
                refine A_iload_n (i := 1) (f := 1) rfl (by decide +kernel) rfl ?_
                refine A_bipush (a := 60) (by decide +kernel) (by unfold in32; omega) (by decide +kernel) ?_
                refine A_ic_eq (off := 15) (tgt := 71) (by decide +kernel) (by omega) (fun b85 => ?_) (fun b85 => ?_)
                · have h86 := h75.1 b85
                  refine A_iconst (a := 3) (by decide +kernel) (by unfold in32; omega) ?_
                  refine A_goto (off := 4) (tgt := 76) (by decide +kernel) (by omega) ?_
                  refine B_putp (M' := (mset (mset M 59 19 (w32 ((M 59 19) + 1))) 59 21 3)) (q := (RX11, TX11, 59)) (ci := 10) (j := 21) (p := 21) (by decide +kernel) rfl (by decide) rfl (Or.inl ⟨rfl, rfl⟩) rfl fl_11_137 rfl ?_
                  refine A_aload_n (i := 0) (f := 0) (by omega) rfl (by decide +kernel) rfl ?_
                  refine A_iload_n (i := 1) (f := 1) rfl (by decide +kernel) rfl ?_
                  refine B_putp (M' := (mset (mset (mset M 59 19 (w32 ((M 59 19) + 1))) 59 21 3) 59 22 x1)) (q := (RX11, TX11, 59)) (ci := 10) (j := 22) (p := 22) (by decide +kernel) rfl (by decide) rfl (Or.inl ⟨rfl, rfl⟩) rfl fl_11_147 rfl ?_
                  refine A_iload_n (i := 1) (f := 1) rfl (by decide +kernel) rfl ?_
                  refine A_bipush (a := 60) (by decide +kernel) (by unfold in32; omega) (by decide +kernel) ?_
                  refine A_ic_ne (off := 19) (tgt := 106) (by decide +kernel) (by omega) (fun b88 => ?_) (fun b88 => ?_)
                  · have h89 := h86.1 b88
                    exact A_weak (lsub.keep (lsub.keep lsub.nil)) h89
                  · have h90 := h86.2 (Decidable.not_not.mp b88)
                    refine A_aload_n (i := 0) (f := 0) (by omega) rfl (by decide +kernel) rfl ?_
                    refine A_cVi (q := (RX11, TX11, 59)) (ci := 10) (o := ((59 : Nat) : Int)) (args := []) (st := []) (by decide +kernel) cv_m11_here rfl rfl in_m11_here se_m11_here lk_11_130 rfl (by omega) (Nat.le_of_ble_eq_true rfl) h90 (fun r91 M92 _ h93 => ?_)
                    refine A_bipush (a := 61) (by decide +kernel) (by unfold in32; omega) (by decide +kernel) ?_
                    refine A_ic_ne (off := 10) (tgt := 106) (by decide +kernel) (by omega) (fun b94 => ?_) (fun b94 => ?_)
                    · have h95 := h93.1 b94
                      exact A_weak (lsub.keep (lsub.keep lsub.nil)) h95
                    · have h96 := h93.2 (Decidable.not_not.mp b94)
                      refine A_aload_n (i := 0) (f := 0) (by omega) rfl (by decide +kernel) rfl ?_
                      refine A_sipush (a := 256) (by decide +kernel) (by unfold in32; omega) (by decide +kernel) ?_
                      refine B_putp (M' := (mset M92 59 22 256)) (q := (RX11, TX11, 59)) (ci := 10) (j := 22) (p := 22) (by decide +kernel) rfl (by decide) rfl (Or.inl ⟨rfl, rfl⟩) rfl fl_11_147 rfl ?_
                      exact A_weak (lsub.keep (lsub.keep lsub.nil)) h96
                · have h87 := h75.2 b85
                  refine A_iload_n (i := 1) (f := 1) rfl (by decide +kernel) rfl ?_
                  refine A_bipush (a := 61) (by decide +kernel) (by unfold in32; omega) (by decide +kernel) ?_
                  refine A_ic_eq (off := 9) (tgt := 71) (by decide +kernel) (by omega) (fun b97 => ?_) (fun b97 => ?_)
                  · have h98 := h87.1 b97
                    refine A_iconst (a := 3) (by decide +kernel) (by unfold in32; omega) ?_
                    refine A_goto (off := 4) (tgt := 76) (by decide +kernel) (by omega) ?_
                    refine B_putp (M' := (mset (mset M 59 19 (w32 ((M 59 19) + 1))) 59 21 3)) (q := (RX11, TX11, 59)) (ci := 10) (j := 21) (p := 21) (by decide +kernel) rfl (by decide) rfl (Or.inl ⟨rfl, rfl⟩) rfl fl_11_137 rfl ?_
                    refine A_aload_n (i := 0) (f := 0) (by omega) rfl (by decide +kernel) rfl ?_
                    refine A_iload_n (i := 1) (f := 1) rfl (by decide +kernel) rfl ?_
                    refine B_putp (M' := (mset (mset (mset M 59 19 (w32 ((M 59 19) + 1))) 59 21 3) 59 22 x1)) (q := (RX11, TX11, 59)) (ci := 10) (j := 22) (p := 22) (by decide +kernel) rfl (by decide) rfl (Or.inl ⟨rfl, rfl⟩) rfl fl_11_147 rfl ?_
                    refine A_iload_n (i := 1) (f := 1) rfl (by decide +kernel) rfl ?_
                    refine A_bipush (a := 60) (by decide +kernel) (by unfold in32; omega) (by decide +kernel) ?_
                    refine A_ic_ne (off := 19) (tgt := 106) (by decide +kernel) (by omega) (fun b100 => ?_) (fun b100 => ?_)
                    · have h101 := h98.1 b100
                      exact A_weak (lsub.keep (lsub.keep lsub.nil)) h101
                    · have h102 := h98.2 (Decidable.not_not.mp b100)
                      refine A_aload_n (i := 0) (f := 0) (by omega) rfl (by decide +kernel) rfl ?_
                      refine A_cVi (q := (RX11, TX11, 59)) (ci := 10) (o := ((59 : Nat) : Int)) (args := []) (st := []) (by decide +kernel) cv_m11_here rfl rfl in_m11_here se_m11_here lk_11_130 rfl (by omega) (Nat.le_of_ble_eq_true rfl) h102 (fun r103 M104 _ h105 => ?_)
                      refine A_bipush (a := 61) (by decide +kernel) (by unfold in32; omega) (by decide +kernel) ?_
                      refine A_ic_ne (off := 10) (tgt := 106) (by decide +kernel) (by omega) (fun b106 => ?_) (fun b106 => ?_)
                      · have h107 := h105.1 b106
                        exact A_weak (lsub.keep (lsub.keep lsub.nil)) h107
                      · have h108 := h105.2 (Decidable.not_not.mp b106)
                        refine A_aload_n (i := 0) (f := 0) (by omega) rfl (by decide +kernel) rfl ?_
                        refine A_sipush (a := 256) (by decide +kernel) (by unfold in32; omega) (by decide +kernel) ?_
                        refine B_putp (M' := (mset M104 59 22 256)) (q := (RX11, TX11, 59)) (ci := 10) (j := 22) (p := 22) (by decide +kernel) rfl (by decide) rfl (Or.inl ⟨rfl, rfl⟩) rfl fl_11_147 rfl ?_
                        exact A_weak (lsub.keep (lsub.keep lsub.nil)) h108
                  · have h99 := h87.2 b97
                    refine A_iload_n (i := 1) (f := 1) rfl (by decide +kernel) rfl ?_
                    refine A_bipush (a := 62) (by decide +kernel) (by unfold in32; omega) (by decide +kernel) ?_
                    refine A_ic_ne (off := 7) (tgt := 75) (by decide +kernel) (by omega) (fun b109 => ?_) (fun b109 => ?_)
                    · have h110 := h99.1 b109
                      refine A_iconst (a := 5) (by decide +kernel) (by unfold in32; omega) ?_
                      refine B_putp (M' := (mset (mset M 59 19 (w32 ((M 59 19) + 1))) 59 21 5)) (q := (RX11, TX11, 59)) (ci := 10) (j := 21) (p := 21) (by decide +kernel) rfl (by decide) rfl (Or.inl ⟨rfl, rfl⟩) rfl fl_11_137 rfl ?_
                      refine A_aload_n (i := 0) (f := 0) (by omega) rfl (by decide +kernel) rfl ?_
                      refine A_iload_n (i := 1) (f := 1) rfl (by decide +kernel) rfl ?_
                      refine B_putp (M' := (mset (mset (mset M 59 19 (w32 ((M 59 19) + 1))) 59 21 5) 59 22 x1)) (q := (RX11, TX11, 59)) (ci := 10) (j := 22) (p := 22) (by decide +kernel) rfl (by decide) rfl (Or.inl ⟨rfl, rfl⟩) rfl fl_11_147 rfl ?_
                      refine A_iload_n (i := 1) (f := 1) rfl (by decide +kernel) rfl ?_
                      refine A_bipush (a := 60) (by decide +kernel) (by unfold in32; omega) (by decide +kernel) ?_
                      refine A_ic_ne (off := 19) (tgt := 106) (by decide +kernel) (by omega) (fun b112 => ?_) (fun b112 => ?_)
                      · have h113 := h110.1 b112
                        exact A_weak (lsub.keep (lsub.keep lsub.nil)) h113
                      · have h114 := h110.2 (Decidable.not_not.mp b112)
                        refine A_aload_n (i := 0) (f := 0) (by omega) rfl (by decide +kernel) rfl ?_
                        refine A_cVi (q := (RX11, TX11, 59)) (ci := 10) (o := ((59 : Nat) : Int)) (args := []) (st := []) (by decide +kernel) cv_m11_here rfl rfl in_m11_here se_m11_here lk_11_130 rfl (by omega) (Nat.le_of_ble_eq_true rfl) h114 (fun r115 M116 _ h117 => ?_)
                        refine A_bipush (a := 61) (by decide +kernel) (by unfold in32; omega) (by decide +kernel) ?_
                        refine A_ic_ne (off := 10) (tgt := 106) (by decide +kernel) (by omega) (fun b118 => ?_) (fun b118 => ?_)
                        · have h119 := h117.1 b118
                          exact A_weak (lsub.keep (lsub.keep lsub.nil)) h119
                        · have h120 := h117.2 (Decidable.not_not.mp b118)
                          refine A_aload_n (i := 0) (f := 0) (by omega) rfl (by decide +kernel) rfl ?_
                          refine A_sipush (a := 256) (by decide +kernel) (by unfold in32; omega) (by decide +kernel) ?_
                          refine B_putp (M' := (mset M116 59 22 256)) (q := (RX11, TX11, 59)) (ci := 10) (j := 22) (p := 22) (by decide +kernel) rfl (by decide) rfl (Or.inl ⟨rfl, rfl⟩) rfl fl_11_147 rfl ?_
                          exact A_weak (lsub.keep (lsub.keep lsub.nil)) h120
                    · have h111 := h99.2 (Decidable.not_not.mp b109)
                      refine A_iconst (a := 3) (by decide +kernel) (by unfold in32; omega) ?_
                      refine A_goto (off := 4) (tgt := 76) (by decide +kernel) (by omega) ?_
                      refine B_putp (M' := (mset (mset M 59 19 (w32 ((M 59 19) + 1))) 59 21 3)) (q := (RX11, TX11, 59)) (ci := 10) (j := 21) (p := 21) (by decide +kernel) rfl (by decide) rfl (Or.inl ⟨rfl, rfl⟩) rfl fl_11_137 rfl ?_
                      refine A_aload_n (i := 0) (f := 0) (by omega) rfl (by decide +kernel) rfl ?_
                      refine A_iload_n (i := 1) (f := 1) rfl (by decide +kernel) rfl ?_
                      refine B_putp (M' := (mset (mset (mset M 59 19 (w32 ((M 59 19) + 1))) 59 21 3) 59 22 x1)) (q := (RX11, TX11, 59)) (ci := 10) (j := 22) (p := 22) (by decide +kernel) rfl (by decide) rfl (Or.inl ⟨rfl, rfl⟩) rfl fl_11_147 rfl ?_
                      refine A_iload_n (i := 1) (f := 1) rfl (by decide +kernel) rfl ?_
                      refine A_bipush (a := 60) (by decide +kernel) (by unfold in32; omega) (by decide +kernel) ?_
                      refine A_ic_ne (off := 19) (tgt := 106) (by decide +kernel) (by omega) (fun b121 => ?_) (fun b121 => ?_)
                      · have h122 := h111.1 b121
                        exact A_weak (lsub.keep (lsub.keep lsub.nil)) h122
                      · have h123 := h111.2 (Decidable.not_not.mp b121)
                        refine A_aload_n (i := 0) (f := 0) (by omega) rfl (by decide +kernel) rfl ?_
                        refine A_cVi (q := (RX11, TX11, 59)) (ci := 10) (o := ((59 : Nat) : Int)) (args := []) (st := []) (by decide +kernel) cv_m11_here rfl rfl in_m11_here se_m11_here lk_11_130 rfl (by omega) (Nat.le_of_ble_eq_true rfl) h123 (fun r124 M125 _ h126 => ?_)
                        refine A_bipush (a := 61) (by decide +kernel) (by unfold in32; omega) (by decide +kernel) ?_
                        refine A_ic_ne (off := 10) (tgt := 106) (by decide +kernel) (by omega) (fun b127 => ?_) (fun b127 => ?_)
                        · have h128 := h126.1 b127
                          exact A_weak (lsub.keep (lsub.keep lsub.nil)) h128
                        · have h129 := h126.2 (Decidable.not_not.mp b127)
                          refine A_aload_n (i := 0) (f := 0) (by omega) rfl (by decide +kernel) rfl ?_
                          refine A_sipush (a := 256) (by decide +kernel) (by unfold in32; omega) (by decide +kernel) ?_
                          refine B_putp (M' := (mset M125 59 22 256)) (q := (RX11, TX11, 59)) (ci := 10) (j := 22) (p := 22) (by decide +kernel) rfl (by decide) rfl (Or.inl ⟨rfl, rfl⟩) rfl fl_11_147 rfl ?_
                          exact A_weak (lsub.keep (lsub.keep lsub.nil)) h129
theorem r_11_sign_106 {x1 : Int} {M : Mem} {P : Mem → Prop} (h : ((x1 ≠ 60 → A m11_sign 2 0 128 [(20, ((59 : Nat) : Int)), (0, x1)] [] M (Kd P)) ∧ (x1 = 60 → (CI m11_here 1 [(20, ((59 : Nat) : Int))] M (fun r4 M5 => ((r4 ≠ 62 → A m11_sign 2 0 128 [(20, ((59 : Nat) : Int)), (0, x1)] [] M5 (Kd P)) ∧ (r4 = 62 → A m11_sign 2 0 128 [(20, ((59 : Nat) : Int)), (0, x1)] [] (mset M5 59 22 257) (Kd P)))))))) : A m11_sign 2 0 106 [(20, ((59 : Nat) : Int)), (0, x1)] [] M (Kd P) := by
  refine A_iload_n (i := 1) (f := 1) rfl (by decide +kernel) rfl ?_
  refine A_bipush (a := 60) (by decide +kernel) (by unfold in32; omega) (by decide +kernel) ?_
  refine A_ic_ne (off := 19) (tgt := 128) (by decide +kernel) (by omega) (fun b1 => ?_) (fun b1 => ?_)
  · have h2 := h.1 b1
    exact A_weak (lsub.keep (lsub.keep lsub.nil)) h2
  · have h3 := h.2 (Decidable.not_not.mp b1)
    refine A_aload_n (i := 0) (f := 0) (by omega) rfl (by decide +kernel) rfl ?_
    refine A_cVi (q := (RX11, TX11, 59)) (ci := 10) (o := ((59 : Nat) : Int)) (args := []) (st := []) (by decide +kernel) cv_m11_here rfl rfl in_m11_here se_m11_here lk_11_130 rfl (by omega) (Nat.le_of_ble_eq_true rfl) h3 (fun r4 M5 _ h6 => ?_)
    refine A_bipush (a := 62) (by decide +kernel) (by unfold in32; omega) (by decide +kernel) ?_
    refine A_ic_ne (off := 10) (tgt := 128) (by decide +kernel) (by omega) (fun b7 => ?_) (fun b7 => ?_)
    · have h8 := h6.1 b7
      exact A_weak (lsub.keep (lsub.keep lsub.nil)) h8
    · have h9 := h6.2 (Decidable.not_not.mp b7)
      refine A_aload_n (i := 0) (f := 0) (by omega) rfl (by decide +kernel) rfl ?_
      refine A_sipush (a := 257) (by decide +kernel) (by unfold in32; omega) (by decide +kernel) ?_
      refine B_putp (M' := (mset M5 59 22 257)) (q := (RX11, TX11, 59)) (ci := 10) (j := 22) (p := 22) (by decide +kernel) rfl (by decide) rfl (Or.inl ⟨rfl, rfl⟩) rfl fl_11_147 rfl ?_
      exact A_weak (lsub.keep (lsub.keep lsub.nil)) h9
theorem r_11_sign_128 {x1 : Int} {M : Mem} {P : Mem → Prop} (h : ((x1 ≠ 62 → A m11_sign 2 0 150 [(20, ((59 : Nat) : Int)), (2, 0)] [] M (Kd P)) ∧ (x1 = 62 → (CI m11_here 1 [(20, ((59 : Nat) : Int))] M (fun r4 M5 => ((r4 ≠ 61 → A m11_sign 2 0 150 [(20, ((59 : Nat) : Int)), (2, 0)] [] M5 (Kd P)) ∧ (r4 = 61 → A m11_sign 2 0 150 [(20, ((59 : Nat) : Int)), (2, 0)] [] (mset M5 59 22 258) (Kd P)))))))) : A m11_sign 2 0 128 [(20, ((59 : Nat) : Int)), (0, x1)] [] M (Kd P) := by
  refine A_iload_n (i := 1) (f := 1) rfl (by decide +kernel) rfl ?_
  refine A_bipush (a := 62) (by decide +kernel) (by unfold in32; omega) (by decide +kernel) ?_
  refine A_ic_ne (off := 19) (tgt := 150) (by decide +kernel) (by omega) (fun b1 => ?_) (fun b1 => ?_)
  · have h2 := h.1 b1
    exact A_weak (lsub.keep (lsub.drop lsub.nil)) h2
  · have h3 := h.2 (Decidable.not_not.mp b1)
    refine A_aload_n (i := 0) (f := 0) (by omega) rfl (by decide +kernel) rfl ?_
    refine A_cVi (q := (RX11, TX11, 59)) (ci := 10) (o := ((59 : Nat) : Int)) (args := []) (st := []) (by decide +kernel) cv_m11_here rfl rfl in_m11_here se_m11_here lk_11_130 rfl (by omega) (Nat.le_of_ble_eq_true rfl) h3 (fun r4 M5 _ h6 => ?_)
    refine A_bipush (a := 61) (by decide +kernel) (by unfold in32; omega) (by decide +kernel) ?_
    refine A_ic_ne (off := 10) (tgt := 150) (by decide +kernel) (by omega) (fun b7 => ?_) (fun b7 => ?_)
    · have h8 := h6.1 b7
      exact A_weak (lsub.keep (lsub.drop lsub.nil)) h8
    · have h9 := h6.2 (Decidable.not_not.mp b7)
      refine A_aload_n (i := 0) (f := 0) (by omega) rfl (by decide +kernel) rfl ?_
      refine A_sipush (a := 258) (by decide +kernel) (by unfold in32; omega) (by decide +kernel) ?_
      refine B_putp (M' := (mset M5 59 22 258)) (q := (RX11, TX11, 59)) (ci := 10) (j := 22) (p := 22) (by decide +kernel) rfl (by decide) rfl (Or.inl ⟨rfl, rfl⟩) rfl fl_11_147 rfl ?_
      exact A_weak (lsub.keep (lsub.drop lsub.nil)) h9
theorem r_11_sign_150  {M : Mem} {P : Mem → Prop} (h : (((M 59 22) < 256 → A m11_sign 2 0 170 [(2, 0), (2, 0)] [] M (Kd P)) ∧ (256 ≤ (M 59 22) → A m11_sign 2 0 170 [(2, 0), (2, 0)] [] (mset M 59 19 (w32 ((M 59 19) + 1))) (Kd P)))) : A m11_sign 2 0 150 [(20, ((59 : Nat) : Int)), (2, 0)] [] M (Kd P) := by
  refine A_aload_n (i := 0) (f := 0) (by omega) rfl (by decide +kernel) rfl ?_
  refine B_getp (v := (M 59 22)) (q := (RX11, TX11, 59)) (ci := 10) (j := 22) (p := 22) (by decide +kernel) rfl (by decide) rfl (Or.inl rfl) fl_11_147 rfl ?_
  refine A_sipush (a := 256) (by decide +kernel) (by unfold in32; omega) (by decide +kernel) ?_
  refine A_ic_lt (off := 13) (tgt := 170) (by decide +kernel) (by omega) (fun b1 => ?_) (fun b1 => ?_)
  · have h2 := h.1 b1
    exact A_weak (lsub.drop (lsub.drop lsub.nil)) h2
  · have h3 := h.2 (Int.not_lt.mp b1)
    refine A_aload_n (i := 0) (f := 0) (by omega) rfl (by decide +kernel) rfl ?_
    refine A_dup (by decide +kernel) (by simp) ?_
    refine B_getp (v := (M 59 19)) (q := (RX11, TX11, 59)) (ci := 10) (j := 19) (p := 19) (by decide +kernel) rfl (by decide) rfl (Or.inl rfl) fl_11_124 rfl ?_
    refine A_iconst (a := 1) (by decide +kernel) (by unfold in32; omega) ?_
    refine A_iadd (by decide +kernel) ?_
    refine B_putp (M' := (mset M 59 19 (w32 ((M 59 19) + 1)))) (q := (RX11, TX11, 59)) (ci := 10) (j := 19) (p := 19) (by decide +kernel) rfl (by decide) rfl (Or.inl ⟨rfl, rfl⟩) rfl fl_11_124 rfl ?_
    exact A_weak (lsub.drop (lsub.drop lsub.nil)) h3
theorem r_11_sign_170  {M : Mem} {P : Mem → Prop} (h : (P M)) : A m11_sign 2 0 170 [(2, 0), (2, 0)] [] M (Kd P) := by
  exact A_ret ⟨by decide +kernel, rfl⟩ ⟨rfl, h⟩
theorem q_11_name  {M : Mem} {P : Mem → Prop} (h : A m11_name 1 0 7 [(20, ((59 : Nat) : Int)), (0, 0)] [] (mset M 59 22 0) (Kd P)) : CD m11_name 1 [(20, ((59 : Nat) : Int))] M P := by
  refine CD_of (by decide +kernel) (Nat.le_of_ble_eq_true rfl) ?_
  show A m11_name 1 0 0 [(20, ((59 : Nat) : Int)), (2, 0)] [] M (Kd P)
  refine A_aload_n (i := 0) (f := 0) (by omega) rfl (by decide +kernel) rfl ?_
  refine A_iconst (a := 0) (by decide +kernel) (by unfold in32; omega) ?_
  refine B_putp (M' := (mset M 59 22 0)) (q := (RX11, TX11, 59)) (ci := 10) (j := 22) (p := 22) (by decide +kernel) rfl (by decide) rfl (Or.inl ⟨rfl, rfl⟩) rfl fl_11_147 rfl ?_
  refine A_iconst (a := 0) (by decide +kernel) (by unfold in32; omega) ?_
  refine A_istore_n (i := 1) (f := 1) rfl (by decide +kernel) (by decide) (fun w h0 hw => by simp at hw; first | (rw [← hw]; decide) | (rw [← hw]; simp)) ?_
  exact A_weak (lsub.keep (lsub.keep lsub.nil)) h
theorem r_11_name_7 {x1 : Int} {M : Mem} {P : Mem → Prop} (h : ((6 ≤ x1 → (P M)) ∧ (x1 < 6 → (((M 59 19) ≤ (w32 ((M 59 20) + x1)) → A m11_name 1 0 7 [(20, ((59 : Nat) : Int)), (0, (w32 (x1 + 1)))] [] (mset M 59 22 (ior (ishl (M 59 22) 5) 0)) (Kd P)) ∧ ((w32 ((M 59 20) + x1)) < (M 59 19) → ((0 ≤ (w32 ((M 59 20) + x1)) ∧ (w32 ((M 59 20) + x1)) < 700) ∧ A m11_name 1 0 7 [(20, ((59 : Nat) : Int)), (0, (w32 (x1 + 1)))] [] (mset M 59 22 (ior (ishl (M 59 22) 5) (w32 ((w32 ((M 60 ((w32 ((M 59 20) + x1))).toNat) - 97)) + 1)))) (Kd P))))))) : A m11_name 1 0 7 [(20, ((59 : Nat) : Int)), (0, x1)] [] M (Kd P) := by
  refine A_iload_n (i := 1) (f := 1) rfl (by decide +kernel) rfl ?_
  refine A_bipush (a := 6) (by decide +kernel) (by unfold in32; omega) (by decide +kernel) ?_
  refine A_ic_ge (off := 53) (tgt := 63) (by decide +kernel) (by omega) (fun b1 => ?_) (fun b1 => ?_)
  · have h2 := h.1 b1
    exact A_ret ⟨by decide +kernel, rfl⟩ ⟨rfl, h2⟩
  · have h3 := h.2 (Int.not_le.mp b1)
    refine A_aload_n (i := 0) (f := 0) (by omega) rfl (by decide +kernel) rfl ?_
    refine A_aload_n (i := 0) (f := 0) (by omega) rfl (by decide +kernel) rfl ?_
    refine B_getp (v := (M 59 22)) (q := (RX11, TX11, 59)) (ci := 10) (j := 22) (p := 22) (by decide +kernel) rfl (by decide) rfl (Or.inl rfl) fl_11_147 rfl ?_
    refine A_iconst (a := 5) (by decide +kernel) (by unfold in32; omega) ?_
    refine A_ishl (by decide +kernel) ?_
    refine A_aload_n (i := 0) (f := 0) (by omega) rfl (by decide +kernel) rfl ?_
    refine B_getp (v := (M 59 20)) (q := (RX11, TX11, 59)) (ci := 10) (j := 20) (p := 20) (by decide +kernel) rfl (by decide) rfl (Or.inl rfl) fl_11_134 rfl ?_
    refine A_iload_n (i := 1) (f := 1) rfl (by decide +kernel) rfl ?_
    refine A_iadd (by decide +kernel) ?_
    refine A_aload_n (i := 0) (f := 0) (by omega) rfl (by decide +kernel) rfl ?_
    refine B_getp (v := (M 59 19)) (q := (RX11, TX11, 59)) (ci := 10) (j := 19) (p := 19) (by decide +kernel) rfl (by decide) rfl (Or.inl rfl) fl_11_124 rfl ?_
    refine A_ic_ge (off := 22) (tgt := 52) (by decide +kernel) (by omega) (fun b4 => ?_) (fun b4 => ?_)
    · have h5 := h3.1 b4
      refine A_iconst (a := 0) (by decide +kernel) (by unfold in32; omega) ?_
      refine A_ior (by decide +kernel) ?_
      refine B_putp (M' := (mset M 59 22 (ior (ishl (M 59 22) 5) 0))) (q := (RX11, TX11, 59)) (ci := 10) (j := 22) (p := 22) (by decide +kernel) rfl (by decide) rfl (Or.inl ⟨rfl, rfl⟩) rfl fl_11_147 rfl ?_
      refine A_iinc (i := 1) (n := 1) (by decide +kernel) (by decide) rfl (fun w h0 hw => by simp at hw; first | (rw [← hw]; decide) | (rw [← hw]; simp)) ?_
      refine A_goto (off := (-53)) (tgt := 7) (by decide +kernel) (by omega) ?_
      exact A_weak (lsub.keep (lsub.keep lsub.nil)) h5
    · have h6 := h3.2 (Int.not_le.mp b4)
      refine A_aload_n (i := 0) (f := 0) (by omega) rfl (by decide +kernel) rfl ?_
      refine B_getr (o' := ((60 : Nat) : Int)) (q := (RX11, TX11, 59)) (ci := 10) (j := 1) (by decide +kernel) rfl (by decide) rfl (by omega) fl_11_7 rfl ?_
      refine A_aload_n (i := 0) (f := 0) (by omega) rfl (by decide +kernel) rfl ?_
      refine B_getp (v := (M 59 20)) (q := (RX11, TX11, 59)) (ci := 10) (j := 20) (p := 20) (by decide +kernel) rfl (by decide) rfl (Or.inl rfl) fl_11_134 rfl ?_
      refine A_iload_n (i := 1) (f := 1) rfl (by decide +kernel) rfl ?_
      refine A_iadd (by decide +kernel) ?_
      refine B_iald (v := (M 60 ((w32 ((M 59 20) + x1))).toNat)) (by decide +kernel) h6.1 rfl ?_
      have h7 := h6.2
      refine A_bipush (a := 97) (by decide +kernel) (by unfold in32; omega) (by decide +kernel) ?_
      refine A_isub (by decide +kernel) ?_
      refine A_iconst (a := 1) (by decide +kernel) (by unfold in32; omega) ?_
      refine A_iadd (by decide +kernel) ?_
      refine A_goto (off := 4) (tgt := 53) (by decide +kernel) (by omega) ?_
      refine A_ior (by decide +kernel) ?_
      refine B_putp (M' := (mset M 59 22 (ior (ishl (M 59 22) 5) (w32 ((w32 ((M 60 ((w32 ((M 59 20) + x1))).toNat) - 97)) + 1))))) (q := (RX11, TX11, 59)) (ci := 10) (j := 22) (p := 22) (by decide +kernel) rfl (by decide) rfl (Or.inl ⟨rfl, rfl⟩) rfl fl_11_147 rfl ?_
      refine A_iinc (i := 1) (n := 1) (by decide +kernel) (by decide) rfl (fun w h0 hw => by simp at hw; first | (rw [← hw]; decide) | (rw [← hw]; simp)) ?_
      refine A_goto (off := (-53)) (tgt := 7) (by decide +kernel) (by omega) ?_
      exact A_weak (lsub.keep (lsub.keep lsub.nil)) h7
theorem q_11_wrong {x1 : Int} {M : Mem} {P : Mem → Prop} (h : (CD m11_wrongAt 1 [(20, ((59 : Nat) : Int)), (0, x1), (0, (M 59 20))] M (fun M2 => (P M2)))) : CD m11_wrong 2 [(20, ((59 : Nat) : Int)), (0, x1)] M P := by
  refine CD_of (by decide +kernel) (Nat.le_of_ble_eq_true rfl) ?_
  show A m11_wrong 2 0 0 [(20, ((59 : Nat) : Int)), (0, x1)] [] M (Kd P)
  refine A_aload_n (i := 0) (f := 0) (by omega) rfl (by decide +kernel) rfl ?_
  refine A_iload_n (i := 1) (f := 1) rfl (by decide +kernel) rfl ?_
  refine A_aload_n (i := 0) (f := 0) (by omega) rfl (by decide +kernel) rfl ?_
  refine B_getp (v := (M 59 20)) (q := (RX11, TX11, 59)) (ci := 10) (j := 20) (p := 20) (by decide +kernel) rfl (by decide) rfl (Or.inl rfl) fl_11_134 rfl ?_
  refine A_cVd (q := (RX11, TX11, 59)) (ci := 10) (o := ((59 : Nat) : Int)) (args := [(0, x1), (0, (M 59 20))]) (st := []) (by decide +kernel) cv_m11_wrongAt rfl rfl in_m11_wrongAt se_m11_wrongAt lk_11_171 rfl (by omega) (Nat.le_of_ble_eq_true rfl) h (fun M2 h3 => ?_)
  exact A_ret ⟨by decide +kernel, rfl⟩ ⟨rfl, h3⟩
theorem q_11_wrongAt {x1 : Int} {x2 : Int} {M : Mem} {P : Mem → Prop} (h : (((M 59 23) = 0 → (P (mset (mset M 59 23 x1) 59 24 x2))) ∧ ((M 59 23) ≠ 0 → (P M)))) : CD m11_wrongAt 1 [(20, ((59 : Nat) : Int)), (0, x1), (0, x2)] M P := by
  refine CD_of (by decide +kernel) (Nat.le_of_ble_eq_true rfl) ?_
  show A m11_wrongAt 1 0 0 [(20, ((59 : Nat) : Int)), (0, x1), (0, x2)] [] M (Kd P)
  refine A_aload_n (i := 0) (f := 0) (by omega) rfl (by decide +kernel) rfl ?_
  refine B_getp (v := (M 59 23)) (q := (RX11, TX11, 59)) (ci := 10) (j := 23) (p := 23) (by decide +kernel) rfl (by decide) rfl (Or.inl rfl) fl_11_175 rfl ?_
  refine A_if_eq (off := 4) (tgt := 8) (by decide +kernel) (by omega) (fun b1 => ?_) (fun b1 => ?_)
  · have h2 := h.1 b1
    refine A_aload_n (i := 0) (f := 0) (by omega) rfl (by decide +kernel) rfl ?_
    refine A_iload_n (i := 1) (f := 1) rfl (by decide +kernel) rfl ?_
    refine B_putp (M' := (mset M 59 23 x1)) (q := (RX11, TX11, 59)) (ci := 10) (j := 23) (p := 23) (by decide +kernel) rfl (by decide) rfl (Or.inl ⟨rfl, rfl⟩) rfl fl_11_175 rfl ?_
    refine A_aload_n (i := 0) (f := 0) (by omega) rfl (by decide +kernel) rfl ?_
    refine A_iload_n (i := 2) (f := 2) rfl (by decide +kernel) rfl ?_
    refine B_putp (M' := (mset (mset M 59 23 x1) 59 24 x2)) (q := (RX11, TX11, 59)) (ci := 10) (j := 24) (p := 24) (by decide +kernel) rfl (by decide) rfl (Or.inl ⟨rfl, rfl⟩) rfl fl_11_178 rfl ?_
    exact A_ret ⟨by decide +kernel, rfl⟩ ⟨rfl, h2⟩
  · have h3 := h.2 b1
    exact A_ret ⟨by decide +kernel, rfl⟩ ⟨rfl, h3⟩
theorem q_11_isWord {x1 : Int} {M : Mem} {P : Int → Mem → Prop} (h : (((M 59 23) ≠ 0 → (P 0 M)) ∧ ((M 59 23) = 0 → (((M 59 21) ≠ 0 → (P 0 M)) ∧ ((M 59 21) = 0 → (((M 59 22) ≠ x1 → (P 0 M)) ∧ ((M 59 22) = x1 → (P 1 M)))))))) : CI m11_isWord 1 [(20, ((59 : Nat) : Int)), (0, x1)] M P := by
  refine CI_of (by decide +kernel) (Nat.le_of_ble_eq_true rfl) ?_
  show A m11_isWord 1 0 0 [(20, ((59 : Nat) : Int)), (0, x1)] [] M (Ki P)
  refine A_aload_n (i := 0) (f := 0) (by omega) rfl (by decide +kernel) rfl ?_
  refine B_getp (v := (M 59 23)) (q := (RX11, TX11, 59)) (ci := 10) (j := 23) (p := 23) (by decide +kernel) rfl (by decide) rfl (Or.inl rfl) fl_11_175 rfl ?_
  refine A_if_ne (off := 22) (tgt := 26) (by decide +kernel) (by omega) (fun b1 => ?_) (fun b1 => ?_)
  · have h2 := h.1 b1
    refine A_iconst (a := 0) (by decide +kernel) (by unfold in32; omega) ?_
    exact A_ret ⟨by decide +kernel, Or.inr ⟨rfl, by decide⟩⟩ ⟨_, rfl, h2⟩
  · have h3 := h.2 (Decidable.not_not.mp b1)
    refine A_aload_n (i := 0) (f := 0) (by omega) rfl (by decide +kernel) rfl ?_
    refine B_getp (v := (M 59 21)) (q := (RX11, TX11, 59)) (ci := 10) (j := 21) (p := 21) (by decide +kernel) rfl (by decide) rfl (Or.inl rfl) fl_11_137 rfl ?_
    refine A_if_ne (off := 15) (tgt := 26) (by decide +kernel) (by omega) (fun b4 => ?_) (fun b4 => ?_)
    · have h5 := h3.1 b4
      refine A_iconst (a := 0) (by decide +kernel) (by unfold in32; omega) ?_
      exact A_ret ⟨by decide +kernel, Or.inr ⟨rfl, by decide⟩⟩ ⟨_, rfl, h5⟩
    · have h6 := h3.2 (Decidable.not_not.mp b4)
      refine A_aload_n (i := 0) (f := 0) (by omega) rfl (by decide +kernel) rfl ?_
      refine B_getp (v := (M 59 22)) (q := (RX11, TX11, 59)) (ci := 10) (j := 22) (p := 22) (by decide +kernel) rfl (by decide) rfl (Or.inl rfl) fl_11_147 rfl ?_
      refine A_iload_n (i := 1) (f := 1) rfl (by decide +kernel) rfl ?_
      refine A_ic_ne (off := 7) (tgt := 26) (by decide +kernel) (by omega) (fun b7 => ?_) (fun b7 => ?_)
      · have h8 := h6.1 b7
        refine A_iconst (a := 0) (by decide +kernel) (by unfold in32; omega) ?_
        exact A_ret ⟨by decide +kernel, Or.inr ⟨rfl, by decide⟩⟩ ⟨_, rfl, h8⟩
      · have h9 := h6.2 (Decidable.not_not.mp b7)
        refine A_iconst (a := 1) (by decide +kernel) (by unfold in32; omega) ?_
        refine A_goto (off := 4) (tgt := 27) (by decide +kernel) (by omega) ?_
        exact A_ret ⟨by decide +kernel, Or.inr ⟨rfl, by decide⟩⟩ ⟨_, rfl, h9⟩
theorem q_11_isSign {x1 : Int} {M : Mem} {P : Int → Mem → Prop} (h : (((M 59 23) ≠ 0 → (P 0 M)) ∧ ((M 59 23) = 0 → (((M 59 21) ≠ 3 → (P 0 M)) ∧ ((M 59 21) = 3 → (((M 59 22) ≠ x1 → (P 0 M)) ∧ ((M 59 22) = x1 → (P 1 M)))))))) : CI m11_isSign 1 [(20, ((59 : Nat) : Int)), (0, x1)] M P := by
  refine CI_of (by decide +kernel) (Nat.le_of_ble_eq_true rfl) ?_
  show A m11_isSign 1 0 0 [(20, ((59 : Nat) : Int)), (0, x1)] [] M (Ki P)
  refine A_aload_n (i := 0) (f := 0) (by omega) rfl (by decide +kernel) rfl ?_
  refine B_getp (v := (M 59 23)) (q := (RX11, TX11, 59)) (ci := 10) (j := 23) (p := 23) (by decide +kernel) rfl (by decide) rfl (Or.inl rfl) fl_11_175 rfl ?_
  refine A_if_ne (off := 23) (tgt := 27) (by decide +kernel) (by omega) (fun b1 => ?_) (fun b1 => ?_)
  · have h2 := h.1 b1
    refine A_iconst (a := 0) (by decide +kernel) (by unfold in32; omega) ?_
    exact A_ret ⟨by decide +kernel, Or.inr ⟨rfl, by decide⟩⟩ ⟨_, rfl, h2⟩
  · have h3 := h.2 (Decidable.not_not.mp b1)
    refine A_aload_n (i := 0) (f := 0) (by omega) rfl (by decide +kernel) rfl ?_
    refine B_getp (v := (M 59 21)) (q := (RX11, TX11, 59)) (ci := 10) (j := 21) (p := 21) (by decide +kernel) rfl (by decide) rfl (Or.inl rfl) fl_11_137 rfl ?_
    refine A_iconst (a := 3) (by decide +kernel) (by unfold in32; omega) ?_
    refine A_ic_ne (off := 15) (tgt := 27) (by decide +kernel) (by omega) (fun b4 => ?_) (fun b4 => ?_)
    · have h5 := h3.1 b4
      refine A_iconst (a := 0) (by decide +kernel) (by unfold in32; omega) ?_
      exact A_ret ⟨by decide +kernel, Or.inr ⟨rfl, by decide⟩⟩ ⟨_, rfl, h5⟩
    · have h6 := h3.2 (Decidable.not_not.mp b4)
      refine A_aload_n (i := 0) (f := 0) (by omega) rfl (by decide +kernel) rfl ?_
      refine B_getp (v := (M 59 22)) (q := (RX11, TX11, 59)) (ci := 10) (j := 22) (p := 22) (by decide +kernel) rfl (by decide) rfl (Or.inl rfl) fl_11_147 rfl ?_
      refine A_iload_n (i := 1) (f := 1) rfl (by decide +kernel) rfl ?_
      refine A_ic_ne (off := 7) (tgt := 27) (by decide +kernel) (by omega) (fun b7 => ?_) (fun b7 => ?_)
      · have h8 := h6.1 b7
        refine A_iconst (a := 0) (by decide +kernel) (by unfold in32; omega) ?_
        exact A_ret ⟨by decide +kernel, Or.inr ⟨rfl, by decide⟩⟩ ⟨_, rfl, h8⟩
      · have h9 := h6.2 (Decidable.not_not.mp b7)
        refine A_iconst (a := 1) (by decide +kernel) (by unfold in32; omega) ?_
        refine A_goto (off := 4) (tgt := 28) (by decide +kernel) (by omega) ?_
        exact A_ret ⟨by decide +kernel, Or.inr ⟨rfl, by decide⟩⟩ ⟨_, rfl, h9⟩
theorem q_11_goOn  {M : Mem} {P : Mem → Prop} (h : (((M 59 23) ≠ 0 → (P M)) ∧ ((M 59 23) = 0 → (CD m11_token 3 [(20, ((59 : Nat) : Int))] M (fun M5 => (P M5)))))) : CD m11_goOn 4 [(20, ((59 : Nat) : Int))] M P := by
  refine CD_of (by decide +kernel) (Nat.le_of_ble_eq_true rfl) ?_
  show A m11_goOn 4 0 0 [(20, ((59 : Nat) : Int))] [] M (Kd P)
  refine A_aload_n (i := 0) (f := 0) (by omega) rfl (by decide +kernel) rfl ?_
  refine B_getp (v := (M 59 23)) (q := (RX11, TX11, 59)) (ci := 10) (j := 23) (p := 23) (by decide +kernel) rfl (by decide) rfl (Or.inl rfl) fl_11_175 rfl ?_
  refine A_if_ne (off := 7) (tgt := 11) (by decide +kernel) (by omega) (fun b1 => ?_) (fun b1 => ?_)
  · have h2 := h.1 b1
    exact A_ret ⟨by decide +kernel, rfl⟩ ⟨rfl, h2⟩
  · have h3 := h.2 (Decidable.not_not.mp b1)
    refine A_aload_n (i := 0) (f := 0) (by omega) rfl (by decide +kernel) rfl ?_
    refine A_cVd (q := (RX11, TX11, 59)) (ci := 10) (o := ((59 : Nat) : Int)) (args := []) (st := []) (by decide +kernel) cv_m11_token rfl rfl in_m11_token se_m11_token lk_11_181 rfl (by omega) (Nat.le_of_ble_eq_true rfl) h3 (fun M5 h6 => ?_)
    exact A_ret ⟨by decide +kernel, rfl⟩ ⟨rfl, h6⟩
theorem q_11_numeral {x1 : Int} {x2 : Int} {M : Mem} {P : Int → Mem → Prop} (h : (((M 59 23) = 0 → (((M 59 21) = 2 → (((M 59 22) < x1 → (CD m11_wrong 2 [(20, ((59 : Nat) : Int)), (0, 2)] M (fun M11 => (((M11 59 23) = 0 → (CD m11_token 3 [(20, ((59 : Nat) : Int))] M11 (fun M17 => (P (M11 59 22) M17)))) ∧ ((M11 59 23) ≠ 0 → (P x1 M11)))))) ∧ (x1 ≤ (M 59 22) → (((M 59 22) ≤ x2 → (((M 59 23) = 0 → (CD m11_token 3 [(20, ((59 : Nat) : Int))] M (fun M26 => (P (M 59 22) M26)))) ∧ ((M 59 23) ≠ 0 → (P x1 M)))) ∧ (x2 < (M 59 22) → (CD m11_wrong 2 [(20, ((59 : Nat) : Int)), (0, 2)] M (fun M29 => (((M29 59 23) = 0 → (CD m11_token 3 [(20, ((59 : Nat) : Int))] M29 (fun M35 => (P (M29 59 22) M35)))) ∧ ((M29 59 23) ≠ 0 → (P x1 M29)))))))))) ∧ ((M 59 21) ≠ 2 → (CD m11_wrong 2 [(20, ((59 : Nat) : Int)), (0, 1)] M (fun M38 => (((M38 59 23) = 0 → (CD m11_token 3 [(20, ((59 : Nat) : Int))] M38 (fun M44 => (P (M38 59 22) M44)))) ∧ ((M38 59 23) ≠ 0 → (P x1 M38)))))))) ∧ ((M 59 23) ≠ 0 → (P x1 M)))) : CI m11_numeral 4 [(20, ((59 : Nat) : Int)), (0, x1), (0, x2)] M P := by
  refine CI_of (by decide +kernel) (Nat.le_of_ble_eq_true rfl) ?_
  show A m11_numeral 4 0 0 [(20, ((59 : Nat) : Int)), (0, x1), (0, x2), (2, 0)] [] M (Ki P)
  refine A_aload_n (i := 0) (f := 0) (by omega) rfl (by decide +kernel) rfl ?_
  refine B_getp (v := (M 59 23)) (q := (RX11, TX11, 59)) (ci := 10) (j := 23) (p := 23) (by decide +kernel) rfl (by decide) rfl (Or.inl rfl) fl_11_175 rfl ?_
  refine A_if_eq (off := 5) (tgt := 9) (by decide +kernel) (by omega) (fun b1 => ?_) (fun b1 => ?_)
  · have h2 := h.1 b1
    refine A_aload_n (i := 0) (f := 0) (by omega) rfl (by decide +kernel) rfl ?_
    refine B_getp (v := (M 59 21)) (q := (RX11, TX11, 59)) (ci := 10) (j := 21) (p := 21) (by decide +kernel) rfl (by decide) rfl (Or.inl rfl) fl_11_137 rfl ?_
    refine A_iconst (a := 2) (by decide +kernel) (by unfold in32; omega) ?_
    refine A_ic_eq (off := 11) (tgt := 25) (by decide +kernel) (by omega) (fun b4 => ?_) (fun b4 => ?_)
    · have h5 := h2.1 b4
      refine A_aload_n (i := 0) (f := 0) (by omega) rfl (by decide +kernel) rfl ?_
      refine B_getp (v := (M 59 22)) (q := (RX11, TX11, 59)) (ci := 10) (j := 22) (p := 22) (by decide +kernel) rfl (by decide) rfl (Or.inl rfl) fl_11_147 rfl ?_
      refine A_iload_n (i := 1) (f := 1) rfl (by decide +kernel) rfl ?_
      refine A_ic_lt (off := 11) (tgt := 41) (by decide +kernel) (by omega) (fun b7 => ?_) (fun b7 => ?_)
      · have h8 := h5.1 b7
        refine A_aload_n (i := 0) (f := 0) (by omega) rfl (by decide +kernel) rfl ?_
        refine A_iconst (a := 2) (by decide +kernel) (by unfold in32; omega) ?_
        refine A_cVd (q := (RX11, TX11, 59)) (ci := 10) (o := ((59 : Nat) : Int)) (args := [(0, 2)]) (st := []) (by decide +kernel) cv_m11_wrong rfl rfl in_m11_wrong se_m11_wrong lk_11_184 rfl (by omega) (Nat.le_of_ble_eq_true rfl) h8 (fun M11 h12 => ?_)
        refine A_aload_n (i := 0) (f := 0) (by omega) rfl (by decide +kernel) rfl ?_
        refine B_getp (v := (M11 59 23)) (q := (RX11, TX11, 59)) (ci := 10) (j := 23) (p := 23) (by decide +kernel) rfl (by decide) rfl (Or.inl rfl) fl_11_175 rfl ?_
        refine A_if_eq (off := 5) (tgt := 55) (by decide +kernel) (by omega) (fun b13 => ?_) (fun b13 => ?_)
        · have h14 := h12.1 b13
          refine A_aload_n (i := 0) (f := 0) (by omega) rfl (by decide +kernel) rfl ?_
          refine B_getp (v := (M11 59 22)) (q := (RX11, TX11, 59)) (ci := 10) (j := 22) (p := 22) (by decide +kernel) rfl (by decide) rfl (Or.inl rfl) fl_11_147 rfl ?_
          refine A_istore_n (i := 3) (f := 3) rfl (by decide +kernel) (by decide) (fun w h0 hw => by simp at hw; first | (rw [← hw]; decide) | (rw [← hw]; simp)) ?_
          refine A_aload_n (i := 0) (f := 0) (by omega) rfl (by decide +kernel) rfl ?_
          refine A_cVd (q := (RX11, TX11, 59)) (ci := 10) (o := ((59 : Nat) : Int)) (args := []) (st := []) (by decide +kernel) cv_m11_token rfl rfl in_m11_token se_m11_token lk_11_181 rfl (by omega) (Nat.le_of_ble_eq_true rfl) h14 (fun M17 h18 => ?_)
          refine A_iload_n (i := 3) (f := 3) rfl (by decide +kernel) rfl ?_
          exact A_ret ⟨by decide +kernel, Or.inl rfl⟩ ⟨_, rfl, h18⟩
        · have h15 := h12.2 b13
          refine A_iload_n (i := 1) (f := 1) rfl (by decide +kernel) rfl ?_
          exact A_ret ⟨by decide +kernel, Or.inl rfl⟩ ⟨_, rfl, h15⟩
      · have h9 := h5.2 (Int.not_lt.mp b7)
        refine A_aload_n (i := 0) (f := 0) (by omega) rfl (by decide +kernel) rfl ?_
        refine B_getp (v := (M 59 22)) (q := (RX11, TX11, 59)) (ci := 10) (j := 22) (p := 22) (by decide +kernel) rfl (by decide) rfl (Or.inl rfl) fl_11_147 rfl ?_
        refine A_iload_n (i := 2) (f := 2) rfl (by decide +kernel) rfl ?_
        refine A_ic_le (off := 8) (tgt := 46) (by decide +kernel) (by omega) (fun b19 => ?_) (fun b19 => ?_)
        · have h20 := h9.1 b19
          refine A_aload_n (i := 0) (f := 0) (by omega) rfl (by decide +kernel) rfl ?_
          refine B_getp (v := (M 59 23)) (q := (RX11, TX11, 59)) (ci := 10) (j := 23) (p := 23) (by decide +kernel) rfl (by decide) rfl (Or.inl rfl) fl_11_175 rfl ?_
          refine A_if_eq (off := 5) (tgt := 55) (by decide +kernel) (by omega) (fun b22 => ?_) (fun b22 => ?_)
          · have h23 := h20.1 b22
            refine A_aload_n (i := 0) (f := 0) (by omega) rfl (by decide +kernel) rfl ?_
            refine B_getp (v := (M 59 22)) (q := (RX11, TX11, 59)) (ci := 10) (j := 22) (p := 22) (by decide +kernel) rfl (by decide) rfl (Or.inl rfl) fl_11_147 rfl ?_
            refine A_istore_n (i := 3) (f := 3) rfl (by decide +kernel) (by decide) (fun w h0 hw => by simp at hw; first | (rw [← hw]; decide) | (rw [← hw]; simp)) ?_
            refine A_aload_n (i := 0) (f := 0) (by omega) rfl (by decide +kernel) rfl ?_
            refine A_cVd (q := (RX11, TX11, 59)) (ci := 10) (o := ((59 : Nat) : Int)) (args := []) (st := []) (by decide +kernel) cv_m11_token rfl rfl in_m11_token se_m11_token lk_11_181 rfl (by omega) (Nat.le_of_ble_eq_true rfl) h23 (fun M26 h27 => ?_)
            refine A_iload_n (i := 3) (f := 3) rfl (by decide +kernel) rfl ?_
            exact A_ret ⟨by decide +kernel, Or.inl rfl⟩ ⟨_, rfl, h27⟩
          · have h24 := h20.2 b22
            refine A_iload_n (i := 1) (f := 1) rfl (by decide +kernel) rfl ?_
            exact A_ret ⟨by decide +kernel, Or.inl rfl⟩ ⟨_, rfl, h24⟩
        · have h21 := h9.2 (Int.not_le.mp b19)
          refine A_aload_n (i := 0) (f := 0) (by omega) rfl (by decide +kernel) rfl ?_
          refine A_iconst (a := 2) (by decide +kernel) (by unfold in32; omega) ?_
          refine A_cVd (q := (RX11, TX11, 59)) (ci := 10) (o := ((59 : Nat) : Int)) (args := [(0, 2)]) (st := []) (by decide +kernel) cv_m11_wrong rfl rfl in_m11_wrong se_m11_wrong lk_11_184 rfl (by omega) (Nat.le_of_ble_eq_true rfl) h21 (fun M29 h30 => ?_)
          refine A_aload_n (i := 0) (f := 0) (by omega) rfl (by decide +kernel) rfl ?_
          refine B_getp (v := (M29 59 23)) (q := (RX11, TX11, 59)) (ci := 10) (j := 23) (p := 23) (by decide +kernel) rfl (by decide) rfl (Or.inl rfl) fl_11_175 rfl ?_
          refine A_if_eq (off := 5) (tgt := 55) (by decide +kernel) (by omega) (fun b31 => ?_) (fun b31 => ?_)
          · have h32 := h30.1 b31
            refine A_aload_n (i := 0) (f := 0) (by omega) rfl (by decide +kernel) rfl ?_
            refine B_getp (v := (M29 59 22)) (q := (RX11, TX11, 59)) (ci := 10) (j := 22) (p := 22) (by decide +kernel) rfl (by decide) rfl (Or.inl rfl) fl_11_147 rfl ?_
            refine A_istore_n (i := 3) (f := 3) rfl (by decide +kernel) (by decide) (fun w h0 hw => by simp at hw; first | (rw [← hw]; decide) | (rw [← hw]; simp)) ?_
            refine A_aload_n (i := 0) (f := 0) (by omega) rfl (by decide +kernel) rfl ?_
            refine A_cVd (q := (RX11, TX11, 59)) (ci := 10) (o := ((59 : Nat) : Int)) (args := []) (st := []) (by decide +kernel) cv_m11_token rfl rfl in_m11_token se_m11_token lk_11_181 rfl (by omega) (Nat.le_of_ble_eq_true rfl) h32 (fun M35 h36 => ?_)
            refine A_iload_n (i := 3) (f := 3) rfl (by decide +kernel) rfl ?_
            exact A_ret ⟨by decide +kernel, Or.inl rfl⟩ ⟨_, rfl, h36⟩
          · have h33 := h30.2 b31
            refine A_iload_n (i := 1) (f := 1) rfl (by decide +kernel) rfl ?_
            exact A_ret ⟨by decide +kernel, Or.inl rfl⟩ ⟨_, rfl, h33⟩
    · have h6 := h2.2 b4
      refine A_aload_n (i := 0) (f := 0) (by omega) rfl (by decide +kernel) rfl ?_
      refine A_iconst (a := 1) (by decide +kernel) (by unfold in32; omega) ?_
      refine A_cVd (q := (RX11, TX11, 59)) (ci := 10) (o := ((59 : Nat) : Int)) (args := [(0, 1)]) (st := []) (by decide +kernel) cv_m11_wrong rfl rfl in_m11_wrong se_m11_wrong lk_11_184 rfl (by omega) (Nat.le_of_ble_eq_true rfl) h6 (fun M38 h39 => ?_)
      refine A_goto (off := 24) (tgt := 46) (by decide +kernel) (by omega) ?_
      refine A_aload_n (i := 0) (f := 0) (by omega) rfl (by decide +kernel) rfl ?_
      refine B_getp (v := (M38 59 23)) (q := (RX11, TX11, 59)) (ci := 10) (j := 23) (p := 23) (by decide +kernel) rfl (by decide) rfl (Or.inl rfl) fl_11_175 rfl ?_
      refine A_if_eq (off := 5) (tgt := 55) (by decide +kernel) (by omega) (fun b40 => ?_) (fun b40 => ?_)
      · have h41 := h39.1 b40
        refine A_aload_n (i := 0) (f := 0) (by omega) rfl (by decide +kernel) rfl ?_
        refine B_getp (v := (M38 59 22)) (q := (RX11, TX11, 59)) (ci := 10) (j := 22) (p := 22) (by decide +kernel) rfl (by decide) rfl (Or.inl rfl) fl_11_147 rfl ?_
        refine A_istore_n (i := 3) (f := 3) rfl (by decide +kernel) (by decide) (fun w h0 hw => by simp at hw; first | (rw [← hw]; decide) | (rw [← hw]; simp)) ?_
        refine A_aload_n (i := 0) (f := 0) (by omega) rfl (by decide +kernel) rfl ?_
        refine A_cVd (q := (RX11, TX11, 59)) (ci := 10) (o := ((59 : Nat) : Int)) (args := []) (st := []) (by decide +kernel) cv_m11_token rfl rfl in_m11_token se_m11_token lk_11_181 rfl (by omega) (Nat.le_of_ble_eq_true rfl) h41 (fun M44 h45 => ?_)
        refine A_iload_n (i := 3) (f := 3) rfl (by decide +kernel) rfl ?_
        exact A_ret ⟨by decide +kernel, Or.inl rfl⟩ ⟨_, rfl, h45⟩
      · have h42 := h39.2 b40
        refine A_iload_n (i := 1) (f := 1) rfl (by decide +kernel) rfl ?_
        exact A_ret ⟨by decide +kernel, Or.inl rfl⟩ ⟨_, rfl, h42⟩
  · have h3 := h.2 b1
    refine A_iload_n (i := 1) (f := 1) rfl (by decide +kernel) rfl ?_
    exact A_ret ⟨by decide +kernel, Or.inl rfl⟩ ⟨_, rfl, h3⟩
theorem q_11_found {p0 : Nat} {x1 : Int} {x2 : Int} {x3 : Int} {M : Mem} {P : Int → Mem → Prop} (h : A m11_found 1 0 3 [(30, (p0 : Int)), (0, x1), (0, x2), (0, x3), (0, 0)] [] M (Ki P)) : CI m11_found 1 [(30, (p0 : Int)), (0, x1), (0, x2), (0, x3)] M P := by
  refine CI_of (by decide +kernel) (Nat.le_of_ble_eq_true rfl) ?_
  show A m11_found 1 0 0 [(30, (p0 : Int)), (0, x1), (0, x2), (0, x3), (2, 0)] [] M (Ki P)
  refine A_iconst (a := 0) (by decide +kernel) (by unfold in32; omega) ?_
  refine A_istore (i := 4) (by decide +kernel) (by decide) (fun w h0 hw => by simp at hw; first | (rw [← hw]; decide) | (rw [← hw]; simp)) ?_
  exact A_weak (lsub.keep (lsub.keep (lsub.keep (lsub.keep (lsub.keep lsub.nil))))) h
theorem r_11_found_3 {p0 : Nat} {x1 : Int} {x2 : Int} {x3 : Int} {x4 : Int} {M : Mem} {P : Int → Mem → Prop} (h : ((x2 ≤ x4 → (P (-1) M)) ∧ (x4 < x2 → ((0 ≤ (w32 (x1 + x4)) ∧ (w32 (x1 + x4)) < ((aln p0 : Nat) : Int)) ∧ (((M p0 ((w32 (x1 + x4))).toNat) ≠ x3 → A m11_found 1 0 3 [(30, (p0 : Int)), (0, x1), (0, x2), (0, x3), (0, (w32 (x4 + 1)))] [] M (Ki P)) ∧ ((M p0 ((w32 (x1 + x4))).toNat) = x3 → (P x4 M))))))) : A m11_found 1 0 3 [(30, (p0 : Int)), (0, x1), (0, x2), (0, x3), (0, x4)] [] M (Ki P) := by
  refine A_iload (i := 4) (by decide +kernel) rfl ?_
  refine A_iload_n (i := 2) (f := 2) rfl (by decide +kernel) rfl ?_
  refine A_ic_ge (off := 22) (tgt := 28) (by decide +kernel) (by omega) (fun b1 => ?_) (fun b1 => ?_)
  · have h2 := h.1 b1
    refine A_iconst (a := (-1)) (by decide +kernel) (by unfold in32; omega) ?_
    exact A_ret ⟨by decide +kernel, Or.inl rfl⟩ ⟨_, rfl, h2⟩
  · have h3 := h.2 (Int.not_le.mp b1)
    refine A_aload_n (i := 0) (f := 0) (by omega) rfl (by decide +kernel) rfl ?_
    refine A_iload_n (i := 1) (f := 1) rfl (by decide +kernel) rfl ?_
    refine A_iload (i := 4) (by decide +kernel) rfl ?_
    refine A_iadd (by decide +kernel) ?_
    refine B_iald (v := (M p0 ((w32 (x1 + x4))).toNat)) (by decide +kernel) h3.1 rfl ?_
    have h4 := h3.2
    refine A_iload_n (i := 3) (f := 3) rfl (by decide +kernel) rfl ?_
    refine A_ic_ne (off := 6) (tgt := 22) (by decide +kernel) (by omega) (fun b5 => ?_) (fun b5 => ?_)
    · have h6 := h4.1 b5
      refine A_iinc (i := 4) (n := 1) (by decide +kernel) (by decide) rfl (fun w h0 hw => by simp at hw; first | (rw [← hw]; decide) | (rw [← hw]; simp)) ?_
      refine A_goto (off := (-22)) (tgt := 3) (by decide +kernel) (by omega) ?_
      exact A_weak (lsub.keep (lsub.keep (lsub.keep (lsub.keep (lsub.keep lsub.nil))))) h6
    · have h7 := h4.2 (Decidable.not_not.mp b5)
      refine A_iload (i := 4) (by decide +kernel) rfl ?_
      exact A_ret ⟨by decide +kernel, Or.inl rfl⟩ ⟨_, rfl, h7⟩
theorem q_11_fresh {p1 : Nat} {x2 : Int} {x3 : Int} {M : Mem} {P : Int → Mem → Prop} (h : (((M 59 23) = 0 → (((M 59 21) = 1 → (CI m11_found 1 [(30, (p1 : Int)), (0, x2), (0, x3), (0, (M 59 22))] M (fun r7 M8 => ((r7 = (-1) → (((M8 59 23) = 0 → (CD m11_token 3 [(20, ((59 : Nat) : Int))] M8 (fun M17 => (P (M8 59 22) M17)))) ∧ ((M8 59 23) ≠ 0 → (P 0 M8)))) ∧ (r7 ≠ (-1) → (CD m11_wrong 2 [(20, ((59 : Nat) : Int)), (0, 3)] M8 (fun M20 => (((M20 59 23) = 0 → (CD m11_token 3 [(20, ((59 : Nat) : Int))] M20 (fun M26 => (P (M20 59 22) M26)))) ∧ ((M20 59 23) ≠ 0 → (P 0 M20)))))))))) ∧ ((M 59 21) ≠ 1 → (CD m11_wrong 2 [(20, ((59 : Nat) : Int)), (0, 1)] M (fun M29 => (((M29 59 23) = 0 → (CD m11_token 3 [(20, ((59 : Nat) : Int))] M29 (fun M35 => (P (M29 59 22) M35)))) ∧ ((M29 59 23) ≠ 0 → (P 0 M29)))))))) ∧ ((M 59 23) ≠ 0 → (P 0 M)))) : CI m11_fresh 4 [(20, ((59 : Nat) : Int)), (30, (p1 : Int)), (0, x2), (0, x3)] M P := by
  refine CI_of (by decide +kernel) (Nat.le_of_ble_eq_true rfl) ?_
  show A m11_fresh 4 0 0 [(20, ((59 : Nat) : Int)), (30, (p1 : Int)), (0, x2), (0, x3), (2, 0)] [] M (Ki P)
  refine A_aload_n (i := 0) (f := 0) (by omega) rfl (by decide +kernel) rfl ?_
  refine B_getp (v := (M 59 23)) (q := (RX11, TX11, 59)) (ci := 10) (j := 23) (p := 23) (by decide +kernel) rfl (by decide) rfl (Or.inl rfl) fl_11_175 rfl ?_
  refine A_if_eq (off := 5) (tgt := 9) (by decide +kernel) (by omega) (fun b1 => ?_) (fun b1 => ?_)
  · have h2 := h.1 b1
    refine A_aload_n (i := 0) (f := 0) (by omega) rfl (by decide +kernel) rfl ?_
    refine B_getp (v := (M 59 21)) (q := (RX11, TX11, 59)) (ci := 10) (j := 21) (p := 21) (by decide +kernel) rfl (by decide) rfl (Or.inl rfl) fl_11_137 rfl ?_
    refine A_iconst (a := 1) (by decide +kernel) (by unfold in32; omega) ?_
    refine A_ic_eq (off := 11) (tgt := 25) (by decide +kernel) (by omega) (fun b4 => ?_) (fun b4 => ?_)
    · have h5 := h2.1 b4
      refine A_aload_n (i := 1) (f := 1) (by omega) rfl (by decide +kernel) rfl ?_
      refine A_iload_n (i := 2) (f := 2) rfl (by decide +kernel) rfl ?_
      refine A_iload_n (i := 3) (f := 3) rfl (by decide +kernel) rfl ?_
      refine A_aload_n (i := 0) (f := 0) (by omega) rfl (by decide +kernel) rfl ?_
      refine B_getp (v := (M 59 22)) (q := (RX11, TX11, 59)) (ci := 10) (j := 22) (p := 22) (by decide +kernel) rfl (by decide) rfl (Or.inl rfl) fl_11_147 rfl ?_
      refine A_cSi (args := [(30, (p1 : Int)), (0, x2), (0, x3), (0, (M 59 22))]) (st := []) (by decide +kernel) cv_m11_found st_m11_found lk_11_187 rfl (by omega) (Nat.le_of_ble_eq_true rfl) h5 (fun r7 M8 _ h9 => ?_)
      refine A_iconst (a := (-1)) (by decide +kernel) (by unfold in32; omega) ?_
      refine A_ic_eq (off := 8) (tgt := 44) (by decide +kernel) (by omega) (fun b10 => ?_) (fun b10 => ?_)
      · have h11 := h9.1 b10
        refine A_aload_n (i := 0) (f := 0) (by omega) rfl (by decide +kernel) rfl ?_
        refine B_getp (v := (M8 59 23)) (q := (RX11, TX11, 59)) (ci := 10) (j := 23) (p := 23) (by decide +kernel) rfl (by decide) rfl (Or.inl rfl) fl_11_175 rfl ?_
        refine A_if_eq (off := 5) (tgt := 53) (by decide +kernel) (by omega) (fun b13 => ?_) (fun b13 => ?_)
        · have h14 := h11.1 b13
          refine A_aload_n (i := 0) (f := 0) (by omega) rfl (by decide +kernel) rfl ?_
          refine B_getp (v := (M8 59 22)) (q := (RX11, TX11, 59)) (ci := 10) (j := 22) (p := 22) (by decide +kernel) rfl (by decide) rfl (Or.inl rfl) fl_11_147 rfl ?_
          refine A_istore (i := 4) (by decide +kernel) (by decide) (fun w h0 hw => by simp at hw; first | (rw [← hw]; decide) | (rw [← hw]; simp)) ?_
          refine A_aload_n (i := 0) (f := 0) (by omega) rfl (by decide +kernel) rfl ?_
          refine A_cVd (q := (RX11, TX11, 59)) (ci := 10) (o := ((59 : Nat) : Int)) (args := []) (st := []) (by decide +kernel) cv_m11_token rfl rfl in_m11_token se_m11_token lk_11_181 rfl (by omega) (Nat.le_of_ble_eq_true rfl) h14 (fun M17 h18 => ?_)
          refine A_iload (i := 4) (by decide +kernel) rfl ?_
          exact A_ret ⟨by decide +kernel, Or.inl rfl⟩ ⟨_, rfl, h18⟩
        · have h15 := h11.2 b13
          refine A_iconst (a := 0) (by decide +kernel) (by unfold in32; omega) ?_
          exact A_ret ⟨by decide +kernel, Or.inl rfl⟩ ⟨_, rfl, h15⟩
      · have h12 := h9.2 b10
        refine A_aload_n (i := 0) (f := 0) (by omega) rfl (by decide +kernel) rfl ?_
        refine A_iconst (a := 3) (by decide +kernel) (by unfold in32; omega) ?_
        refine A_cVd (q := (RX11, TX11, 59)) (ci := 10) (o := ((59 : Nat) : Int)) (args := [(0, 3)]) (st := []) (by decide +kernel) cv_m11_wrong rfl rfl in_m11_wrong se_m11_wrong lk_11_184 rfl (by omega) (Nat.le_of_ble_eq_true rfl) h12 (fun M20 h21 => ?_)
        refine A_aload_n (i := 0) (f := 0) (by omega) rfl (by decide +kernel) rfl ?_
        refine B_getp (v := (M20 59 23)) (q := (RX11, TX11, 59)) (ci := 10) (j := 23) (p := 23) (by decide +kernel) rfl (by decide) rfl (Or.inl rfl) fl_11_175 rfl ?_
        refine A_if_eq (off := 5) (tgt := 53) (by decide +kernel) (by omega) (fun b22 => ?_) (fun b22 => ?_)
        · have h23 := h21.1 b22
          refine A_aload_n (i := 0) (f := 0) (by omega) rfl (by decide +kernel) rfl ?_
          refine B_getp (v := (M20 59 22)) (q := (RX11, TX11, 59)) (ci := 10) (j := 22) (p := 22) (by decide +kernel) rfl (by decide) rfl (Or.inl rfl) fl_11_147 rfl ?_
          refine A_istore (i := 4) (by decide +kernel) (by decide) (fun w h0 hw => by simp at hw; first | (rw [← hw]; decide) | (rw [← hw]; simp)) ?_
          refine A_aload_n (i := 0) (f := 0) (by omega) rfl (by decide +kernel) rfl ?_
          refine A_cVd (q := (RX11, TX11, 59)) (ci := 10) (o := ((59 : Nat) : Int)) (args := []) (st := []) (by decide +kernel) cv_m11_token rfl rfl in_m11_token se_m11_token lk_11_181 rfl (by omega) (Nat.le_of_ble_eq_true rfl) h23 (fun M26 h27 => ?_)
          refine A_iload (i := 4) (by decide +kernel) rfl ?_
          exact A_ret ⟨by decide +kernel, Or.inl rfl⟩ ⟨_, rfl, h27⟩
        · have h24 := h21.2 b22
          refine A_iconst (a := 0) (by decide +kernel) (by unfold in32; omega) ?_
          exact A_ret ⟨by decide +kernel, Or.inl rfl⟩ ⟨_, rfl, h24⟩
    · have h6 := h2.2 b4
      refine A_aload_n (i := 0) (f := 0) (by omega) rfl (by decide +kernel) rfl ?_
      refine A_iconst (a := 1) (by decide +kernel) (by unfold in32; omega) ?_
      refine A_cVd (q := (RX11, TX11, 59)) (ci := 10) (o := ((59 : Nat) : Int)) (args := [(0, 1)]) (st := []) (by decide +kernel) cv_m11_wrong rfl rfl in_m11_wrong se_m11_wrong lk_11_184 rfl (by omega) (Nat.le_of_ble_eq_true rfl) h6 (fun M29 h30 => ?_)
      refine A_goto (off := 22) (tgt := 44) (by decide +kernel) (by omega) ?_
      refine A_aload_n (i := 0) (f := 0) (by omega) rfl (by decide +kernel) rfl ?_
      refine B_getp (v := (M29 59 23)) (q := (RX11, TX11, 59)) (ci := 10) (j := 23) (p := 23) (by decide +kernel) rfl (by decide) rfl (Or.inl rfl) fl_11_175 rfl ?_
      refine A_if_eq (off := 5) (tgt := 53) (by decide +kernel) (by omega) (fun b31 => ?_) (fun b31 => ?_)
      · have h32 := h30.1 b31
        refine A_aload_n (i := 0) (f := 0) (by omega) rfl (by decide +kernel) rfl ?_
        refine B_getp (v := (M29 59 22)) (q := (RX11, TX11, 59)) (ci := 10) (j := 22) (p := 22) (by decide +kernel) rfl (by decide) rfl (Or.inl rfl) fl_11_147 rfl ?_
        refine A_istore (i := 4) (by decide +kernel) (by decide) (fun w h0 hw => by simp at hw; first | (rw [← hw]; decide) | (rw [← hw]; simp)) ?_
        refine A_aload_n (i := 0) (f := 0) (by omega) rfl (by decide +kernel) rfl ?_
        refine A_cVd (q := (RX11, TX11, 59)) (ci := 10) (o := ((59 : Nat) : Int)) (args := []) (st := []) (by decide +kernel) cv_m11_token rfl rfl in_m11_token se_m11_token lk_11_181 rfl (by omega) (Nat.le_of_ble_eq_true rfl) h32 (fun M35 h36 => ?_)
        refine A_iload (i := 4) (by decide +kernel) rfl ?_
        exact A_ret ⟨by decide +kernel, Or.inl rfl⟩ ⟨_, rfl, h36⟩
      · have h33 := h30.2 b31
        refine A_iconst (a := 0) (by decide +kernel) (by unfold in32; omega) ?_
        exact A_ret ⟨by decide +kernel, Or.inl rfl⟩ ⟨_, rfl, h33⟩
  · have h3 := h.2 b1
    refine A_iconst (a := 0) (by decide +kernel) (by unfold in32; omega) ?_
    exact A_ret ⟨by decide +kernel, Or.inl rfl⟩ ⟨_, rfl, h3⟩
theorem q_11_person  {M : Mem} {P : Int → Mem → Prop} (h : (((M 59 23) = 0 → (((M 59 21) = 1 → (CI m11_fresher 1 [(20, ((59 : Nat) : Int)), (0, 0)] M (fun r7 M8 => (CI m11_found 1 [(30, ((62 : Nat) : Int)), (0, 5), (0, r7), (0, (M8 59 22))] M8 (fun r10 M11 => ((r10 ≠ (-1) → (((M11 59 23) = 0 → (CI m11_fresher 1 [(20, ((59 : Nat) : Int)), (0, 0)] M11 (fun r19 M20 => (CI m11_found 1 [(30, ((62 : Nat) : Int)), (0, 5), (0, r19), (0, (M20 59 22))] M20 (fun r22 M23 => (P r22 M23)))))) ∧ ((M11 59 23) ≠ 0 → (P 0 M11)))) ∧ (r10 = (-1) → (CD m11_wrong 2 [(20, ((59 : Nat) : Int)), (0, 4)] M11 (fun M26 => (((M26 59 23) = 0 → (CI m11_fresher 1 [(20, ((59 : Nat) : Int)), (0, 0)] M26 (fun r31 M32 => (CI m11_found 1 [(30, ((62 : Nat) : Int)), (0, 5), (0, r31), (0, (M32 59 22))] M32 (fun r34 M35 => (P r34 M35)))))) ∧ ((M26 59 23) ≠ 0 → (P 0 M26)))))))))))) ∧ ((M 59 21) ≠ 1 → (CD m11_wrong 2 [(20, ((59 : Nat) : Int)), (0, 1)] M (fun M38 => (((M38 59 23) = 0 → (CI m11_fresher 1 [(20, ((59 : Nat) : Int)), (0, 0)] M38 (fun r43 M44 => (CI m11_found 1 [(30, ((62 : Nat) : Int)), (0, 5), (0, r43), (0, (M44 59 22))] M44 (fun r46 M47 => (P r46 M47)))))) ∧ ((M38 59 23) ≠ 0 → (P 0 M38)))))))) ∧ ((M 59 23) ≠ 0 → (P 0 M)))) : CI m11_person 3 [(20, ((59 : Nat) : Int))] M P := by
  refine CI_of (by decide +kernel) (Nat.le_of_ble_eq_true rfl) ?_
  show A m11_person 3 0 0 [(20, ((59 : Nat) : Int))] [] M (Ki P)
  refine A_aload_n (i := 0) (f := 0) (by omega) rfl (by decide +kernel) rfl ?_
  refine B_getp (v := (M 59 23)) (q := (RX11, TX11, 59)) (ci := 10) (j := 23) (p := 23) (by decide +kernel) rfl (by decide) rfl (Or.inl rfl) fl_11_175 rfl ?_
  refine A_if_eq (off := 5) (tgt := 9) (by decide +kernel) (by omega) (fun b1 => ?_) (fun b1 => ?_)
  · have h2 := h.1 b1
    refine A_aload_n (i := 0) (f := 0) (by omega) rfl (by decide +kernel) rfl ?_
    refine B_getp (v := (M 59 21)) (q := (RX11, TX11, 59)) (ci := 10) (j := 21) (p := 21) (by decide +kernel) rfl (by decide) rfl (Or.inl rfl) fl_11_137 rfl ?_
    refine A_iconst (a := 1) (by decide +kernel) (by unfold in32; omega) ?_
    refine A_ic_eq (off := 11) (tgt := 25) (by decide +kernel) (by omega) (fun b4 => ?_) (fun b4 => ?_)
    · have h5 := h2.1 b4
      refine A_aload_n (i := 0) (f := 0) (by omega) rfl (by decide +kernel) rfl ?_
      refine B_getr (o' := ((62 : Nat) : Int)) (q := (RX11, TX11, 59)) (ci := 10) (j := 4) (by decide +kernel) rfl (by decide) rfl (by omega) fl_11_16 rfl ?_
      refine A_iconst (a := 5) (by decide +kernel) (by unfold in32; omega) ?_
      refine A_aload_n (i := 0) (f := 0) (by omega) rfl (by decide +kernel) rfl ?_
      refine A_iconst (a := 0) (by decide +kernel) (by unfold in32; omega) ?_
      refine A_cVi (q := (RX11, TX11, 59)) (ci := 10) (o := ((59 : Nat) : Int)) (args := [(0, 0)]) (st := [(0, 5), (30, ((62 : Nat) : Int))]) (by decide +kernel) cv_m11_fresher rfl rfl in_m11_fresher se_m11_fresher lk_11_191 rfl (by omega) (Nat.le_of_ble_eq_true rfl) h5 (fun r7 M8 _ h9 => ?_)
      refine A_aload_n (i := 0) (f := 0) (by omega) rfl (by decide +kernel) rfl ?_
      refine B_getp (v := (M8 59 22)) (q := (RX11, TX11, 59)) (ci := 10) (j := 22) (p := 22) (by decide +kernel) rfl (by decide) rfl (Or.inl rfl) fl_11_147 rfl ?_
      refine A_cSi (args := [(30, ((62 : Nat) : Int)), (0, 5), (0, r7), (0, (M8 59 22))]) (st := []) (by decide +kernel) cv_m11_found st_m11_found lk_11_187 rfl (by omega) (Nat.le_of_ble_eq_true rfl) h9 (fun r10 M11 _ h12 => ?_)
      refine A_iconst (a := (-1)) (by decide +kernel) (by unfold in32; omega) ?_
      refine A_ic_ne (off := 8) (tgt := 51) (by decide +kernel) (by omega) (fun b13 => ?_) (fun b13 => ?_)
      · have h14 := h12.1 b13
        refine A_aload_n (i := 0) (f := 0) (by omega) rfl (by decide +kernel) rfl ?_
        refine B_getp (v := (M11 59 23)) (q := (RX11, TX11, 59)) (ci := 10) (j := 23) (p := 23) (by decide +kernel) rfl (by decide) rfl (Or.inl rfl) fl_11_175 rfl ?_
        refine A_if_eq (off := 7) (tgt := 62) (by decide +kernel) (by omega) (fun b16 => ?_) (fun b16 => ?_)
        · have h17 := h14.1 b16
          refine A_aload_n (i := 0) (f := 0) (by omega) rfl (by decide +kernel) rfl ?_
          refine B_getr (o' := ((62 : Nat) : Int)) (q := (RX11, TX11, 59)) (ci := 10) (j := 4) (by decide +kernel) rfl (by decide) rfl (by omega) fl_11_16 rfl ?_
          refine A_iconst (a := 5) (by decide +kernel) (by unfold in32; omega) ?_
          refine A_aload_n (i := 0) (f := 0) (by omega) rfl (by decide +kernel) rfl ?_
          refine A_iconst (a := 0) (by decide +kernel) (by unfold in32; omega) ?_
          refine A_cVi (q := (RX11, TX11, 59)) (ci := 10) (o := ((59 : Nat) : Int)) (args := [(0, 0)]) (st := [(0, 5), (30, ((62 : Nat) : Int))]) (by decide +kernel) cv_m11_fresher rfl rfl in_m11_fresher se_m11_fresher lk_11_191 rfl (by omega) (Nat.le_of_ble_eq_true rfl) h17 (fun r19 M20 _ h21 => ?_)
          refine A_aload_n (i := 0) (f := 0) (by omega) rfl (by decide +kernel) rfl ?_
          refine B_getp (v := (M20 59 22)) (q := (RX11, TX11, 59)) (ci := 10) (j := 22) (p := 22) (by decide +kernel) rfl (by decide) rfl (Or.inl rfl) fl_11_147 rfl ?_
          refine A_cSi (args := [(30, ((62 : Nat) : Int)), (0, 5), (0, r19), (0, (M20 59 22))]) (st := []) (by decide +kernel) cv_m11_found st_m11_found lk_11_187 rfl (by omega) (Nat.le_of_ble_eq_true rfl) h21 (fun r22 M23 _ h24 => ?_)
          exact A_ret ⟨by decide +kernel, Or.inl rfl⟩ ⟨_, rfl, h24⟩
        · have h18 := h14.2 b16
          refine A_iconst (a := 0) (by decide +kernel) (by unfold in32; omega) ?_
          refine A_goto (off := 20) (tgt := 79) (by decide +kernel) (by omega) ?_
          exact A_ret ⟨by decide +kernel, Or.inl rfl⟩ ⟨_, rfl, h18⟩
      · have h15 := h12.2 (Decidable.not_not.mp b13)
        refine A_aload_n (i := 0) (f := 0) (by omega) rfl (by decide +kernel) rfl ?_
        refine A_iconst (a := 4) (by decide +kernel) (by unfold in32; omega) ?_
        refine A_cVd (q := (RX11, TX11, 59)) (ci := 10) (o := ((59 : Nat) : Int)) (args := [(0, 4)]) (st := []) (by decide +kernel) cv_m11_wrong rfl rfl in_m11_wrong se_m11_wrong lk_11_184 rfl (by omega) (Nat.le_of_ble_eq_true rfl) h15 (fun M26 h27 => ?_)
        refine A_aload_n (i := 0) (f := 0) (by omega) rfl (by decide +kernel) rfl ?_
        refine B_getp (v := (M26 59 23)) (q := (RX11, TX11, 59)) (ci := 10) (j := 23) (p := 23) (by decide +kernel) rfl (by decide) rfl (Or.inl rfl) fl_11_175 rfl ?_
        refine A_if_eq (off := 7) (tgt := 62) (by decide +kernel) (by omega) (fun b28 => ?_) (fun b28 => ?_)
        · have h29 := h27.1 b28
          refine A_aload_n (i := 0) (f := 0) (by omega) rfl (by decide +kernel) rfl ?_
          refine B_getr (o' := ((62 : Nat) : Int)) (q := (RX11, TX11, 59)) (ci := 10) (j := 4) (by decide +kernel) rfl (by decide) rfl (by omega) fl_11_16 rfl ?_
          refine A_iconst (a := 5) (by decide +kernel) (by unfold in32; omega) ?_
          refine A_aload_n (i := 0) (f := 0) (by omega) rfl (by decide +kernel) rfl ?_
          refine A_iconst (a := 0) (by decide +kernel) (by unfold in32; omega) ?_
          refine A_cVi (q := (RX11, TX11, 59)) (ci := 10) (o := ((59 : Nat) : Int)) (args := [(0, 0)]) (st := [(0, 5), (30, ((62 : Nat) : Int))]) (by decide +kernel) cv_m11_fresher rfl rfl in_m11_fresher se_m11_fresher lk_11_191 rfl (by omega) (Nat.le_of_ble_eq_true rfl) h29 (fun r31 M32 _ h33 => ?_)
          refine A_aload_n (i := 0) (f := 0) (by omega) rfl (by decide +kernel) rfl ?_
          refine B_getp (v := (M32 59 22)) (q := (RX11, TX11, 59)) (ci := 10) (j := 22) (p := 22) (by decide +kernel) rfl (by decide) rfl (Or.inl rfl) fl_11_147 rfl ?_
          refine A_cSi (args := [(30, ((62 : Nat) : Int)), (0, 5), (0, r31), (0, (M32 59 22))]) (st := []) (by decide +kernel) cv_m11_found st_m11_found lk_11_187 rfl (by omega) (Nat.le_of_ble_eq_true rfl) h33 (fun r34 M35 _ h36 => ?_)
          exact A_ret ⟨by decide +kernel, Or.inl rfl⟩ ⟨_, rfl, h36⟩
        · have h30 := h27.2 b28
          refine A_iconst (a := 0) (by decide +kernel) (by unfold in32; omega) ?_
          refine A_goto (off := 20) (tgt := 79) (by decide +kernel) (by omega) ?_
          exact A_ret ⟨by decide +kernel, Or.inl rfl⟩ ⟨_, rfl, h30⟩
    · have h6 := h2.2 b4
      refine A_aload_n (i := 0) (f := 0) (by omega) rfl (by decide +kernel) rfl ?_
      refine A_iconst (a := 1) (by decide +kernel) (by unfold in32; omega) ?_
      refine A_cVd (q := (RX11, TX11, 59)) (ci := 10) (o := ((59 : Nat) : Int)) (args := [(0, 1)]) (st := []) (by decide +kernel) cv_m11_wrong rfl rfl in_m11_wrong se_m11_wrong lk_11_184 rfl (by omega) (Nat.le_of_ble_eq_true rfl) h6 (fun M38 h39 => ?_)
      refine A_goto (off := 29) (tgt := 51) (by decide +kernel) (by omega) ?_
      refine A_aload_n (i := 0) (f := 0) (by omega) rfl (by decide +kernel) rfl ?_
      refine B_getp (v := (M38 59 23)) (q := (RX11, TX11, 59)) (ci := 10) (j := 23) (p := 23) (by decide +kernel) rfl (by decide) rfl (Or.inl rfl) fl_11_175 rfl ?_
      refine A_if_eq (off := 7) (tgt := 62) (by decide +kernel) (by omega) (fun b40 => ?_) (fun b40 => ?_)
      · have h41 := h39.1 b40
        refine A_aload_n (i := 0) (f := 0) (by omega) rfl (by decide +kernel) rfl ?_
        refine B_getr (o' := ((62 : Nat) : Int)) (q := (RX11, TX11, 59)) (ci := 10) (j := 4) (by decide +kernel) rfl (by decide) rfl (by omega) fl_11_16 rfl ?_
        refine A_iconst (a := 5) (by decide +kernel) (by unfold in32; omega) ?_
        refine A_aload_n (i := 0) (f := 0) (by omega) rfl (by decide +kernel) rfl ?_
        refine A_iconst (a := 0) (by decide +kernel) (by unfold in32; omega) ?_
        refine A_cVi (q := (RX11, TX11, 59)) (ci := 10) (o := ((59 : Nat) : Int)) (args := [(0, 0)]) (st := [(0, 5), (30, ((62 : Nat) : Int))]) (by decide +kernel) cv_m11_fresher rfl rfl in_m11_fresher se_m11_fresher lk_11_191 rfl (by omega) (Nat.le_of_ble_eq_true rfl) h41 (fun r43 M44 _ h45 => ?_)
        refine A_aload_n (i := 0) (f := 0) (by omega) rfl (by decide +kernel) rfl ?_
        refine B_getp (v := (M44 59 22)) (q := (RX11, TX11, 59)) (ci := 10) (j := 22) (p := 22) (by decide +kernel) rfl (by decide) rfl (Or.inl rfl) fl_11_147 rfl ?_
        refine A_cSi (args := [(30, ((62 : Nat) : Int)), (0, 5), (0, r43), (0, (M44 59 22))]) (st := []) (by decide +kernel) cv_m11_found st_m11_found lk_11_187 rfl (by omega) (Nat.le_of_ble_eq_true rfl) h45 (fun r46 M47 _ h48 => ?_)
        exact A_ret ⟨by decide +kernel, Or.inl rfl⟩ ⟨_, rfl, h48⟩
      · have h42 := h39.2 b40
        refine A_iconst (a := 0) (by decide +kernel) (by unfold in32; omega) ?_
        refine A_goto (off := 20) (tgt := 79) (by decide +kernel) (by omega) ?_
        exact A_ret ⟨by decide +kernel, Or.inl rfl⟩ ⟨_, rfl, h42⟩
  · have h3 := h.2 b1
    refine A_iconst (a := 0) (by decide +kernel) (by unfold in32; omega) ?_
    exact A_ret ⟨by decide +kernel, Or.inl rfl⟩ ⟨_, rfl, h3⟩
theorem q_11_fresher {x1 : Int} {M : Mem} {P : Int → Mem → Prop} (h : ((0 ≤ (w32 (5 + x1)) ∧ (w32 (5 + x1)) < 10) ∧ (P (M 61 ((w32 (5 + x1))).toNat) M))) : CI m11_fresher 1 [(20, ((59 : Nat) : Int)), (0, x1)] M P := by
  refine CI_of (by decide +kernel) (Nat.le_of_ble_eq_true rfl) ?_
  show A m11_fresher 1 0 0 [(20, ((59 : Nat) : Int)), (0, x1)] [] M (Ki P)
  refine A_aload_n (i := 0) (f := 0) (by omega) rfl (by decide +kernel) rfl ?_
  refine B_getr (o' := ((61 : Nat) : Int)) (q := (RX11, TX11, 59)) (ci := 10) (j := 3) (by decide +kernel) rfl (by decide) rfl (by omega) fl_11_13 rfl ?_
  refine A_iconst (a := 5) (by decide +kernel) (by unfold in32; omega) ?_
  refine A_iload_n (i := 1) (f := 1) rfl (by decide +kernel) rfl ?_
  refine A_iadd (by decide +kernel) ?_
  refine B_iald (v := (M 61 ((w32 (5 + x1))).toNat)) (by decide +kernel) h.1 rfl ?_
  have h1 := h.2
  exact A_ret ⟨by decide +kernel, Or.inl rfl⟩ ⟨_, rfl, h1⟩
theorem q_11_oneMore {x1 : Int} {M : Mem} {P : Mem → Prop} (h : ((0 ≤ (w32 (5 + x1)) ∧ (w32 (5 + x1)) < 10) ∧ ((0 ≤ (w32 (5 + x1)) ∧ (w32 (5 + x1)) < 10) ∧ (P (mset M 61 ((w32 (5 + x1))).toNat (w32 ((M 61 ((w32 (5 + x1))).toNat) + 1))))))) : CD m11_oneMore 1 [(20, ((59 : Nat) : Int)), (0, x1)] M P := by
  refine CD_of (by decide +kernel) (Nat.le_of_ble_eq_true rfl) ?_
  show A m11_oneMore 1 0 0 [(20, ((59 : Nat) : Int)), (0, x1)] [] M (Kd P)
  refine A_aload_n (i := 0) (f := 0) (by omega) rfl (by decide +kernel) rfl ?_
  refine B_getr (o' := ((61 : Nat) : Int)) (q := (RX11, TX11, 59)) (ci := 10) (j := 3) (by decide +kernel) rfl (by decide) rfl (by omega) fl_11_13 rfl ?_
  refine A_iconst (a := 5) (by decide +kernel) (by unfold in32; omega) ?_
  refine A_iload_n (i := 1) (f := 1) rfl (by decide +kernel) rfl ?_
  refine A_iadd (by decide +kernel) ?_
  refine A_dup2 (by decide +kernel) (by simp) (by simp) ?_
  refine B_iald (v := (M 61 ((w32 (5 + x1))).toNat)) (by decide +kernel) h.1 rfl ?_
  have h1 := h.2
  refine A_iconst (a := 1) (by decide +kernel) (by unfold in32; omega) ?_
  refine A_iadd (by decide +kernel) ?_
  refine B_iast (M' := (mset M 61 ((w32 (5 + x1))).toNat (w32 ((M 61 ((w32 (5 + x1))).toNat) + 1)))) (by decide +kernel) h1.1 rfl ?_
  have h2 := h1.2
  exact A_ret ⟨by decide +kernel, rfl⟩ ⟨rfl, h2⟩
theorem q_11_factLine {x1 : Int} {M : Mem} {P : Mem → Prop} (h : (CI m11_person 3 [(20, ((59 : Nat) : Int))] M (fun r1 M2 => (CD m11_goOn 4 [(20, ((59 : Nat) : Int))] M2 (fun M5 => (CI m11_person 3 [(20, ((59 : Nat) : Int))] M5 (fun r7 M8 => (((M8 59 23) ≠ 0 → A m11_factLine 5 0 37 [(20, ((59 : Nat) : Int)), (0, x1), (0, r1), (0, r7), (0, (M8 59 20)), (2, 0)] [] M8 (Kd P)) ∧ ((M8 59 23) = 0 → ((r1 ≠ r7 → A m11_factLine 5 0 37 [(20, ((59 : Nat) : Int)), (0, x1), (0, r1), (0, r7), (0, (M8 59 20)), (2, 0)] [] M8 (Kd P)) ∧ (r1 = r7 → (CD m11_wrong 2 [(20, ((59 : Nat) : Int)), (0, 5)] M8 (fun M17 => A m11_factLine 5 0 37 [(20, ((59 : Nat) : Int)), (0, x1), (0, r1), (0, r7), (0, (M8 59 20)), (2, 0)] [] M17 (Kd P)))))))))))))) : CD m11_factLine 5 [(20, ((59 : Nat) : Int)), (0, x1)] M P := by
  refine CD_of (by decide +kernel) (Nat.le_of_ble_eq_true rfl) ?_
  show A m11_factLine 5 0 0 [(20, ((59 : Nat) : Int)), (0, x1), (2, 0), (2, 0), (2, 0), (2, 0)] [] M (Kd P)
  refine A_aload_n (i := 0) (f := 0) (by omega) rfl (by decide +kernel) rfl ?_
  refine A_cVi (q := (RX11, TX11, 59)) (ci := 10) (o := ((59 : Nat) : Int)) (args := []) (st := []) (by decide +kernel) cv_m11_person rfl rfl in_m11_person se_m11_person lk_11_221 rfl (by omega) (Nat.le_of_ble_eq_true rfl) h (fun r1 M2 _ h3 => ?_)
  refine A_istore_n (i := 2) (f := 2) rfl (by decide +kernel) (by decide) (fun w h0 hw => by simp at hw; first | (rw [← hw]; decide) | (rw [← hw]; simp)) ?_
  refine A_aload_n (i := 0) (f := 0) (by omega) rfl (by decide +kernel) rfl ?_
  refine A_cVd (q := (RX11, TX11, 59)) (ci := 10) (o := ((59 : Nat) : Int)) (args := []) (st := []) (by decide +kernel) cv_m11_goOn rfl rfl in_m11_goOn se_m11_goOn lk_11_224 rfl (by omega) (Nat.le_of_ble_eq_true rfl) h3 (fun M5 h6 => ?_)
  refine A_aload_n (i := 0) (f := 0) (by omega) rfl (by decide +kernel) rfl ?_
  refine A_cVi (q := (RX11, TX11, 59)) (ci := 10) (o := ((59 : Nat) : Int)) (args := []) (st := []) (by decide +kernel) cv_m11_person rfl rfl in_m11_person se_m11_person lk_11_221 rfl (by omega) (Nat.le_of_ble_eq_true rfl) h6 (fun r7 M8 _ h9 => ?_)
  refine A_istore_n (i := 3) (f := 3) rfl (by decide +kernel) (by decide) (fun w h0 hw => by simp at hw; first | (rw [← hw]; decide) | (rw [← hw]; simp)) ?_
  refine A_aload_n (i := 0) (f := 0) (by omega) rfl (by decide +kernel) rfl ?_
  refine B_getp (v := (M8 59 20)) (q := (RX11, TX11, 59)) (ci := 10) (j := 20) (p := 20) (by decide +kernel) rfl (by decide) rfl (Or.inl rfl) fl_11_134 rfl ?_
  refine A_istore (i := 4) (by decide +kernel) (by decide) (fun w h0 hw => by simp at hw; first | (rw [← hw]; decide) | (rw [← hw]; simp)) ?_
  refine A_aload_n (i := 0) (f := 0) (by omega) rfl (by decide +kernel) rfl ?_
  refine B_getp (v := (M8 59 23)) (q := (RX11, TX11, 59)) (ci := 10) (j := 23) (p := 23) (by decide +kernel) rfl (by decide) rfl (Or.inl rfl) fl_11_175 rfl ?_
  refine A_if_ne (off := 13) (tgt := 37) (by decide +kernel) (by omega) (fun b10 => ?_) (fun b10 => ?_)
  · have h11 := h9.1 b10
    exact A_weak (lsub.keep (lsub.keep (lsub.keep (lsub.keep (lsub.keep (lsub.drop lsub.nil)))))) h11
  · have h12 := h9.2 (Decidable.not_not.mp b10)
    refine A_iload_n (i := 2) (f := 2) rfl (by decide +kernel) rfl ?_
    refine A_iload_n (i := 3) (f := 3) rfl (by decide +kernel) rfl ?_
    refine A_ic_ne (off := 8) (tgt := 37) (by decide +kernel) (by omega) (fun b13 => ?_) (fun b13 => ?_)
    · have h14 := h12.1 b13
      exact A_weak (lsub.keep (lsub.keep (lsub.keep (lsub.keep (lsub.keep (lsub.drop lsub.nil)))))) h14
    · have h15 := h12.2 (Decidable.not_not.mp b13)
      refine A_aload_n (i := 0) (f := 0) (by omega) rfl (by decide +kernel) rfl ?_
      refine A_iconst (a := 5) (by decide +kernel) (by unfold in32; omega) ?_
      refine A_cVd (q := (RX11, TX11, 59)) (ci := 10) (o := ((59 : Nat) : Int)) (args := [(0, 5)]) (st := []) (by decide +kernel) cv_m11_wrong rfl rfl in_m11_wrong se_m11_wrong lk_11_184 rfl (by omega) (Nat.le_of_ble_eq_true rfl) h15 (fun M17 h18 => ?_)
      exact A_weak (lsub.keep (lsub.keep (lsub.keep (lsub.keep (lsub.keep (lsub.drop lsub.nil)))))) h18
theorem r_11_factLine_37 {x1 : Int} {x2 : Int} {x3 : Int} {x4 : Int} {M : Mem} {P : Mem → Prop} (h : (CD m11_goOn 4 [(20, ((59 : Nat) : Int))] M (fun M2 => ((x1 ≠ 0 → A m11_factLine 5 0 69 [(20, ((59 : Nat) : Int)), (0, x1), (0, x2), (0, x3), (0, x4), (0, (-1))] [] M2 (Kd P)) ∧ (x1 = 0 → (CI m11_isWord 1 [(20, ((59 : Nat) : Int)), (0, 6)] M2 (fun r7 M8 => ((r7 = 0 → A m11_factLine 5 0 69 [(20, ((59 : Nat) : Int)), (0, x1), (0, x2), (0, x3), (0, x4), (0, (-1))] [] M8 (Kd P)) ∧ (r7 ≠ 0 → (CD m11_token 3 [(20, ((59 : Nat) : Int))] M8 (fun M14 => (CI m11_numeral 4 [(20, ((59 : Nat) : Int)), (0, 0), (0, 3)] M14 (fun r16 M17 => A m11_factLine 5 0 69 [(20, ((59 : Nat) : Int)), (0, x1), (0, x2), (0, x3), (0, x4), (0, r16)] [] M17 (Kd P)))))))))))))) : A m11_factLine 5 0 37 [(20, ((59 : Nat) : Int)), (0, x1), (0, x2), (0, x3), (0, x4), (2, 0)] [] M (Kd P) := by
  refine A_aload_n (i := 0) (f := 0) (by omega) rfl (by decide +kernel) rfl ?_
  refine A_cVd (q := (RX11, TX11, 59)) (ci := 10) (o := ((59 : Nat) : Int)) (args := []) (st := []) (by decide +kernel) cv_m11_goOn rfl rfl in_m11_goOn se_m11_goOn lk_11_224 rfl (by omega) (Nat.le_of_ble_eq_true rfl) h (fun M2 h3 => ?_)
  refine A_iconst (a := (-1)) (by decide +kernel) (by unfold in32; omega) ?_
  refine A_istore (i := 5) (by decide +kernel) (by decide) (fun w h0 hw => by simp at hw; first | (rw [← hw]; decide) | (rw [← hw]; simp)) ?_
  refine A_iload_n (i := 1) (f := 1) rfl (by decide +kernel) rfl ?_
  refine A_if_ne (off := 24) (tgt := 69) (by decide +kernel) (by omega) (fun b4 => ?_) (fun b4 => ?_)
  · have h5 := h3.1 b4
    exact A_weak (lsub.keep (lsub.keep (lsub.keep (lsub.keep (lsub.keep (lsub.keep lsub.nil)))))) h5
  · have h6 := h3.2 (Decidable.not_not.mp b4)
    refine A_aload_n (i := 0) (f := 0) (by omega) rfl (by decide +kernel) rfl ?_
    refine A_bipush (a := 6) (by decide +kernel) (by unfold in32; omega) (by decide +kernel) ?_
    refine A_cVi (q := (RX11, TX11, 59)) (ci := 10) (o := ((59 : Nat) : Int)) (args := [(0, 6)]) (st := []) (by decide +kernel) cv_m11_isWord rfl rfl in_m11_isWord se_m11_isWord lk_11_227 rfl (by omega) (Nat.le_of_ble_eq_true rfl) h6 (fun r7 M8 _ h9 => ?_)
    refine A_if_eq (off := 15) (tgt := 69) (by decide +kernel) (by omega) (fun b10 => ?_) (fun b10 => ?_)
    · have h11 := h9.1 b10
      exact A_weak (lsub.keep (lsub.keep (lsub.keep (lsub.keep (lsub.keep (lsub.keep lsub.nil)))))) h11
    · have h12 := h9.2 b10
      refine A_aload_n (i := 0) (f := 0) (by omega) rfl (by decide +kernel) rfl ?_
      refine A_cVd (q := (RX11, TX11, 59)) (ci := 10) (o := ((59 : Nat) : Int)) (args := []) (st := []) (by decide +kernel) cv_m11_token rfl rfl in_m11_token se_m11_token lk_11_181 rfl (by omega) (Nat.le_of_ble_eq_true rfl) h12 (fun M14 h15 => ?_)
      refine A_aload_n (i := 0) (f := 0) (by omega) rfl (by decide +kernel) rfl ?_
      refine A_iconst (a := 0) (by decide +kernel) (by unfold in32; omega) ?_
      refine A_iconst (a := 3) (by decide +kernel) (by unfold in32; omega) ?_
      refine A_cVi (q := (RX11, TX11, 59)) (ci := 10) (o := ((59 : Nat) : Int)) (args := [(0, 0), (0, 3)]) (st := []) (by decide +kernel) cv_m11_numeral rfl rfl in_m11_numeral se_m11_numeral lk_11_202 rfl (by omega) (Nat.le_of_ble_eq_true rfl) h15 (fun r16 M17 _ h18 => ?_)
      refine A_istore (i := 5) (by decide +kernel) (by decide) (fun w h0 hw => by simp at hw; first | (rw [← hw]; decide) | (rw [← hw]; simp)) ?_
      exact A_weak (lsub.keep (lsub.keep (lsub.keep (lsub.keep (lsub.keep (lsub.keep lsub.nil)))))) h18
theorem r_11_factLine_69 {x1 : Int} {x2 : Int} {x3 : Int} {x4 : Int} {x5 : Int} {M : Mem} {P : Mem → Prop} (h : (((M 59 23) = 0 → (CI m11_fresher 1 [(20, ((59 : Nat) : Int)), (0, 1)] M (fun r4 M5 => (CI m11_hasFact 1 [(20, ((59 : Nat) : Int)), (0, 24), (0, r4), (0, x2), (0, x3), (0, x1), (0, x5)] M5 (fun r7 M8 => ((r7 = 0 → A m11_factLine 5 0 103 [(20, ((59 : Nat) : Int)), (0, x1), (0, x2), (0, x3), (0, x4), (0, x5)] [] M8 (Kd P)) ∧ (r7 ≠ 0 → (CD m11_wrongAt 1 [(20, ((59 : Nat) : Int)), (0, 3), (0, x4)] M8 (fun M14 => A m11_factLine 5 0 103 [(20, ((59 : Nat) : Int)), (0, x1), (0, x2), (0, x3), (0, x4), (0, x5)] [] M14 (Kd P)))))))))) ∧ ((M 59 23) ≠ 0 → (P M)))) : A m11_factLine 5 0 69 [(20, ((59 : Nat) : Int)), (0, x1), (0, x2), (0, x3), (0, x4), (0, x5)] [] M (Kd P) := by
  refine A_aload_n (i := 0) (f := 0) (by omega) rfl (by decide +kernel) rfl ?_
  refine B_getp (v := (M 59 23)) (q := (RX11, TX11, 59)) (ci := 10) (j := 23) (p := 23) (by decide +kernel) rfl (by decide) rfl (Or.inl rfl) fl_11_175 rfl ?_
  refine A_if_eq (off := 4) (tgt := 77) (by decide +kernel) (by omega) (fun b1 => ?_) (fun b1 => ?_)
  · have h2 := h.1 b1
    refine A_aload_n (i := 0) (f := 0) (by omega) rfl (by decide +kernel) rfl ?_
    refine A_bipush (a := 24) (by decide +kernel) (by unfold in32; omega) (by decide +kernel) ?_
    refine A_aload_n (i := 0) (f := 0) (by omega) rfl (by decide +kernel) rfl ?_
    refine A_iconst (a := 1) (by decide +kernel) (by unfold in32; omega) ?_
    refine A_cVi (q := (RX11, TX11, 59)) (ci := 10) (o := ((59 : Nat) : Int)) (args := [(0, 1)]) (st := [(0, 24), (20, ((59 : Nat) : Int))]) (by decide +kernel) cv_m11_fresher rfl rfl in_m11_fresher se_m11_fresher lk_11_191 rfl (by omega) (Nat.le_of_ble_eq_true rfl) h2 (fun r4 M5 _ h6 => ?_)
    refine A_iload_n (i := 2) (f := 2) rfl (by decide +kernel) rfl ?_
    refine A_iload_n (i := 3) (f := 3) rfl (by decide +kernel) rfl ?_
    refine A_iload_n (i := 1) (f := 1) rfl (by decide +kernel) rfl ?_
    refine A_iload (i := 5) (by decide +kernel) rfl ?_
    refine A_cVi (q := (RX11, TX11, 59)) (ci := 10) (o := ((59 : Nat) : Int)) (args := [(0, 24), (0, r4), (0, x2), (0, x3), (0, x1), (0, x5)]) (st := []) (by decide +kernel) cv_m11_hasFact rfl rfl in_m11_hasFact se_m11_hasFact lk_11_230 rfl (by omega) (Nat.le_of_ble_eq_true rfl) h6 (fun r7 M8 _ h9 => ?_)
    refine A_if_eq (off := 10) (tgt := 103) (by decide +kernel) (by omega) (fun b10 => ?_) (fun b10 => ?_)
    · have h11 := h9.1 b10
      exact A_weak (lsub.keep (lsub.keep (lsub.keep (lsub.keep (lsub.keep (lsub.keep lsub.nil)))))) h11
    · have h12 := h9.2 b10
      refine A_aload_n (i := 0) (f := 0) (by omega) rfl (by decide +kernel) rfl ?_
      refine A_iconst (a := 3) (by decide +kernel) (by unfold in32; omega) ?_
      refine A_iload (i := 4) (by decide +kernel) rfl ?_
      refine A_cVd (q := (RX11, TX11, 59)) (ci := 10) (o := ((59 : Nat) : Int)) (args := [(0, 3), (0, x4)]) (st := []) (by decide +kernel) cv_m11_wrongAt rfl rfl in_m11_wrongAt se_m11_wrongAt lk_11_171 rfl (by omega) (Nat.le_of_ble_eq_true rfl) h12 (fun M14 h15 => ?_)
      exact A_weak (lsub.keep (lsub.keep (lsub.keep (lsub.keep (lsub.keep (lsub.keep lsub.nil)))))) h15
  · have h3 := h.2 b1
    exact A_ret ⟨by decide +kernel, rfl⟩ ⟨rfl, h3⟩
theorem r_11_factLine_103 {x1 : Int} {x2 : Int} {x3 : Int} {x4 : Int} {x5 : Int} {M : Mem} {P : Mem → Prop} (h : (CI m11_fresher 1 [(20, ((59 : Nat) : Int)), (0, 1)] M (fun r1 M2 => (CD m11_lays 1 [(20, ((59 : Nat) : Int)), (0, (w32 (24 + r1))), (0, x2), (0, x3), (0, x1), (0, x5)] M2 (fun M5 => (CI m11_fresher 1 [(20, ((59 : Nat) : Int)), (0, 1)] M5 (fun r7 M8 => (CI m11_fresher 1 [(20, ((59 : Nat) : Int)), (0, 0)] M8 (fun r10 M11 => (CI m11_isRound 3 [(20, ((59 : Nat) : Int)), (0, 24), (0, (w32 (r7 + 1))), (0, r10)] M11 (fun r13 M14 => ((r13 = 0 → A m11_factLine 5 0 148 [(20, ((59 : Nat) : Int)), (2, 0), (2, 0), (2, 0), (2, 0), (2, 0)] [] M14 (Kd P)) ∧ (r13 ≠ 0 → (CD m11_wrongAt 1 [(20, ((59 : Nat) : Int)), (0, 5), (0, x4)] M14 (fun M20 => A m11_factLine 5 0 148 [(20, ((59 : Nat) : Int)), (2, 0), (2, 0), (2, 0), (2, 0), (2, 0)] [] M20 (Kd P)))))))))))))))) : A m11_factLine 5 0 103 [(20, ((59 : Nat) : Int)), (0, x1), (0, x2), (0, x3), (0, x4), (0, x5)] [] M (Kd P) := by
  refine A_aload_n (i := 0) (f := 0) (by omega) rfl (by decide +kernel) rfl ?_
  refine A_bipush (a := 24) (by decide +kernel) (by unfold in32; omega) (by decide +kernel) ?_
  refine A_aload_n (i := 0) (f := 0) (by omega) rfl (by decide +kernel) rfl ?_
  refine A_iconst (a := 1) (by decide +kernel) (by unfold in32; omega) ?_
  refine A_cVi (q := (RX11, TX11, 59)) (ci := 10) (o := ((59 : Nat) : Int)) (args := [(0, 1)]) (st := [(0, 24), (20, ((59 : Nat) : Int))]) (by decide +kernel) cv_m11_fresher rfl rfl in_m11_fresher se_m11_fresher lk_11_191 rfl (by omega) (Nat.le_of_ble_eq_true rfl) h (fun r1 M2 _ h3 => ?_)
  refine A_iadd (by decide +kernel) ?_
  refine A_iload_n (i := 2) (f := 2) rfl (by decide +kernel) rfl ?_
  refine A_iload_n (i := 3) (f := 3) rfl (by decide +kernel) rfl ?_
  refine A_iload_n (i := 1) (f := 1) rfl (by decide +kernel) rfl ?_
  refine A_iload (i := 5) (by decide +kernel) rfl ?_
  refine A_cVd (q := (RX11, TX11, 59)) (ci := 10) (o := ((59 : Nat) : Int)) (args := [(0, (w32 (24 + r1))), (0, x2), (0, x3), (0, x1), (0, x5)]) (st := []) (by decide +kernel) cv_m11_lays rfl rfl in_m11_lays se_m11_lays lk_11_234 rfl (by omega) (Nat.le_of_ble_eq_true rfl) h3 (fun M5 h6 => ?_)
  refine A_aload_n (i := 0) (f := 0) (by omega) rfl (by decide +kernel) rfl ?_
  refine A_bipush (a := 24) (by decide +kernel) (by unfold in32; omega) (by decide +kernel) ?_
  refine A_aload_n (i := 0) (f := 0) (by omega) rfl (by decide +kernel) rfl ?_
  refine A_iconst (a := 1) (by decide +kernel) (by unfold in32; omega) ?_
  refine A_cVi (q := (RX11, TX11, 59)) (ci := 10) (o := ((59 : Nat) : Int)) (args := [(0, 1)]) (st := [(0, 24), (20, ((59 : Nat) : Int))]) (by decide +kernel) cv_m11_fresher rfl rfl in_m11_fresher se_m11_fresher lk_11_191 rfl (by omega) (Nat.le_of_ble_eq_true rfl) h6 (fun r7 M8 _ h9 => ?_)
  refine A_iconst (a := 1) (by decide +kernel) (by unfold in32; omega) ?_
  refine A_iadd (by decide +kernel) ?_
  refine A_aload_n (i := 0) (f := 0) (by omega) rfl (by decide +kernel) rfl ?_
  refine A_iconst (a := 0) (by decide +kernel) (by unfold in32; omega) ?_
  refine A_cVi (q := (RX11, TX11, 59)) (ci := 10) (o := ((59 : Nat) : Int)) (args := [(0, 0)]) (st := [(0, (w32 (r7 + 1))), (0, 24), (20, ((59 : Nat) : Int))]) (by decide +kernel) cv_m11_fresher rfl rfl in_m11_fresher se_m11_fresher lk_11_191 rfl (by omega) (Nat.le_of_ble_eq_true rfl) h9 (fun r10 M11 _ h12 => ?_)
  refine A_cVi (q := (RX11, TX11, 59)) (ci := 10) (o := ((59 : Nat) : Int)) (args := [(0, 24), (0, (w32 (r7 + 1))), (0, r10)]) (st := []) (by decide +kernel) cv_m11_isRound rfl rfl in_m11_isRound se_m11_isRound lk_11_238 rfl (by omega) (Nat.le_of_ble_eq_true rfl) h12 (fun r13 M14 _ h15 => ?_)
  refine A_if_eq (off := 10) (tgt := 148) (by decide +kernel) (by omega) (fun b16 => ?_) (fun b16 => ?_)
  · have h17 := h15.1 b16
    exact A_weak (lsub.keep (lsub.drop (lsub.drop (lsub.drop (lsub.drop (lsub.drop lsub.nil)))))) h17
  · have h18 := h15.2 b16
    refine A_aload_n (i := 0) (f := 0) (by omega) rfl (by decide +kernel) rfl ?_
    refine A_iconst (a := 5) (by decide +kernel) (by unfold in32; omega) ?_
    refine A_iload (i := 4) (by decide +kernel) rfl ?_
    refine A_cVd (q := (RX11, TX11, 59)) (ci := 10) (o := ((59 : Nat) : Int)) (args := [(0, 5), (0, x4)]) (st := []) (by decide +kernel) cv_m11_wrongAt rfl rfl in_m11_wrongAt se_m11_wrongAt lk_11_171 rfl (by omega) (Nat.le_of_ble_eq_true rfl) h18 (fun M20 h21 => ?_)
    exact A_weak (lsub.keep (lsub.drop (lsub.drop (lsub.drop (lsub.drop (lsub.drop lsub.nil)))))) h21
theorem r_11_factLine_148  {M : Mem} {P : Mem → Prop} (h : (((M 59 23) ≠ 0 → A m11_factLine 5 0 160 [(2, 0), (2, 0), (2, 0), (2, 0), (2, 0), (2, 0)] [] M (Kd P)) ∧ ((M 59 23) = 0 → (CD m11_oneMore 1 [(20, ((59 : Nat) : Int)), (0, 1)] M (fun M5 => A m11_factLine 5 0 160 [(2, 0), (2, 0), (2, 0), (2, 0), (2, 0), (2, 0)] [] M5 (Kd P)))))) : A m11_factLine 5 0 148 [(20, ((59 : Nat) : Int)), (2, 0), (2, 0), (2, 0), (2, 0), (2, 0)] [] M (Kd P) := by
  refine A_aload_n (i := 0) (f := 0) (by omega) rfl (by decide +kernel) rfl ?_
  refine B_getp (v := (M 59 23)) (q := (RX11, TX11, 59)) (ci := 10) (j := 23) (p := 23) (by decide +kernel) rfl (by decide) rfl (Or.inl rfl) fl_11_175 rfl ?_
  refine A_if_ne (off := 8) (tgt := 160) (by decide +kernel) (by omega) (fun b1 => ?_) (fun b1 => ?_)
  · have h2 := h.1 b1
    exact A_weak (lsub.drop (lsub.drop (lsub.drop (lsub.drop (lsub.drop (lsub.drop lsub.nil)))))) h2
  · have h3 := h.2 (Decidable.not_not.mp b1)
    refine A_aload_n (i := 0) (f := 0) (by omega) rfl (by decide +kernel) rfl ?_
    refine A_iconst (a := 1) (by decide +kernel) (by unfold in32; omega) ?_
    refine A_cVd (q := (RX11, TX11, 59)) (ci := 10) (o := ((59 : Nat) : Int)) (args := [(0, 1)]) (st := []) (by decide +kernel) cv_m11_oneMore rfl rfl in_m11_oneMore se_m11_oneMore lk_11_206 rfl (by omega) (Nat.le_of_ble_eq_true rfl) h3 (fun M5 h6 => ?_)
    exact A_weak (lsub.drop (lsub.drop (lsub.drop (lsub.drop (lsub.drop (lsub.drop lsub.nil)))))) h6
theorem r_11_factLine_160  {M : Mem} {P : Mem → Prop} (h : (P M)) : A m11_factLine 5 0 160 [(2, 0), (2, 0), (2, 0), (2, 0), (2, 0), (2, 0)] [] M (Kd P) := by
  exact A_ret ⟨by decide +kernel, rfl⟩ ⟨rfl, h⟩
theorem q_11_lays {x1 : Int} {x2 : Int} {x3 : Int} {x4 : Int} {x5 : Int} {M : Mem} {P : Mem → Prop} (h : ((0 ≤ x1 ∧ x1 < 72) ∧ ((0 ≤ x1 ∧ x1 < 72) ∧ ((0 ≤ x1 ∧ x1 < 72) ∧ ((0 ≤ x1 ∧ x1 < 72) ∧ ((0 ≤ x1 ∧ x1 < 72) ∧ (P (mset (mset (mset (mset (mset M 69 (x1).toNat x2) 70 (x1).toNat x3) 71 (x1).toNat x4) 72 (x1).toNat x5) 73 (x1).toNat 0)))))))) : CD m11_lays 1 [(20, ((59 : Nat) : Int)), (0, x1), (0, x2), (0, x3), (0, x4), (0, x5)] M P := by
  refine CD_of (by decide +kernel) (Nat.le_of_ble_eq_true rfl) ?_
  show A m11_lays 1 0 0 [(20, ((59 : Nat) : Int)), (0, x1), (0, x2), (0, x3), (0, x4), (0, x5)] [] M (Kd P)
  refine A_aload_n (i := 0) (f := 0) (by omega) rfl (by decide +kernel) rfl ?_
  refine B_getr (o' := ((69 : Nat) : Int)) (q := (RX11, TX11, 59)) (ci := 10) (j := 11) (by decide +kernel) rfl (by decide) rfl (by omega) fl_11_37 rfl ?_
  refine A_iload_n (i := 1) (f := 1) rfl (by decide +kernel) rfl ?_
  refine A_iload_n (i := 2) (f := 2) rfl (by decide +kernel) rfl ?_
  refine B_iast (M' := (mset M 69 (x1).toNat x2)) (by decide +kernel) h.1 rfl ?_
  have h1 := h.2
  refine A_aload_n (i := 0) (f := 0) (by omega) rfl (by decide +kernel) rfl ?_
  refine B_getr (o' := ((70 : Nat) : Int)) (q := (RX11, TX11, 59)) (ci := 10) (j := 12) (by decide +kernel) rfl (by decide) rfl (by omega) fl_11_40 rfl ?_
  refine A_iload_n (i := 1) (f := 1) rfl (by decide +kernel) rfl ?_
  refine A_iload_n (i := 3) (f := 3) rfl (by decide +kernel) rfl ?_
  refine B_iast (M' := (mset (mset M 69 (x1).toNat x2) 70 (x1).toNat x3)) (by decide +kernel) h1.1 rfl ?_
  have h2 := h1.2
  refine A_aload_n (i := 0) (f := 0) (by omega) rfl (by decide +kernel) rfl ?_
  refine B_getr (o' := ((71 : Nat) : Int)) (q := (RX11, TX11, 59)) (ci := 10) (j := 13) (by decide +kernel) rfl (by decide) rfl (by omega) fl_11_43 rfl ?_
  refine A_iload_n (i := 1) (f := 1) rfl (by decide +kernel) rfl ?_
  refine A_iload (i := 4) (by decide +kernel) rfl ?_
  refine B_iast (M' := (mset (mset (mset M 69 (x1).toNat x2) 70 (x1).toNat x3) 71 (x1).toNat x4)) (by decide +kernel) h2.1 rfl ?_
  have h3 := h2.2
  refine A_aload_n (i := 0) (f := 0) (by omega) rfl (by decide +kernel) rfl ?_
  refine B_getr (o' := ((72 : Nat) : Int)) (q := (RX11, TX11, 59)) (ci := 10) (j := 14) (by decide +kernel) rfl (by decide) rfl (by omega) fl_11_46 rfl ?_
  refine A_iload_n (i := 1) (f := 1) rfl (by decide +kernel) rfl ?_
  refine A_iload (i := 5) (by decide +kernel) rfl ?_
  refine B_iast (M' := (mset (mset (mset (mset M 69 (x1).toNat x2) 70 (x1).toNat x3) 71 (x1).toNat x4) 72 (x1).toNat x5)) (by decide +kernel) h3.1 rfl ?_
  have h4 := h3.2
  refine A_aload_n (i := 0) (f := 0) (by omega) rfl (by decide +kernel) rfl ?_
  refine B_getr (o' := ((73 : Nat) : Int)) (q := (RX11, TX11, 59)) (ci := 10) (j := 15) (by decide +kernel) rfl (by decide) rfl (by omega) fl_11_49 rfl ?_
  refine A_iload_n (i := 1) (f := 1) rfl (by decide +kernel) rfl ?_
  refine A_iconst (a := 0) (by decide +kernel) (by unfold in32; omega) ?_
  refine B_zast (M' := (mset (mset (mset (mset (mset M 69 (x1).toNat x2) 70 (x1).toNat x3) 71 (x1).toNat x4) 72 (x1).toNat x5) 73 (x1).toNat 0)) (by decide +kernel) h4.1 (by decide) rfl ?_
  have h5 := h4.2
  exact A_ret ⟨by decide +kernel, rfl⟩ ⟨rfl, h5⟩
theorem q_11_hasFact {x1 : Int} {x2 : Int} {x3 : Int} {x4 : Int} {x5 : Int} {x6 : Int} {M : Mem} {P : Int → Mem → Prop} (h : A m11_hasFact 1 0 3 [(20, ((59 : Nat) : Int)), (0, x1), (0, x2), (0, x3), (0, x4), (0, x5), (0, x6), (0, x1), (2, 0)] [] M (Ki P)) : CI m11_hasFact 1 [(20, ((59 : Nat) : Int)), (0, x1), (0, x2), (0, x3), (0, x4), (0, x5), (0, x6)] M P := by
  refine CI_of (by decide +kernel) (Nat.le_of_ble_eq_true rfl) ?_
  show A m11_hasFact 1 0 0 [(20, ((59 : Nat) : Int)), (0, x1), (0, x2), (0, x3), (0, x4), (0, x5), (0, x6), (2, 0), (2, 0)] [] M (Ki P)
  refine A_iload_n (i := 1) (f := 1) rfl (by decide +kernel) rfl ?_
  refine A_istore (i := 7) (by decide +kernel) (by decide) (fun w h0 hw => by simp at hw; first | (rw [← hw]; decide) | (rw [← hw]; simp)) ?_
  exact A_weak (lsub.keep (lsub.keep (lsub.keep (lsub.keep (lsub.keep (lsub.keep (lsub.keep (lsub.keep (lsub.drop lsub.nil))))))))) h
theorem r_11_hasFact_3 {x1 : Int} {x2 : Int} {x3 : Int} {x4 : Int} {x5 : Int} {x6 : Int} {x7 : Int} {M : Mem} {P : Int → Mem → Prop} (h : (((w32 (x1 + x2)) ≤ x7 → (P 0 M)) ∧ (x7 < (w32 (x1 + x2)) → ((0 ≤ x7 ∧ x7 < 72) ∧ (((M 69 (x7).toNat) ≠ x3 → ((x5 ≠ 1 → A m11_hasFact 1 0 3 [(20, ((59 : Nat) : Int)), (0, x1), (0, x2), (0, x3), (0, x4), (0, x5), (0, x6), (0, (w32 (x7 + 1))), (2, 0)] [] M (Ki P)) ∧ (x5 = 1 → ((0 ≤ x7 ∧ x7 < 72) ∧ (((M 69 (x7).toNat) ≠ x4 → A m11_hasFact 1 0 3 [(20, ((59 : Nat) : Int)), (0, x1), (0, x2), (0, x3), (0, x4), (0, x5), (0, x6), (0, (w32 (x7 + 1))), (2, 0)] [] M (Ki P)) ∧ ((M 69 (x7).toNat) = x4 → ((0 ≤ x7 ∧ x7 < 72) ∧ (((M 70 (x7).toNat) ≠ x3 → A m11_hasFact 1 0 3 [(20, ((59 : Nat) : Int)), (0, x1), (0, x2), (0, x3), (0, x4), (0, x5), (0, x6), (0, (w32 (x7 + 1))), (2, 0)] [] M (Ki P)) ∧ ((M 70 (x7).toNat) = x3 → ((0 ≤ x7 ∧ x7 < 72) ∧ (((M 73 (x7).toNat) ≠ 0 → A m11_hasFact 1 0 3 [(20, ((59 : Nat) : Int)), (0, x1), (0, x2), (0, x3), (0, x4), (0, x5), (0, x6), (0, (w32 (x7 + 1))), (2, 0)] [] M (Ki P)) ∧ ((M 73 (x7).toNat) = 0 → ((0 ≤ x7 ∧ x7 < 72) ∧ (((M 71 (x7).toNat) ≠ x5 → A m11_hasFact 1 0 3 [(20, ((59 : Nat) : Int)), (0, x1), (0, x2), (0, x3), (0, x4), (0, x5), (0, x6), (0, (w32 (x7 + 1))), (2, 0)] [] M (Ki P)) ∧ ((M 71 (x7).toNat) = x5 → ((0 ≤ x7 ∧ x7 < 72) ∧ (((M 72 (x7).toNat) ≠ x6 → A m11_hasFact 1 0 3 [(20, ((59 : Nat) : Int)), (0, x1), (0, x2), (0, x3), (0, x4), (0, x5), (0, x6), (0, (w32 (x7 + 1))), (2, 0)] [] M (Ki P)) ∧ ((M 72 (x7).toNat) = x6 → (P 1 M))))))))))))))))))) ∧ ((M 69 (x7).toNat) = x3 → ((0 ≤ x7 ∧ x7 < 72) ∧ (((M 70 (x7).toNat) = x4 → ((0 ≤ x7 ∧ x7 < 72) ∧ (((M 73 (x7).toNat) ≠ 0 → A m11_hasFact 1 0 3 [(20, ((59 : Nat) : Int)), (0, x1), (0, x2), (0, x3), (0, x4), (0, x5), (0, x6), (0, (w32 (x7 + 1))), (2, 0)] [] M (Ki P)) ∧ ((M 73 (x7).toNat) = 0 → ((0 ≤ x7 ∧ x7 < 72) ∧ (((M 71 (x7).toNat) ≠ x5 → A m11_hasFact 1 0 3 [(20, ((59 : Nat) : Int)), (0, x1), (0, x2), (0, x3), (0, x4), (0, x5), (0, x6), (0, (w32 (x7 + 1))), (2, 0)] [] M (Ki P)) ∧ ((M 71 (x7).toNat) = x5 → ((0 ≤ x7 ∧ x7 < 72) ∧ (((M 72 (x7).toNat) ≠ x6 → A m11_hasFact 1 0 3 [(20, ((59 : Nat) : Int)), (0, x1), (0, x2), (0, x3), (0, x4), (0, x5), (0, x6), (0, (w32 (x7 + 1))), (2, 0)] [] M (Ki P)) ∧ ((M 72 (x7).toNat) = x6 → (P 1 M))))))))))) ∧ ((M 70 (x7).toNat) ≠ x4 → ((x5 ≠ 1 → A m11_hasFact 1 0 3 [(20, ((59 : Nat) : Int)), (0, x1), (0, x2), (0, x3), (0, x4), (0, x5), (0, x6), (0, (w32 (x7 + 1))), (2, 0)] [] M (Ki P)) ∧ (x5 = 1 → ((0 ≤ x7 ∧ x7 < 72) ∧ (((M 69 (x7).toNat) ≠ x4 → A m11_hasFact 1 0 3 [(20, ((59 : Nat) : Int)), (0, x1), (0, x2), (0, x3), (0, x4), (0, x5), (0, x6), (0, (w32 (x7 + 1))), (2, 0)] [] M (Ki P)) ∧ ((M 69 (x7).toNat) = x4 → ((0 ≤ x7 ∧ x7 < 72) ∧ (((M 70 (x7).toNat) ≠ x3 → A m11_hasFact 1 0 3 [(20, ((59 : Nat) : Int)), (0, x1), (0, x2), (0, x3), (0, x4), (0, x5), (0, x6), (0, (w32 (x7 + 1))), (2, 0)] [] M (Ki P)) ∧ ((M 70 (x7).toNat) = x3 → ((0 ≤ x7 ∧ x7 < 72) ∧ (((M 73 (x7).toNat) ≠ 0 → A m11_hasFact 1 0 3 [(20, ((59 : Nat) : Int)), (0, x1), (0, x2), (0, x3), (0, x4), (0, x5), (0, x6), (0, (w32 (x7 + 1))), (2, 0)] [] M (Ki P)) ∧ ((M 73 (x7).toNat) = 0 → ((0 ≤ x7 ∧ x7 < 72) ∧ (((M 71 (x7).toNat) ≠ x5 → A m11_hasFact 1 0 3 [(20, ((59 : Nat) : Int)), (0, x1), (0, x2), (0, x3), (0, x4), (0, x5), (0, x6), (0, (w32 (x7 + 1))), (2, 0)] [] M (Ki P)) ∧ ((M 71 (x7).toNat) = x5 → ((0 ≤ x7 ∧ x7 < 72) ∧ (((M 72 (x7).toNat) ≠ x6 → A m11_hasFact 1 0 3 [(20, ((59 : Nat) : Int)), (0, x1), (0, x2), (0, x3), (0, x4), (0, x5), (0, x6), (0, (w32 (x7 + 1))), (2, 0)] [] M (Ki P)) ∧ ((M 72 (x7).toNat) = x6 → (P 1 M))))))))))))))))))))))))))) : A m11_hasFact 1 0 3 [(20, ((59 : Nat) : Int)), (0, x1), (0, x2), (0, x3), (0, x4), (0, x5), (0, x6), (0, x7), (2, 0)] [] M (Ki P) := by
  refine A_iload (i := 7) (by decide +kernel) rfl ?_
  refine A_iload_n (i := 1) (f := 1) rfl (by decide +kernel) rfl ?_
  refine A_iload_n (i := 2) (f := 2) rfl (by decide +kernel) rfl ?_
  refine A_iadd (by decide +kernel) ?_
  refine A_ic_ge (off := 109) (tgt := 117) (by decide +kernel) (by omega) (fun b1 => ?_) (fun b1 => ?_)
  · have h2 := h.1 b1
    refine A_iconst (a := 0) (by decide +kernel) (by unfold in32; omega) ?_
    exact A_ret ⟨by decide +kernel, Or.inr ⟨rfl, by decide⟩⟩ ⟨_, rfl, h2⟩
  · have h3 := h.2 (Int.not_le.mp b1)
    refine A_aload_n (i := 0) (f := 0) (by omega) rfl (by decide +kernel) rfl ?_
    refine B_getr (o' := ((69 : Nat) : Int)) (q := (RX11, TX11, 59)) (ci := 10) (j := 11) (by decide +kernel) rfl (by decide) rfl (by omega) fl_11_37 rfl ?_
    refine A_iload (i := 7) (by decide +kernel) rfl ?_
    refine B_iald (v := (M 69 (x7).toNat)) (by decide +kernel) h3.1 rfl ?_
    have h4 := h3.2
    refine A_iload_n (i := 3) (f := 3) rfl (by decide +kernel) rfl ?_
    refine A_ic_ne (off := 15) (tgt := 34) (by decide +kernel) (by omega) (fun b5 => ?_) (fun b5 => ?_)
    · have h6 := h4.1 b5
      refine A_iload (i := 5) (by decide +kernel) rfl ?_
      refine A_iconst (a := 1) (by decide +kernel) (by unfold in32; omega) ?_
      refine A_ic_ne (off := 30) (tgt := 67) (by decide +kernel) (by omega) (fun b8 => ?_) (fun b8 => ?_)
      · have h9 := h6.1 b8
        refine A_iconst (a := 0) (by decide +kernel) (by unfold in32; omega) ?_
        refine A_istore (i := 8) (by decide +kernel) (by decide) (fun w h0 hw => by simp at hw; first | (rw [← hw]; decide) | (rw [← hw]; simp)) ?_
        refine A_iload (i := 8) (by decide +kernel) rfl ?_
        refine A_if_eq (off := 39) (tgt := 111) (by decide +kernel) (by omega) (fun _ => ?_) (fun hb => absurd (by decide) hb)
        refine A_iinc (i := 7) (n := 1) (by decide +kernel) (by decide) rfl (fun w h0 hw => by simp at hw; first | (rw [← hw]; decide) | (rw [← hw]; simp)) ?_
        refine A_goto (off := (-111)) (tgt := 3) (by decide +kernel) (by omega) ?_
        exact A_weak (lsub.keep (lsub.keep (lsub.keep (lsub.keep (lsub.keep (lsub.keep (lsub.keep (lsub.keep (lsub.drop lsub.nil))))))))) h9
      · have h10 := h6.2 (Decidable.not_not.mp b8)
        refine A_aload_n (i := 0) (f := 0) (by omega) rfl (by decide +kernel) rfl ?_
        refine B_getr (o' := ((69 : Nat) : Int)) (q := (RX11, TX11, 59)) (ci := 10) (j := 11) (by decide +kernel) rfl (by decide) rfl (by omega) fl_11_37 rfl ?_
        refine A_iload (i := 7) (by decide +kernel) rfl ?_
        refine B_iald (v := (M 69 (x7).toNat)) (by decide +kernel) h10.1 rfl ?_
        have h11 := h10.2
        refine A_iload (i := 4) (by decide +kernel) rfl ?_
        refine A_ic_ne (off := 18) (tgt := 67) (by decide +kernel) (by omega) (fun b12 => ?_) (fun b12 => ?_)
        · have h13 := h11.1 b12
          refine A_iconst (a := 0) (by decide +kernel) (by unfold in32; omega) ?_
          refine A_istore (i := 8) (by decide +kernel) (by decide) (fun w h0 hw => by simp at hw; first | (rw [← hw]; decide) | (rw [← hw]; simp)) ?_
          refine A_iload (i := 8) (by decide +kernel) rfl ?_
          refine A_if_eq (off := 39) (tgt := 111) (by decide +kernel) (by omega) (fun _ => ?_) (fun hb => absurd (by decide) hb)
          refine A_iinc (i := 7) (n := 1) (by decide +kernel) (by decide) rfl (fun w h0 hw => by simp at hw; first | (rw [← hw]; decide) | (rw [← hw]; simp)) ?_
          refine A_goto (off := (-111)) (tgt := 3) (by decide +kernel) (by omega) ?_
          exact A_weak (lsub.keep (lsub.keep (lsub.keep (lsub.keep (lsub.keep (lsub.keep (lsub.keep (lsub.keep (lsub.drop lsub.nil))))))))) h13
        · have h14 := h11.2 (Decidable.not_not.mp b12)
          refine A_aload_n (i := 0) (f := 0) (by omega) rfl (by decide +kernel) rfl ?_
          refine B_getr (o' := ((70 : Nat) : Int)) (q := (RX11, TX11, 59)) (ci := 10) (j := 12) (by decide +kernel) rfl (by decide) rfl (by omega) fl_11_40 rfl ?_
          refine A_iload (i := 7) (by decide +kernel) rfl ?_
          refine B_iald (v := (M 70 (x7).toNat)) (by decide +kernel) h14.1 rfl ?_
          have h15 := h14.2
          refine A_iload_n (i := 3) (f := 3) rfl (by decide +kernel) rfl ?_
          refine A_ic_ne (off := 7) (tgt := 67) (by decide +kernel) (by omega) (fun b16 => ?_) (fun b16 => ?_)
          · have h17 := h15.1 b16
            refine A_iconst (a := 0) (by decide +kernel) (by unfold in32; omega) ?_
            refine A_istore (i := 8) (by decide +kernel) (by decide) (fun w h0 hw => by simp at hw; first | (rw [← hw]; decide) | (rw [← hw]; simp)) ?_
            refine A_iload (i := 8) (by decide +kernel) rfl ?_
            refine A_if_eq (off := 39) (tgt := 111) (by decide +kernel) (by omega) (fun _ => ?_) (fun hb => absurd (by decide) hb)
            refine A_iinc (i := 7) (n := 1) (by decide +kernel) (by decide) rfl (fun w h0 hw => by simp at hw; first | (rw [← hw]; decide) | (rw [← hw]; simp)) ?_
            refine A_goto (off := (-111)) (tgt := 3) (by decide +kernel) (by omega) ?_
            exact A_weak (lsub.keep (lsub.keep (lsub.keep (lsub.keep (lsub.keep (lsub.keep (lsub.keep (lsub.keep (lsub.drop lsub.nil))))))))) h17
          · have h18 := h15.2 (Decidable.not_not.mp b16)
            refine A_iconst (a := 1) (by decide +kernel) (by unfold in32; omega) ?_
            refine A_goto (off := 4) (tgt := 68) (by decide +kernel) (by omega) ?_
            refine A_istore (i := 8) (by decide +kernel) (by decide) (fun w h0 hw => by simp at hw; first | (rw [← hw]; decide) | (rw [← hw]; simp)) ?_
            refine A_iload (i := 8) (by decide +kernel) rfl ?_
            refine A_if_eq (off := 39) (tgt := 111) (by decide +kernel) (by omega) (fun hb => absurd hb (by decide)) (fun _ => ?_)
            refine A_aload_n (i := 0) (f := 0) (by omega) rfl (by decide +kernel) rfl ?_
            refine B_getr (o' := ((73 : Nat) : Int)) (q := (RX11, TX11, 59)) (ci := 10) (j := 15) (by decide +kernel) rfl (by decide) rfl (by omega) fl_11_49 rfl ?_
            refine A_iload (i := 7) (by decide +kernel) rfl ?_
            refine B_zald (v := (M 73 (x7).toNat)) (by decide +kernel) h18.1 rfl ?_
            have h19 := h18.2
            refine A_if_ne (off := 29) (tgt := 111) (by decide +kernel) (by omega) (fun b20 => ?_) (fun b20 => ?_)
            · have h21 := h19.1 b20
              refine A_iinc (i := 7) (n := 1) (by decide +kernel) (by decide) rfl (fun w h0 hw => by simp at hw; first | (rw [← hw]; decide) | (rw [← hw]; simp)) ?_
              refine A_goto (off := (-111)) (tgt := 3) (by decide +kernel) (by omega) ?_
              exact A_weak (lsub.keep (lsub.keep (lsub.keep (lsub.keep (lsub.keep (lsub.keep (lsub.keep (lsub.keep (lsub.drop lsub.nil))))))))) h21
            · have h22 := h19.2 (Decidable.not_not.mp b20)
              refine A_aload_n (i := 0) (f := 0) (by omega) rfl (by decide +kernel) rfl ?_
              refine B_getr (o' := ((71 : Nat) : Int)) (q := (RX11, TX11, 59)) (ci := 10) (j := 13) (by decide +kernel) rfl (by decide) rfl (by omega) fl_11_43 rfl ?_
              refine A_iload (i := 7) (by decide +kernel) rfl ?_
              refine B_iald (v := (M 71 (x7).toNat)) (by decide +kernel) h22.1 rfl ?_
              have h23 := h22.2
              refine A_iload (i := 5) (by decide +kernel) rfl ?_
              refine A_ic_ne (off := 17) (tgt := 111) (by decide +kernel) (by omega) (fun b24 => ?_) (fun b24 => ?_)
              · have h25 := h23.1 b24
                refine A_iinc (i := 7) (n := 1) (by decide +kernel) (by decide) rfl (fun w h0 hw => by simp at hw; first | (rw [← hw]; decide) | (rw [← hw]; simp)) ?_
                refine A_goto (off := (-111)) (tgt := 3) (by decide +kernel) (by omega) ?_
                exact A_weak (lsub.keep (lsub.keep (lsub.keep (lsub.keep (lsub.keep (lsub.keep (lsub.keep (lsub.keep (lsub.drop lsub.nil))))))))) h25
              · have h26 := h23.2 (Decidable.not_not.mp b24)
                refine A_aload_n (i := 0) (f := 0) (by omega) rfl (by decide +kernel) rfl ?_
                refine B_getr (o' := ((72 : Nat) : Int)) (q := (RX11, TX11, 59)) (ci := 10) (j := 14) (by decide +kernel) rfl (by decide) rfl (by omega) fl_11_46 rfl ?_
                refine A_iload (i := 7) (by decide +kernel) rfl ?_
                refine B_iald (v := (M 72 (x7).toNat)) (by decide +kernel) h26.1 rfl ?_
                have h27 := h26.2
                refine A_iload (i := 6) (by decide +kernel) rfl ?_
                refine A_ic_ne (off := 5) (tgt := 111) (by decide +kernel) (by omega) (fun b28 => ?_) (fun b28 => ?_)
                · have h29 := h27.1 b28
                  refine A_iinc (i := 7) (n := 1) (by decide +kernel) (by decide) rfl (fun w h0 hw => by simp at hw; first | (rw [← hw]; decide) | (rw [← hw]; simp)) ?_
                  refine A_goto (off := (-111)) (tgt := 3) (by decide +kernel) (by omega) ?_
                  exact A_weak (lsub.keep (lsub.keep (lsub.keep (lsub.keep (lsub.keep (lsub.keep (lsub.keep (lsub.keep (lsub.drop lsub.nil))))))))) h29
                · have h30 := h27.2 (Decidable.not_not.mp b28)
                  refine A_iconst (a := 1) (by decide +kernel) (by unfold in32; omega) ?_
                  exact A_ret ⟨by decide +kernel, Or.inr ⟨rfl, by decide⟩⟩ ⟨_, rfl, h30⟩
    · have h7 := h4.2 (Decidable.not_not.mp b5)
      refine A_aload_n (i := 0) (f := 0) (by omega) rfl (by decide +kernel) rfl ?_
      refine B_getr (o' := ((70 : Nat) : Int)) (q := (RX11, TX11, 59)) (ci := 10) (j := 12) (by decide +kernel) rfl (by decide) rfl (by omega) fl_11_40 rfl ?_
      refine A_iload (i := 7) (by decide +kernel) rfl ?_
      refine B_iald (v := (M 70 (x7).toNat)) (by decide +kernel) h7.1 rfl ?_
      have h31 := h7.2
      refine A_iload (i := 4) (by decide +kernel) rfl ?_
      refine A_ic_eq (off := 32) (tgt := 63) (by decide +kernel) (by omega) (fun b32 => ?_) (fun b32 => ?_)
      · have h33 := h31.1 b32
        refine A_iconst (a := 1) (by decide +kernel) (by unfold in32; omega) ?_
        refine A_goto (off := 4) (tgt := 68) (by decide +kernel) (by omega) ?_
        refine A_istore (i := 8) (by decide +kernel) (by decide) (fun w h0 hw => by simp at hw; first | (rw [← hw]; decide) | (rw [← hw]; simp)) ?_
        refine A_iload (i := 8) (by decide +kernel) rfl ?_
        refine A_if_eq (off := 39) (tgt := 111) (by decide +kernel) (by omega) (fun hb => absurd hb (by decide)) (fun _ => ?_)
        refine A_aload_n (i := 0) (f := 0) (by omega) rfl (by decide +kernel) rfl ?_
        refine B_getr (o' := ((73 : Nat) : Int)) (q := (RX11, TX11, 59)) (ci := 10) (j := 15) (by decide +kernel) rfl (by decide) rfl (by omega) fl_11_49 rfl ?_
        refine A_iload (i := 7) (by decide +kernel) rfl ?_
        refine B_zald (v := (M 73 (x7).toNat)) (by decide +kernel) h33.1 rfl ?_
        have h35 := h33.2
        refine A_if_ne (off := 29) (tgt := 111) (by decide +kernel) (by omega) (fun b36 => ?_) (fun b36 => ?_)
        · have h37 := h35.1 b36
          refine A_iinc (i := 7) (n := 1) (by decide +kernel) (by decide) rfl (fun w h0 hw => by simp at hw; first | (rw [← hw]; decide) | (rw [← hw]; simp)) ?_
          refine A_goto (off := (-111)) (tgt := 3) (by decide +kernel) (by omega) ?_
          exact A_weak (lsub.keep (lsub.keep (lsub.keep (lsub.keep (lsub.keep (lsub.keep (lsub.keep (lsub.keep (lsub.drop lsub.nil))))))))) h37
        · have h38 := h35.2 (Decidable.not_not.mp b36)
          refine A_aload_n (i := 0) (f := 0) (by omega) rfl (by decide +kernel) rfl ?_
          refine B_getr (o' := ((71 : Nat) : Int)) (q := (RX11, TX11, 59)) (ci := 10) (j := 13) (by decide +kernel) rfl (by decide) rfl (by omega) fl_11_43 rfl ?_
          refine A_iload (i := 7) (by decide +kernel) rfl ?_
          refine B_iald (v := (M 71 (x7).toNat)) (by decide +kernel) h38.1 rfl ?_
          have h39 := h38.2
          refine A_iload (i := 5) (by decide +kernel) rfl ?_
          refine A_ic_ne (off := 17) (tgt := 111) (by decide +kernel) (by omega) (fun b40 => ?_) (fun b40 => ?_)
          · have h41 := h39.1 b40
            refine A_iinc (i := 7) (n := 1) (by decide +kernel) (by decide) rfl (fun w h0 hw => by simp at hw; first | (rw [← hw]; decide) | (rw [← hw]; simp)) ?_
            refine A_goto (off := (-111)) (tgt := 3) (by decide +kernel) (by omega) ?_
            exact A_weak (lsub.keep (lsub.keep (lsub.keep (lsub.keep (lsub.keep (lsub.keep (lsub.keep (lsub.keep (lsub.drop lsub.nil))))))))) h41
          · have h42 := h39.2 (Decidable.not_not.mp b40)
            refine A_aload_n (i := 0) (f := 0) (by omega) rfl (by decide +kernel) rfl ?_
            refine B_getr (o' := ((72 : Nat) : Int)) (q := (RX11, TX11, 59)) (ci := 10) (j := 14) (by decide +kernel) rfl (by decide) rfl (by omega) fl_11_46 rfl ?_
            refine A_iload (i := 7) (by decide +kernel) rfl ?_
            refine B_iald (v := (M 72 (x7).toNat)) (by decide +kernel) h42.1 rfl ?_
            have h43 := h42.2
            refine A_iload (i := 6) (by decide +kernel) rfl ?_
            refine A_ic_ne (off := 5) (tgt := 111) (by decide +kernel) (by omega) (fun b44 => ?_) (fun b44 => ?_)
            · have h45 := h43.1 b44
              refine A_iinc (i := 7) (n := 1) (by decide +kernel) (by decide) rfl (fun w h0 hw => by simp at hw; first | (rw [← hw]; decide) | (rw [← hw]; simp)) ?_
              refine A_goto (off := (-111)) (tgt := 3) (by decide +kernel) (by omega) ?_
              exact A_weak (lsub.keep (lsub.keep (lsub.keep (lsub.keep (lsub.keep (lsub.keep (lsub.keep (lsub.keep (lsub.drop lsub.nil))))))))) h45
            · have h46 := h43.2 (Decidable.not_not.mp b44)
              refine A_iconst (a := 1) (by decide +kernel) (by unfold in32; omega) ?_
              exact A_ret ⟨by decide +kernel, Or.inr ⟨rfl, by decide⟩⟩ ⟨_, rfl, h46⟩
      · have h34 := h31.2 b32
        refine A_iload (i := 5) (by decide +kernel) rfl ?_
        refine A_iconst (a := 1) (by decide +kernel) (by unfold in32; omega) ?_
        refine A_ic_ne (off := 30) (tgt := 67) (by decide +kernel) (by omega) (fun b47 => ?_) (fun b47 => ?_)
        · have h48 := h34.1 b47
          refine A_iconst (a := 0) (by decide +kernel) (by unfold in32; omega) ?_
          refine A_istore (i := 8) (by decide +kernel) (by decide) (fun w h0 hw => by simp at hw; first | (rw [← hw]; decide) | (rw [← hw]; simp)) ?_
          refine A_iload (i := 8) (by decide +kernel) rfl ?_
          refine A_if_eq (off := 39) (tgt := 111) (by decide +kernel) (by omega) (fun _ => ?_) (fun hb => absurd (by decide) hb)
          refine A_iinc (i := 7) (n := 1) (by decide +kernel) (by decide) rfl (fun w h0 hw => by simp at hw; first | (rw [← hw]; decide) | (rw [← hw]; simp)) ?_
          refine A_goto (off := (-111)) (tgt := 3) (by decide +kernel) (by omega) ?_
          exact A_weak (lsub.keep (lsub.keep (lsub.keep (lsub.keep (lsub.keep (lsub.keep (lsub.keep (lsub.keep (lsub.drop lsub.nil))))))))) h48
        · have h49 := h34.2 (Decidable.not_not.mp b47)
          refine A_aload_n (i := 0) (f := 0) (by omega) rfl (by decide +kernel) rfl ?_
          refine B_getr (o' := ((69 : Nat) : Int)) (q := (RX11, TX11, 59)) (ci := 10) (j := 11) (by decide +kernel) rfl (by decide) rfl (by omega) fl_11_37 rfl ?_
          refine A_iload (i := 7) (by decide +kernel) rfl ?_
          refine B_iald (v := (M 69 (x7).toNat)) (by decide +kernel) h49.1 rfl ?_
          have h50 := h49.2
          refine A_iload (i := 4) (by decide +kernel) rfl ?_
          refine A_ic_ne (off := 18) (tgt := 67) (by decide +kernel) (by omega) (fun b51 => ?_) (fun b51 => ?_)
          · have h52 := h50.1 b51
            refine A_iconst (a := 0) (by decide +kernel) (by unfold in32; omega) ?_
            refine A_istore (i := 8) (by decide +kernel) (by decide) (fun w h0 hw => by simp at hw; first | (rw [← hw]; decide) | (rw [← hw]; simp)) ?_
            refine A_iload (i := 8) (by decide +kernel) rfl ?_
            refine A_if_eq (off := 39) (tgt := 111) (by decide +kernel) (by omega) (fun _ => ?_) (fun hb => absurd (by decide) hb)
            refine A_iinc (i := 7) (n := 1) (by decide +kernel) (by decide) rfl (fun w h0 hw => by simp at hw; first | (rw [← hw]; decide) | (rw [← hw]; simp)) ?_
            refine A_goto (off := (-111)) (tgt := 3) (by decide +kernel) (by omega) ?_
            exact A_weak (lsub.keep (lsub.keep (lsub.keep (lsub.keep (lsub.keep (lsub.keep (lsub.keep (lsub.keep (lsub.drop lsub.nil))))))))) h52
          · have h53 := h50.2 (Decidable.not_not.mp b51)
            refine A_aload_n (i := 0) (f := 0) (by omega) rfl (by decide +kernel) rfl ?_
            refine B_getr (o' := ((70 : Nat) : Int)) (q := (RX11, TX11, 59)) (ci := 10) (j := 12) (by decide +kernel) rfl (by decide) rfl (by omega) fl_11_40 rfl ?_
            refine A_iload (i := 7) (by decide +kernel) rfl ?_
            refine B_iald (v := (M 70 (x7).toNat)) (by decide +kernel) h53.1 rfl ?_
            have h54 := h53.2
            refine A_iload_n (i := 3) (f := 3) rfl (by decide +kernel) rfl ?_
            refine A_ic_ne (off := 7) (tgt := 67) (by decide +kernel) (by omega) (fun b55 => ?_) (fun b55 => ?_)
            · have h56 := h54.1 b55
              refine A_iconst (a := 0) (by decide +kernel) (by unfold in32; omega) ?_
              refine A_istore (i := 8) (by decide +kernel) (by decide) (fun w h0 hw => by simp at hw; first | (rw [← hw]; decide) | (rw [← hw]; simp)) ?_
              refine A_iload (i := 8) (by decide +kernel) rfl ?_
              refine A_if_eq (off := 39) (tgt := 111) (by decide +kernel) (by omega) (fun _ => ?_) (fun hb => absurd (by decide) hb)
              refine A_iinc (i := 7) (n := 1) (by decide +kernel) (by decide) rfl (fun w h0 hw => by simp at hw; first | (rw [← hw]; decide) | (rw [← hw]; simp)) ?_
              refine A_goto (off := (-111)) (tgt := 3) (by decide +kernel) (by omega) ?_
              exact A_weak (lsub.keep (lsub.keep (lsub.keep (lsub.keep (lsub.keep (lsub.keep (lsub.keep (lsub.keep (lsub.drop lsub.nil))))))))) h56
            · have h57 := h54.2 (Decidable.not_not.mp b55)
              refine A_iconst (a := 1) (by decide +kernel) (by unfold in32; omega) ?_
              refine A_goto (off := 4) (tgt := 68) (by decide +kernel) (by omega) ?_
              refine A_istore (i := 8) (by decide +kernel) (by decide) (fun w h0 hw => by simp at hw; first | (rw [← hw]; decide) | (rw [← hw]; simp)) ?_
              refine A_iload (i := 8) (by decide +kernel) rfl ?_
              refine A_if_eq (off := 39) (tgt := 111) (by decide +kernel) (by omega) (fun hb => absurd hb (by decide)) (fun _ => ?_)
              refine A_aload_n (i := 0) (f := 0) (by omega) rfl (by decide +kernel) rfl ?_
              refine B_getr (o' := ((73 : Nat) : Int)) (q := (RX11, TX11, 59)) (ci := 10) (j := 15) (by decide +kernel) rfl (by decide) rfl (by omega) fl_11_49 rfl ?_
              refine A_iload (i := 7) (by decide +kernel) rfl ?_
              refine B_zald (v := (M 73 (x7).toNat)) (by decide +kernel) h57.1 rfl ?_
              have h58 := h57.2
              refine A_if_ne (off := 29) (tgt := 111) (by decide +kernel) (by omega) (fun b59 => ?_) (fun b59 => ?_)
              · have h60 := h58.1 b59
                refine A_iinc (i := 7) (n := 1) (by decide +kernel) (by decide) rfl (fun w h0 hw => by simp at hw; first | (rw [← hw]; decide) | (rw [← hw]; simp)) ?_
                refine A_goto (off := (-111)) (tgt := 3) (by decide +kernel) (by omega) ?_
                exact A_weak (lsub.keep (lsub.keep (lsub.keep (lsub.keep (lsub.keep (lsub.keep (lsub.keep (lsub.keep (lsub.drop lsub.nil))))))))) h60
              · have h61 := h58.2 (Decidable.not_not.mp b59)
                refine A_aload_n (i := 0) (f := 0) (by omega) rfl (by decide +kernel) rfl ?_
                refine B_getr (o' := ((71 : Nat) : Int)) (q := (RX11, TX11, 59)) (ci := 10) (j := 13) (by decide +kernel) rfl (by decide) rfl (by omega) fl_11_43 rfl ?_
                refine A_iload (i := 7) (by decide +kernel) rfl ?_
                refine B_iald (v := (M 71 (x7).toNat)) (by decide +kernel) h61.1 rfl ?_
                have h62 := h61.2
                refine A_iload (i := 5) (by decide +kernel) rfl ?_
                refine A_ic_ne (off := 17) (tgt := 111) (by decide +kernel) (by omega) (fun b63 => ?_) (fun b63 => ?_)
                · have h64 := h62.1 b63
                  refine A_iinc (i := 7) (n := 1) (by decide +kernel) (by decide) rfl (fun w h0 hw => by simp at hw; first | (rw [← hw]; decide) | (rw [← hw]; simp)) ?_
                  refine A_goto (off := (-111)) (tgt := 3) (by decide +kernel) (by omega) ?_
                  exact A_weak (lsub.keep (lsub.keep (lsub.keep (lsub.keep (lsub.keep (lsub.keep (lsub.keep (lsub.keep (lsub.drop lsub.nil))))))))) h64
                · have h65 := h62.2 (Decidable.not_not.mp b63)
                  refine A_aload_n (i := 0) (f := 0) (by omega) rfl (by decide +kernel) rfl ?_
                  refine B_getr (o' := ((72 : Nat) : Int)) (q := (RX11, TX11, 59)) (ci := 10) (j := 14) (by decide +kernel) rfl (by decide) rfl (by omega) fl_11_46 rfl ?_
                  refine A_iload (i := 7) (by decide +kernel) rfl ?_
                  refine B_iald (v := (M 72 (x7).toNat)) (by decide +kernel) h65.1 rfl ?_
                  have h66 := h65.2
                  refine A_iload (i := 6) (by decide +kernel) rfl ?_
                  refine A_ic_ne (off := 5) (tgt := 111) (by decide +kernel) (by omega) (fun b67 => ?_) (fun b67 => ?_)
                  · have h68 := h66.1 b67
                    refine A_iinc (i := 7) (n := 1) (by decide +kernel) (by decide) rfl (fun w h0 hw => by simp at hw; first | (rw [← hw]; decide) | (rw [← hw]; simp)) ?_
                    refine A_goto (off := (-111)) (tgt := 3) (by decide +kernel) (by omega) ?_
                    exact A_weak (lsub.keep (lsub.keep (lsub.keep (lsub.keep (lsub.keep (lsub.keep (lsub.keep (lsub.keep (lsub.drop lsub.nil))))))))) h68
                  · have h69 := h66.2 (Decidable.not_not.mp b67)
                    refine A_iconst (a := 1) (by decide +kernel) (by unfold in32; omega) ?_
                    exact A_ret ⟨by decide +kernel, Or.inr ⟨rfl, by decide⟩⟩ ⟨_, rfl, h69⟩
theorem q_11_pair {x0 : Int} {x1 : Int} {M : Mem} {P : Int → Mem → Prop} (h : (P (w32 ((w32 (5 * x0)) + x1)) M)) : CI m11_pair 1 [(0, x0), (0, x1)] M P := by
  refine CI_of (by decide +kernel) (Nat.le_of_ble_eq_true rfl) ?_
  show A m11_pair 1 0 0 [(0, x0), (0, x1)] [] M (Ki P)
  refine A_iconst (a := 5) (by decide +kernel) (by unfold in32; omega) ?_
  refine A_iload_n (i := 0) (f := 0) rfl (by decide +kernel) rfl ?_
  refine A_imul (by decide +kernel) ?_
  refine A_iload_n (i := 1) (f := 1) rfl (by decide +kernel) rfl ?_
  refine A_iadd (by decide +kernel) ?_
  exact A_ret ⟨by decide +kernel, Or.inl rfl⟩ ⟨_, rfl, h⟩
theorem q_11_isOf {x1 : Int} {x2 : Int} {M : Mem} {P : Int → Mem → Prop} (h : ((0 ≤ x1 ∧ x1 < 72) ∧ (((M 73 (x1).toNat) ≠ 0 → (P 0 M)) ∧ ((M 73 (x1).toNat) = 0 → ((0 ≤ x1 ∧ x1 < 72) ∧ (((M 72 (x1).toNat) = (-1) → (P 1 M)) ∧ ((M 72 (x1).toNat) ≠ (-1) → ((0 ≤ x1 ∧ x1 < 72) ∧ (((M 72 (x1).toNat) ≠ x2 → (P 0 M)) ∧ ((M 72 (x1).toNat) = x2 → (P 1 M))))))))))) : CI m11_isOf 1 [(20, ((59 : Nat) : Int)), (0, x1), (0, x2)] M P := by
  refine CI_of (by decide +kernel) (Nat.le_of_ble_eq_true rfl) ?_
  show A m11_isOf 1 0 0 [(20, ((59 : Nat) : Int)), (0, x1), (0, x2)] [] M (Ki P)
  refine A_aload_n (i := 0) (f := 0) (by omega) rfl (by decide +kernel) rfl ?_
  refine B_getr (o' := ((73 : Nat) : Int)) (q := (RX11, TX11, 59)) (ci := 10) (j := 15) (by decide +kernel) rfl (by decide) rfl (by omega) fl_11_49 rfl ?_
  refine A_iload_n (i := 1) (f := 1) rfl (by decide +kernel) rfl ?_
  refine B_zald (v := (M 73 (x1).toNat)) (by decide +kernel) h.1 rfl ?_
  have h1 := h.2
  refine A_if_ne (off := 27) (tgt := 33) (by decide +kernel) (by omega) (fun b2 => ?_) (fun b2 => ?_)
  · have h3 := h1.1 b2
    refine A_iconst (a := 0) (by decide +kernel) (by unfold in32; omega) ?_
    exact A_ret ⟨by decide +kernel, Or.inr ⟨rfl, by decide⟩⟩ ⟨_, rfl, h3⟩
  · have h4 := h1.2 (Decidable.not_not.mp b2)
    refine A_aload_n (i := 0) (f := 0) (by omega) rfl (by decide +kernel) rfl ?_
    refine B_getr (o' := ((72 : Nat) : Int)) (q := (RX11, TX11, 59)) (ci := 10) (j := 14) (by decide +kernel) rfl (by decide) rfl (by omega) fl_11_46 rfl ?_
    refine A_iload_n (i := 1) (f := 1) rfl (by decide +kernel) rfl ?_
    refine B_iald (v := (M 72 (x1).toNat)) (by decide +kernel) h4.1 rfl ?_
    have h5 := h4.2
    refine A_iconst (a := (-1)) (by decide +kernel) (by unfold in32; omega) ?_
    refine A_ic_eq (off := 13) (tgt := 29) (by decide +kernel) (by omega) (fun b6 => ?_) (fun b6 => ?_)
    · have h7 := h5.1 b6
      refine A_iconst (a := 1) (by decide +kernel) (by unfold in32; omega) ?_
      refine A_goto (off := 4) (tgt := 34) (by decide +kernel) (by omega) ?_
      exact A_ret ⟨by decide +kernel, Or.inr ⟨rfl, by decide⟩⟩ ⟨_, rfl, h7⟩
    · have h8 := h5.2 b6
      refine A_aload_n (i := 0) (f := 0) (by omega) rfl (by decide +kernel) rfl ?_
      refine B_getr (o' := ((72 : Nat) : Int)) (q := (RX11, TX11, 59)) (ci := 10) (j := 14) (by decide +kernel) rfl (by decide) rfl (by omega) fl_11_46 rfl ?_
      refine A_iload_n (i := 1) (f := 1) rfl (by decide +kernel) rfl ?_
      refine B_iald (v := (M 72 (x1).toNat)) (by decide +kernel) h8.1 rfl ?_
      have h9 := h8.2
      refine A_iload_n (i := 2) (f := 2) rfl (by decide +kernel) rfl ?_
      refine A_ic_ne (off := 7) (tgt := 33) (by decide +kernel) (by omega) (fun b10 => ?_) (fun b10 => ?_)
      · have h11 := h9.1 b10
        refine A_iconst (a := 0) (by decide +kernel) (by unfold in32; omega) ?_
        exact A_ret ⟨by decide +kernel, Or.inr ⟨rfl, by decide⟩⟩ ⟨_, rfl, h11⟩
      · have h12 := h9.2 (Decidable.not_not.mp b10)
        refine A_iconst (a := 1) (by decide +kernel) (by unfold in32; omega) ?_
        refine A_goto (off := 4) (tgt := 34) (by decide +kernel) (by omega) ?_
        exact A_ret ⟨by decide +kernel, Or.inr ⟨rfl, by decide⟩⟩ ⟨_, rfl, h12⟩
theorem q_11_layOrder {x1 : Int} {x2 : Int} {x3 : Int} {x4 : Int} {M : Mem} {P : Mem → Prop} (h : A m11_layOrder 2 0 3 [(20, ((59 : Nat) : Int)), (0, x1), (0, x2), (0, x3), (0, x4), (0, 0), (2, 0), (2, 0), (2, 0), (2, 0)] [] M (Kd P)) : CD m11_layOrder 2 [(20, ((59 : Nat) : Int)), (0, x1), (0, x2), (0, x3), (0, x4)] M P := by
  refine CD_of (by decide +kernel) (Nat.le_of_ble_eq_true rfl) ?_
  show A m11_layOrder 2 0 0 [(20, ((59 : Nat) : Int)), (0, x1), (0, x2), (0, x3), (0, x4), (2, 0), (2, 0), (2, 0), (2, 0), (2, 0)] [] M (Kd P)
  refine A_iconst (a := 0) (by decide +kernel) (by unfold in32; omega) ?_
  refine A_istore (i := 5) (by decide +kernel) (by decide) (fun w h0 hw => by simp at hw; first | (rw [← hw]; decide) | (rw [← hw]; simp)) ?_
  exact A_weak (lsub.keep (lsub.keep (lsub.keep (lsub.keep (lsub.keep (lsub.keep (lsub.drop (lsub.drop (lsub.drop (lsub.drop lsub.nil)))))))))) h
theorem r_11_layOrder_3 {x1 : Int} {x2 : Int} {x3 : Int} {x4 : Int} {x5 : Int} {M : Mem} {P : Mem → Prop} (h : ((5 ≤ x5 → A m11_layOrder 2 0 70 [(20, ((59 : Nat) : Int)), (0, x1), (0, x2), (0, x3), (0, x4), (0, x1), (2, 0), (2, 0), (2, 0), (2, 0)] [] M (Kd P)) ∧ (x5 < 5 → A m11_layOrder 2 0 12 [(20, ((59 : Nat) : Int)), (0, x1), (0, x2), (0, x3), (0, x4), (0, x5), (0, 0), (2, 0), (2, 0), (2, 0)] [] M (Kd P)))) : A m11_layOrder 2 0 3 [(20, ((59 : Nat) : Int)), (0, x1), (0, x2), (0, x3), (0, x4), (0, x5), (2, 0), (2, 0), (2, 0), (2, 0)] [] M (Kd P) := by
  refine A_iload (i := 5) (by decide +kernel) rfl ?_
  refine A_iconst (a := 5) (by decide +kernel) (by unfold in32; omega) ?_
  refine A_ic_ge (off := 61) (tgt := 67) (by decide +kernel) (by omega) (fun b1 => ?_) (fun b1 => ?_)
  · have h2 := h.1 b1
    refine A_iload_n (i := 1) (f := 1) rfl (by decide +kernel) rfl ?_
    refine A_istore (i := 5) (by decide +kernel) (by decide) (fun w h0 hw => by simp at hw; first | (rw [← hw]; decide) | (rw [← hw]; simp)) ?_
    exact A_weak (lsub.keep (lsub.keep (lsub.keep (lsub.keep (lsub.keep (lsub.keep (lsub.drop (lsub.drop (lsub.drop (lsub.drop lsub.nil)))))))))) h2
  · have h3 := h.2 (Int.not_le.mp b1)
    refine A_iconst (a := 0) (by decide +kernel) (by unfold in32; omega) ?_
    refine A_istore (i := 6) (by decide +kernel) (by decide) (fun w h0 hw => by simp at hw; first | (rw [← hw]; decide) | (rw [← hw]; simp)) ?_
    exact A_weak (lsub.keep (lsub.keep (lsub.keep (lsub.keep (lsub.keep (lsub.keep (lsub.keep (lsub.drop (lsub.drop (lsub.drop lsub.nil)))))))))) h3
theorem r_11_layOrder_12 {x1 : Int} {x2 : Int} {x3 : Int} {x4 : Int} {x5 : Int} {x6 : Int} {M : Mem} {P : Mem → Prop} (h : ((5 ≤ x6 → A m11_layOrder 2 0 3 [(20, ((59 : Nat) : Int)), (0, x1), (0, x2), (0, x3), (0, x4), (0, (w32 (x5 + 1))), (2, 0), (2, 0), (2, 0), (2, 0)] [] M (Kd P)) ∧ (x6 < 5 → (CI m11_pair 1 [(0, x5), (0, x6)] M (fun r4 M5 => ((0 ≤ r4 ∧ r4 < 25) ∧ (CI m11_pair 1 [(0, x5), (0, x6)] (mset M5 74 (r4).toNat 0) (fun r8 M9 => ((x5 ≠ x6 → ((0 ≤ r8 ∧ r8 < 25) ∧ A m11_layOrder 2 0 12 [(20, ((59 : Nat) : Int)), (0, x1), (0, x2), (0, x3), (0, x4), (0, x5), (0, (w32 (x6 + 1))), (2, 0), (2, 0), (2, 0)] [] (mset M9 75 (r8).toNat 0) (Kd P))) ∧ (x5 = x6 → ((0 ≤ r8 ∧ r8 < 25) ∧ A m11_layOrder 2 0 12 [(20, ((59 : Nat) : Int)), (0, x1), (0, x2), (0, x3), (0, x4), (0, x5), (0, (w32 (x6 + 1))), (2, 0), (2, 0), (2, 0)] [] (mset M9 75 (r8).toNat 1) (Kd P)))))))))))) : A m11_layOrder 2 0 12 [(20, ((59 : Nat) : Int)), (0, x1), (0, x2), (0, x3), (0, x4), (0, x5), (0, x6), (2, 0), (2, 0), (2, 0)] [] M (Kd P) := by
  refine A_iload (i := 6) (by decide +kernel) rfl ?_
  refine A_iconst (a := 5) (by decide +kernel) (by unfold in32; omega) ?_
  refine A_ic_ge (off := 46) (tgt := 61) (by decide +kernel) (by omega) (fun b1 => ?_) (fun b1 => ?_)
  · have h2 := h.1 b1
    refine A_iinc (i := 5) (n := 1) (by decide +kernel) (by decide) rfl (fun w h0 hw => by simp at hw; first | (rw [← hw]; decide) | (rw [← hw]; simp)) ?_
    refine A_goto (off := (-61)) (tgt := 3) (by decide +kernel) (by omega) ?_
    exact A_weak (lsub.keep (lsub.keep (lsub.keep (lsub.keep (lsub.keep (lsub.keep (lsub.drop (lsub.drop (lsub.drop (lsub.drop lsub.nil)))))))))) h2
  · have h3 := h.2 (Int.not_le.mp b1)
    refine A_aload_n (i := 0) (f := 0) (by omega) rfl (by decide +kernel) rfl ?_
    refine B_getr (o' := ((74 : Nat) : Int)) (q := (RX11, TX11, 59)) (ci := 10) (j := 29) (by decide +kernel) rfl (by decide) rfl (by omega) fl_11_57 rfl ?_
    refine A_iload (i := 5) (by decide +kernel) rfl ?_
    refine A_iload (i := 6) (by decide +kernel) rfl ?_
    refine A_cSi (args := [(0, x5), (0, x6)]) (st := [(31, ((74 : Nat) : Int))]) (by decide +kernel) cv_m11_pair st_m11_pair lk_11_242 rfl (by omega) (Nat.le_of_ble_eq_true rfl) h3 (fun r4 M5 _ h6 => ?_)
    refine A_iconst (a := 0) (by decide +kernel) (by unfold in32; omega) ?_
    refine B_zast (M' := (mset M5 74 (r4).toNat 0)) (by decide +kernel) h6.1 (by decide) rfl ?_
    have h7 := h6.2
    refine A_aload_n (i := 0) (f := 0) (by omega) rfl (by decide +kernel) rfl ?_
    refine B_getr (o' := ((75 : Nat) : Int)) (q := (RX11, TX11, 59)) (ci := 10) (j := 30) (by decide +kernel) rfl (by decide) rfl (by omega) fl_11_60 rfl ?_
    refine A_iload (i := 5) (by decide +kernel) rfl ?_
    refine A_iload (i := 6) (by decide +kernel) rfl ?_
    refine A_cSi (args := [(0, x5), (0, x6)]) (st := [(31, ((75 : Nat) : Int))]) (by decide +kernel) cv_m11_pair st_m11_pair lk_11_242 rfl (by omega) (Nat.le_of_ble_eq_true rfl) h7 (fun r8 M9 _ h10 => ?_)
    refine A_iload (i := 5) (by decide +kernel) rfl ?_
    refine A_iload (i := 6) (by decide +kernel) rfl ?_
    refine A_ic_ne (off := 7) (tgt := 53) (by decide +kernel) (by omega) (fun b11 => ?_) (fun b11 => ?_)
    · have h12 := h10.1 b11
      refine A_iconst (a := 0) (by decide +kernel) (by unfold in32; omega) ?_
      refine B_zast (M' := (mset M9 75 (r8).toNat 0)) (by decide +kernel) h12.1 (by decide) rfl ?_
      have h14 := h12.2
      refine A_iinc (i := 6) (n := 1) (by decide +kernel) (by decide) rfl (fun w h0 hw => by simp at hw; first | (rw [← hw]; decide) | (rw [← hw]; simp)) ?_
      refine A_goto (off := (-46)) (tgt := 12) (by decide +kernel) (by omega) ?_
      exact A_weak (lsub.keep (lsub.keep (lsub.keep (lsub.keep (lsub.keep (lsub.keep (lsub.keep (lsub.drop (lsub.drop (lsub.drop lsub.nil)))))))))) h14
    · have h13 := h10.2 (Decidable.not_not.mp b11)
      refine A_iconst (a := 1) (by decide +kernel) (by unfold in32; omega) ?_
      refine A_goto (off := 4) (tgt := 54) (by decide +kernel) (by omega) ?_
      refine B_zast (M' := (mset M9 75 (r8).toNat 1)) (by decide +kernel) h13.1 (by decide) rfl ?_
      have h15 := h13.2
      refine A_iinc (i := 6) (n := 1) (by decide +kernel) (by decide) rfl (fun w h0 hw => by simp at hw; first | (rw [← hw]; decide) | (rw [← hw]; simp)) ?_
      refine A_goto (off := (-46)) (tgt := 12) (by decide +kernel) (by omega) ?_
      exact A_weak (lsub.keep (lsub.keep (lsub.keep (lsub.keep (lsub.keep (lsub.keep (lsub.keep (lsub.drop (lsub.drop (lsub.drop lsub.nil)))))))))) h15
theorem r_11_layOrder_70 {x1 : Int} {x2 : Int} {x3 : Int} {x4 : Int} {x5 : Int} {M : Mem} {P : Mem → Prop} (h : (((w32 (x1 + x2)) ≤ x5 → A m11_layOrder 2 0 183 [(20, ((59 : Nat) : Int)), (2, 0), (2, 0), (0, x3), (2, 0), (0, 0), (2, 0), (2, 0), (2, 0), (2, 0)] [] M (Kd P)) ∧ (x5 < (w32 (x1 + x2)) → (CI m11_isOf 1 [(20, ((59 : Nat) : Int)), (0, x5), (0, x4)] M (fun r4 M5 => ((r4 ≠ 0 → ((0 ≤ x5 ∧ x5 < 72) ∧ (((M5 71 (x5).toNat) ≠ 0 → ((0 ≤ x5 ∧ x5 < 72) ∧ ((0 ≤ x5 ∧ x5 < 72) ∧ (CI m11_pair 1 [(0, (M5 69 (x5).toNat)), (0, (M5 70 (x5).toNat))] M5 (fun r16 M17 => ((0 ≤ r16 ∧ r16 < 25) ∧ ((0 ≤ x5 ∧ x5 < 72) ∧ ((0 ≤ x5 ∧ x5 < 72) ∧ (CI m11_pair 1 [(0, ((mset M17 75 (r16).toNat 1) 70 (x5).toNat)), (0, ((mset M17 75 (r16).toNat 1) 69 (x5).toNat))] (mset M17 75 (r16).toNat 1) (fun r22 M23 => ((0 ≤ r22 ∧ r22 < 25) ∧ A m11_layOrder 2 0 174 [(20, ((59 : Nat) : Int)), (0, x1), (0, x2), (0, x3), (0, x4), (0, x5), (2, 0), (2, 0), (2, 0), (2, 0)] [] (mset M23 75 (r22).toNat 1) (Kd P)))))))))))) ∧ ((M5 71 (x5).toNat) = 0 → ((0 ≤ x5 ∧ x5 < 72) ∧ ((0 ≤ x5 ∧ x5 < 72) ∧ (CI m11_pair 1 [(0, (M5 69 (x5).toNat)), (0, (M5 70 (x5).toNat))] M5 (fun r28 M29 => ((0 ≤ r28 ∧ r28 < 25) ∧ A m11_layOrder 2 0 174 [(20, ((59 : Nat) : Int)), (0, x1), (0, x2), (0, x3), (0, x4), (0, x5), (2, 0), (2, 0), (2, 0), (2, 0)] [] (mset M29 74 (r28).toNat 1) (Kd P)))))))))) ∧ (r4 = 0 → A m11_layOrder 2 0 174 [(20, ((59 : Nat) : Int)), (0, x1), (0, x2), (0, x3), (0, x4), (0, x5), (2, 0), (2, 0), (2, 0), (2, 0)] [] M5 (Kd P)))))))) : A m11_layOrder 2 0 70 [(20, ((59 : Nat) : Int)), (0, x1), (0, x2), (0, x3), (0, x4), (0, x5), (2, 0), (2, 0), (2, 0), (2, 0)] [] M (Kd P) := by
  refine A_iload (i := 5) (by decide +kernel) rfl ?_
  refine A_iload_n (i := 1) (f := 1) rfl (by decide +kernel) rfl ?_
  refine A_iload_n (i := 2) (f := 2) rfl (by decide +kernel) rfl ?_
  refine A_iadd (by decide +kernel) ?_
  refine A_ic_ge (off := 105) (tgt := 180) (by decide +kernel) (by omega) (fun b1 => ?_) (fun b1 => ?_)
  · have h2 := h.1 b1
    refine A_iconst (a := 0) (by decide +kernel) (by unfold in32; omega) ?_
    refine A_istore (i := 5) (by decide +kernel) (by decide) (fun w h0 hw => by simp at hw; first | (rw [← hw]; decide) | (rw [← hw]; simp)) ?_
    exact A_weak (lsub.keep (lsub.drop (lsub.drop (lsub.keep (lsub.drop (lsub.keep (lsub.drop (lsub.drop (lsub.drop (lsub.drop lsub.nil)))))))))) h2
  · have h3 := h.2 (Int.not_le.mp b1)
    refine A_aload_n (i := 0) (f := 0) (by omega) rfl (by decide +kernel) rfl ?_
    refine A_iload (i := 5) (by decide +kernel) rfl ?_
    refine A_iload (i := 4) (by decide +kernel) rfl ?_
    refine A_cVi (q := (RX11, TX11, 59)) (ci := 10) (o := ((59 : Nat) : Int)) (args := [(0, x5), (0, x4)]) (st := []) (by decide +kernel) cv_m11_isOf rfl rfl in_m11_isOf se_m11_isOf lk_11_245 rfl (by omega) (Nat.le_of_ble_eq_true rfl) h3 (fun r4 M5 _ h6 => ?_)
    refine A_if_ne (off := 6) (tgt := 92) (by decide +kernel) (by omega) (fun b7 => ?_) (fun b7 => ?_)
    · have h8 := h6.1 b7
      refine A_aload_n (i := 0) (f := 0) (by omega) rfl (by decide +kernel) rfl ?_
      refine B_getr (o' := ((71 : Nat) : Int)) (q := (RX11, TX11, 59)) (ci := 10) (j := 13) (by decide +kernel) rfl (by decide) rfl (by omega) fl_11_43 rfl ?_
      refine A_iload (i := 5) (by decide +kernel) rfl ?_
      refine B_iald (v := (M5 71 (x5).toNat)) (by decide +kernel) h8.1 rfl ?_
      have h10 := h8.2
      refine A_if_ne (off := 29) (tgt := 128) (by decide +kernel) (by omega) (fun b11 => ?_) (fun b11 => ?_)
      · have h12 := h10.1 b11
        refine A_aload_n (i := 0) (f := 0) (by omega) rfl (by decide +kernel) rfl ?_
        refine B_getr (o' := ((75 : Nat) : Int)) (q := (RX11, TX11, 59)) (ci := 10) (j := 30) (by decide +kernel) rfl (by decide) rfl (by omega) fl_11_60 rfl ?_
        refine A_aload_n (i := 0) (f := 0) (by omega) rfl (by decide +kernel) rfl ?_
        refine B_getr (o' := ((69 : Nat) : Int)) (q := (RX11, TX11, 59)) (ci := 10) (j := 11) (by decide +kernel) rfl (by decide) rfl (by omega) fl_11_37 rfl ?_
        refine A_iload (i := 5) (by decide +kernel) rfl ?_
        refine B_iald (v := (M5 69 (x5).toNat)) (by decide +kernel) h12.1 rfl ?_
        have h14 := h12.2
        refine A_aload_n (i := 0) (f := 0) (by omega) rfl (by decide +kernel) rfl ?_
        refine B_getr (o' := ((70 : Nat) : Int)) (q := (RX11, TX11, 59)) (ci := 10) (j := 12) (by decide +kernel) rfl (by decide) rfl (by omega) fl_11_40 rfl ?_
        refine A_iload (i := 5) (by decide +kernel) rfl ?_
        refine B_iald (v := (M5 70 (x5).toNat)) (by decide +kernel) h14.1 rfl ?_
        have h15 := h14.2
        refine A_cSi (args := [(0, (M5 69 (x5).toNat)), (0, (M5 70 (x5).toNat))]) (st := [(31, ((75 : Nat) : Int))]) (by decide +kernel) cv_m11_pair st_m11_pair lk_11_242 rfl (by omega) (Nat.le_of_ble_eq_true rfl) h15 (fun r16 M17 _ h18 => ?_)
        refine A_iconst (a := 1) (by decide +kernel) (by unfold in32; omega) ?_
        refine B_zast (M' := (mset M17 75 (r16).toNat 1)) (by decide +kernel) h18.1 (by decide) rfl ?_
        have h19 := h18.2
        refine A_aload_n (i := 0) (f := 0) (by omega) rfl (by decide +kernel) rfl ?_
        refine B_getr (o' := ((75 : Nat) : Int)) (q := (RX11, TX11, 59)) (ci := 10) (j := 30) (by decide +kernel) rfl (by decide) rfl (by omega) fl_11_60 rfl ?_
        refine A_aload_n (i := 0) (f := 0) (by omega) rfl (by decide +kernel) rfl ?_
        refine B_getr (o' := ((70 : Nat) : Int)) (q := (RX11, TX11, 59)) (ci := 10) (j := 12) (by decide +kernel) rfl (by decide) rfl (by omega) fl_11_40 rfl ?_
        refine A_iload (i := 5) (by decide +kernel) rfl ?_
        refine B_iald (v := ((mset M17 75 (r16).toNat 1) 70 (x5).toNat)) (by decide +kernel) h19.1 rfl ?_
        have h20 := h19.2
        refine A_aload_n (i := 0) (f := 0) (by omega) rfl (by decide +kernel) rfl ?_
        refine B_getr (o' := ((69 : Nat) : Int)) (q := (RX11, TX11, 59)) (ci := 10) (j := 11) (by decide +kernel) rfl (by decide) rfl (by omega) fl_11_37 rfl ?_
        refine A_iload (i := 5) (by decide +kernel) rfl ?_
        refine B_iald (v := ((mset M17 75 (r16).toNat 1) 69 (x5).toNat)) (by decide +kernel) h20.1 rfl ?_
        have h21 := h20.2
        refine A_cSi (args := [(0, ((mset M17 75 (r16).toNat 1) 70 (x5).toNat)), (0, ((mset M17 75 (r16).toNat 1) 69 (x5).toNat))]) (st := [(31, ((75 : Nat) : Int))]) (by decide +kernel) cv_m11_pair st_m11_pair lk_11_242 rfl (by omega) (Nat.le_of_ble_eq_true rfl) h21 (fun r22 M23 _ h24 => ?_)
        refine A_iconst (a := 1) (by decide +kernel) (by unfold in32; omega) ?_
        refine B_zast (M' := (mset M23 75 (r22).toNat 1)) (by decide +kernel) h24.1 (by decide) rfl ?_
        have h25 := h24.2
        exact A_weak (lsub.keep (lsub.keep (lsub.keep (lsub.keep (lsub.keep (lsub.keep (lsub.drop (lsub.drop (lsub.drop (lsub.drop lsub.nil)))))))))) h25
      · have h13 := h10.2 (Decidable.not_not.mp b11)
        refine A_aload_n (i := 0) (f := 0) (by omega) rfl (by decide +kernel) rfl ?_
        refine B_getr (o' := ((74 : Nat) : Int)) (q := (RX11, TX11, 59)) (ci := 10) (j := 29) (by decide +kernel) rfl (by decide) rfl (by omega) fl_11_57 rfl ?_
        refine A_aload_n (i := 0) (f := 0) (by omega) rfl (by decide +kernel) rfl ?_
        refine B_getr (o' := ((69 : Nat) : Int)) (q := (RX11, TX11, 59)) (ci := 10) (j := 11) (by decide +kernel) rfl (by decide) rfl (by omega) fl_11_37 rfl ?_
        refine A_iload (i := 5) (by decide +kernel) rfl ?_
        refine B_iald (v := (M5 69 (x5).toNat)) (by decide +kernel) h13.1 rfl ?_
        have h26 := h13.2
        refine A_aload_n (i := 0) (f := 0) (by omega) rfl (by decide +kernel) rfl ?_
        refine B_getr (o' := ((70 : Nat) : Int)) (q := (RX11, TX11, 59)) (ci := 10) (j := 12) (by decide +kernel) rfl (by decide) rfl (by omega) fl_11_40 rfl ?_
        refine A_iload (i := 5) (by decide +kernel) rfl ?_
        refine B_iald (v := (M5 70 (x5).toNat)) (by decide +kernel) h26.1 rfl ?_
        have h27 := h26.2
        refine A_cSi (args := [(0, (M5 69 (x5).toNat)), (0, (M5 70 (x5).toNat))]) (st := [(31, ((74 : Nat) : Int))]) (by decide +kernel) cv_m11_pair st_m11_pair lk_11_242 rfl (by omega) (Nat.le_of_ble_eq_true rfl) h27 (fun r28 M29 _ h30 => ?_)
        refine A_iconst (a := 1) (by decide +kernel) (by unfold in32; omega) ?_
        refine B_zast (M' := (mset M29 74 (r28).toNat 1)) (by decide +kernel) h30.1 (by decide) rfl ?_
        have h31 := h30.2
        refine A_goto (off := 49) (tgt := 174) (by decide +kernel) (by omega) ?_
        exact A_weak (lsub.keep (lsub.keep (lsub.keep (lsub.keep (lsub.keep (lsub.keep (lsub.drop (lsub.drop (lsub.drop (lsub.drop lsub.nil)))))))))) h31
    · have h9 := h6.2 (Decidable.not_not.mp b7)
      refine A_goto (off := 85) (tgt := 174) (by decide +kernel) (by omega) ?_
      exact A_weak (lsub.keep (lsub.keep (lsub.keep (lsub.keep (lsub.keep (lsub.keep (lsub.drop (lsub.drop (lsub.drop (lsub.drop lsub.nil)))))))))) h9
theorem r_11_layOrder_174 {x1 : Int} {x2 : Int} {x3 : Int} {x4 : Int} {x5 : Int} {M : Mem} {P : Mem → Prop} (h : A m11_layOrder 2 0 70 [(20, ((59 : Nat) : Int)), (0, x1), (0, x2), (0, x3), (0, x4), (0, (w32 (x5 + 1))), (2, 0), (2, 0), (2, 0), (2, 0)] [] M (Kd P)) : A m11_layOrder 2 0 174 [(20, ((59 : Nat) : Int)), (0, x1), (0, x2), (0, x3), (0, x4), (0, x5), (2, 0), (2, 0), (2, 0), (2, 0)] [] M (Kd P) := by
  refine A_iinc (i := 5) (n := 1) (by decide +kernel) (by decide) rfl (fun w h0 hw => by simp at hw; first | (rw [← hw]; decide) | (rw [← hw]; simp)) ?_
  refine A_goto (off := (-107)) (tgt := 70) (by decide +kernel) (by omega) ?_
  exact A_weak (lsub.keep (lsub.keep (lsub.keep (lsub.keep (lsub.keep (lsub.keep (lsub.drop (lsub.drop (lsub.drop (lsub.drop lsub.nil)))))))))) h
theorem r_11_layOrder_183 {x3 : Int} {x5 : Int} {M : Mem} {P : Mem → Prop} (h : ((x3 ≤ x5 → A m11_layOrder 2 0 271 [(20, ((59 : Nat) : Int)), (2, 0), (2, 0), (0, x3), (2, 0), (0, 1), (2, 0), (2, 0), (2, 0), (2, 0)] [] M (Kd P)) ∧ (x5 < x3 → A m11_layOrder 2 0 192 [(20, ((59 : Nat) : Int)), (2, 0), (2, 0), (0, x3), (2, 0), (0, x5), (0, 0), (2, 0), (2, 0), (2, 0)] [] M (Kd P)))) : A m11_layOrder 2 0 183 [(20, ((59 : Nat) : Int)), (2, 0), (2, 0), (0, x3), (2, 0), (0, x5), (2, 0), (2, 0), (2, 0), (2, 0)] [] M (Kd P) := by
  refine A_iload (i := 5) (by decide +kernel) rfl ?_
  refine A_iload_n (i := 3) (f := 3) rfl (by decide +kernel) rfl ?_
  refine A_ic_ge (off := 82) (tgt := 268) (by decide +kernel) (by omega) (fun b1 => ?_) (fun b1 => ?_)
  · have h2 := h.1 b1
    refine A_iconst (a := 1) (by decide +kernel) (by unfold in32; omega) ?_
    refine A_istore (i := 5) (by decide +kernel) (by decide) (fun w h0 hw => by simp at hw; first | (rw [← hw]; decide) | (rw [← hw]; simp)) ?_
    exact A_weak (lsub.keep (lsub.drop (lsub.drop (lsub.keep (lsub.drop (lsub.keep (lsub.drop (lsub.drop (lsub.drop (lsub.drop lsub.nil)))))))))) h2
  · have h3 := h.2 (Int.not_le.mp b1)
    refine A_iconst (a := 0) (by decide +kernel) (by unfold in32; omega) ?_
    refine A_istore (i := 6) (by decide +kernel) (by decide) (fun w h0 hw => by simp at hw; first | (rw [← hw]; decide) | (rw [← hw]; simp)) ?_
    exact A_weak (lsub.keep (lsub.drop (lsub.drop (lsub.keep (lsub.drop (lsub.keep (lsub.keep (lsub.drop (lsub.drop (lsub.drop lsub.nil)))))))))) h3
theorem r_11_layOrder_192 {x3 : Int} {x5 : Int} {x6 : Int} {M : Mem} {P : Mem → Prop} (h : ((x3 ≤ x6 → A m11_layOrder 2 0 183 [(20, ((59 : Nat) : Int)), (2, 0), (2, 0), (0, x3), (2, 0), (0, (w32 (x5 + 1))), (2, 0), (2, 0), (2, 0), (2, 0)] [] M (Kd P)) ∧ (x6 < x3 → A m11_layOrder 2 0 201 [(20, ((59 : Nat) : Int)), (2, 0), (2, 0), (0, x3), (2, 0), (0, x5), (0, x6), (0, 0), (2, 0), (2, 0)] [] M (Kd P)))) : A m11_layOrder 2 0 192 [(20, ((59 : Nat) : Int)), (2, 0), (2, 0), (0, x3), (2, 0), (0, x5), (0, x6), (2, 0), (2, 0), (2, 0)] [] M (Kd P) := by
  refine A_iload (i := 6) (by decide +kernel) rfl ?_
  refine A_iload_n (i := 3) (f := 3) rfl (by decide +kernel) rfl ?_
  refine A_ic_ge (off := 67) (tgt := 262) (by decide +kernel) (by omega) (fun b1 => ?_) (fun b1 => ?_)
  · have h2 := h.1 b1
    refine A_iinc (i := 5) (n := 1) (by decide +kernel) (by decide) rfl (fun w h0 hw => by simp at hw; first | (rw [← hw]; decide) | (rw [← hw]; simp)) ?_
    refine A_goto (off := (-82)) (tgt := 183) (by decide +kernel) (by omega) ?_
    exact A_weak (lsub.keep (lsub.drop (lsub.drop (lsub.keep (lsub.drop (lsub.keep (lsub.drop (lsub.drop (lsub.drop (lsub.drop lsub.nil)))))))))) h2
  · have h3 := h.2 (Int.not_le.mp b1)
    refine A_iconst (a := 0) (by decide +kernel) (by unfold in32; omega) ?_
    refine A_istore (i := 7) (by decide +kernel) (by decide) (fun w h0 hw => by simp at hw; first | (rw [← hw]; decide) | (rw [← hw]; simp)) ?_
    exact A_weak (lsub.keep (lsub.drop (lsub.drop (lsub.keep (lsub.drop (lsub.keep (lsub.keep (lsub.keep (lsub.drop (lsub.drop lsub.nil)))))))))) h3
theorem r_11_layOrder_201 {x3 : Int} {x5 : Int} {x6 : Int} {x7 : Int} {M : Mem} {P : Mem → Prop} (h : ((x3 ≤ x7 → A m11_layOrder 2 0 192 [(20, ((59 : Nat) : Int)), (2, 0), (2, 0), (0, x3), (2, 0), (0, x5), (0, (w32 (x6 + 1))), (2, 0), (2, 0), (2, 0)] [] M (Kd P)) ∧ (x7 < x3 → (CI m11_pair 1 [(0, x6), (0, x5)] M (fun r4 M5 => ((0 ≤ r4 ∧ r4 < 25) ∧ (((M5 75 (r4).toNat) = 0 → A m11_layOrder 2 0 250 [(20, ((59 : Nat) : Int)), (2, 0), (2, 0), (0, x3), (2, 0), (0, x5), (0, x6), (0, x7), (2, 0), (2, 0)] [] M5 (Kd P)) ∧ ((M5 75 (r4).toNat) ≠ 0 → (CI m11_pair 1 [(0, x5), (0, x7)] M5 (fun r11 M12 => ((0 ≤ r11 ∧ r11 < 25) ∧ (((M12 75 (r11).toNat) = 0 → A m11_layOrder 2 0 250 [(20, ((59 : Nat) : Int)), (2, 0), (2, 0), (0, x3), (2, 0), (0, x5), (0, x6), (0, x7), (2, 0), (2, 0)] [] M12 (Kd P)) ∧ ((M12 75 (r11).toNat) ≠ 0 → (CI m11_pair 1 [(0, x6), (0, x7)] M12 (fun r18 M19 => ((0 ≤ r18 ∧ r18 < 25) ∧ A m11_layOrder 2 0 250 [(20, ((59 : Nat) : Int)), (2, 0), (2, 0), (0, x3), (2, 0), (0, x5), (0, x6), (0, x7), (2, 0), (2, 0)] [] (mset M19 75 (r18).toNat 1) (Kd P))))))))))))))))) : A m11_layOrder 2 0 201 [(20, ((59 : Nat) : Int)), (2, 0), (2, 0), (0, x3), (2, 0), (0, x5), (0, x6), (0, x7), (2, 0), (2, 0)] [] M (Kd P) := by
  refine A_iload (i := 7) (by decide +kernel) rfl ?_
  refine A_iload_n (i := 3) (f := 3) rfl (by decide +kernel) rfl ?_
  refine A_ic_ge (off := 52) (tgt := 256) (by decide +kernel) (by omega) (fun b1 => ?_) (fun b1 => ?_)
  · have h2 := h.1 b1
    refine A_iinc (i := 6) (n := 1) (by decide +kernel) (by decide) rfl (fun w h0 hw => by simp at hw; first | (rw [← hw]; decide) | (rw [← hw]; simp)) ?_
    refine A_goto (off := (-67)) (tgt := 192) (by decide +kernel) (by omega) ?_
    exact A_weak (lsub.keep (lsub.drop (lsub.drop (lsub.keep (lsub.drop (lsub.keep (lsub.keep (lsub.drop (lsub.drop (lsub.drop lsub.nil)))))))))) h2
  · have h3 := h.2 (Int.not_le.mp b1)
    refine A_aload_n (i := 0) (f := 0) (by omega) rfl (by decide +kernel) rfl ?_
    refine B_getr (o' := ((75 : Nat) : Int)) (q := (RX11, TX11, 59)) (ci := 10) (j := 30) (by decide +kernel) rfl (by decide) rfl (by omega) fl_11_60 rfl ?_
    refine A_iload (i := 6) (by decide +kernel) rfl ?_
    refine A_iload (i := 5) (by decide +kernel) rfl ?_
    refine A_cSi (args := [(0, x6), (0, x5)]) (st := [(31, ((75 : Nat) : Int))]) (by decide +kernel) cv_m11_pair st_m11_pair lk_11_242 rfl (by omega) (Nat.le_of_ble_eq_true rfl) h3 (fun r4 M5 _ h6 => ?_)
    refine B_zald (v := (M5 75 (r4).toNat)) (by decide +kernel) h6.1 rfl ?_
    have h7 := h6.2
    refine A_if_eq (off := 31) (tgt := 250) (by decide +kernel) (by omega) (fun b8 => ?_) (fun b8 => ?_)
    · have h9 := h7.1 b8
      exact A_weak (lsub.keep (lsub.drop (lsub.drop (lsub.keep (lsub.drop (lsub.keep (lsub.keep (lsub.keep (lsub.drop (lsub.drop lsub.nil)))))))))) h9
    · have h10 := h7.2 b8
      refine A_aload_n (i := 0) (f := 0) (by omega) rfl (by decide +kernel) rfl ?_
      refine B_getr (o' := ((75 : Nat) : Int)) (q := (RX11, TX11, 59)) (ci := 10) (j := 30) (by decide +kernel) rfl (by decide) rfl (by omega) fl_11_60 rfl ?_
      refine A_iload (i := 5) (by decide +kernel) rfl ?_
      refine A_iload (i := 7) (by decide +kernel) rfl ?_
      refine A_cSi (args := [(0, x5), (0, x7)]) (st := [(31, ((75 : Nat) : Int))]) (by decide +kernel) cv_m11_pair st_m11_pair lk_11_242 rfl (by omega) (Nat.le_of_ble_eq_true rfl) h10 (fun r11 M12 _ h13 => ?_)
      refine B_zald (v := (M12 75 (r11).toNat)) (by decide +kernel) h13.1 rfl ?_
      have h14 := h13.2
      refine A_if_eq (off := 16) (tgt := 250) (by decide +kernel) (by omega) (fun b15 => ?_) (fun b15 => ?_)
      · have h16 := h14.1 b15
        exact A_weak (lsub.keep (lsub.drop (lsub.drop (lsub.keep (lsub.drop (lsub.keep (lsub.keep (lsub.keep (lsub.drop (lsub.drop lsub.nil)))))))))) h16
      · have h17 := h14.2 b15
        refine A_aload_n (i := 0) (f := 0) (by omega) rfl (by decide +kernel) rfl ?_
        refine B_getr (o' := ((75 : Nat) : Int)) (q := (RX11, TX11, 59)) (ci := 10) (j := 30) (by decide +kernel) rfl (by decide) rfl (by omega) fl_11_60 rfl ?_
        refine A_iload (i := 6) (by decide +kernel) rfl ?_
        refine A_iload (i := 7) (by decide +kernel) rfl ?_
        refine A_cSi (args := [(0, x6), (0, x7)]) (st := [(31, ((75 : Nat) : Int))]) (by decide +kernel) cv_m11_pair st_m11_pair lk_11_242 rfl (by omega) (Nat.le_of_ble_eq_true rfl) h17 (fun r18 M19 _ h20 => ?_)
        refine A_iconst (a := 1) (by decide +kernel) (by unfold in32; omega) ?_
        refine B_zast (M' := (mset M19 75 (r18).toNat 1)) (by decide +kernel) h20.1 (by decide) rfl ?_
        have h21 := h20.2
        exact A_weak (lsub.keep (lsub.drop (lsub.drop (lsub.keep (lsub.drop (lsub.keep (lsub.keep (lsub.keep (lsub.drop (lsub.drop lsub.nil)))))))))) h21
theorem r_11_layOrder_250 {x3 : Int} {x5 : Int} {x6 : Int} {x7 : Int} {M : Mem} {P : Mem → Prop} (h : A m11_layOrder 2 0 201 [(20, ((59 : Nat) : Int)), (2, 0), (2, 0), (0, x3), (2, 0), (0, x5), (0, x6), (0, (w32 (x7 + 1))), (2, 0), (2, 0)] [] M (Kd P)) : A m11_layOrder 2 0 250 [(20, ((59 : Nat) : Int)), (2, 0), (2, 0), (0, x3), (2, 0), (0, x5), (0, x6), (0, x7), (2, 0), (2, 0)] [] M (Kd P) := by
  refine A_iinc (i := 7) (n := 1) (by decide +kernel) (by decide) rfl (fun w h0 hw => by simp at hw; first | (rw [← hw]; decide) | (rw [← hw]; simp)) ?_
  refine A_goto (off := (-52)) (tgt := 201) (by decide +kernel) (by omega) ?_
  exact A_weak (lsub.keep (lsub.drop (lsub.drop (lsub.keep (lsub.drop (lsub.keep (lsub.keep (lsub.keep (lsub.drop (lsub.drop lsub.nil)))))))))) h
theorem r_11_layOrder_271 {x3 : Int} {x5 : Int} {M : Mem} {P : Mem → Prop} (h : ((x5 = 0 → (P M)) ∧ (x5 ≠ 0 → A m11_layOrder 2 0 282 [(20, ((59 : Nat) : Int)), (2, 0), (2, 0), (0, x3), (2, 0), (0, 0), (0, 0), (2, 0), (2, 0), (2, 0)] [] M (Kd P)))) : A m11_layOrder 2 0 271 [(20, ((59 : Nat) : Int)), (2, 0), (2, 0), (0, x3), (2, 0), (0, x5), (2, 0), (2, 0), (2, 0), (2, 0)] [] M (Kd P) := by
  refine A_iload (i := 5) (by decide +kernel) rfl ?_
  refine A_if_eq (off := 175) (tgt := 448) (by decide +kernel) (by omega) (fun b1 => ?_) (fun b1 => ?_)
  · have h2 := h.1 b1
    exact A_ret ⟨by decide +kernel, rfl⟩ ⟨rfl, h2⟩
  · have h3 := h.2 b1
    refine A_iconst (a := 0) (by decide +kernel) (by unfold in32; omega) ?_
    refine A_istore (i := 5) (by decide +kernel) (by decide) (fun w h0 hw => by simp at hw; first | (rw [← hw]; decide) | (rw [← hw]; simp)) ?_
    refine A_iconst (a := 0) (by decide +kernel) (by unfold in32; omega) ?_
    refine A_istore (i := 6) (by decide +kernel) (by decide) (fun w h0 hw => by simp at hw; first | (rw [← hw]; decide) | (rw [← hw]; simp)) ?_
    exact A_weak (lsub.keep (lsub.drop (lsub.drop (lsub.keep (lsub.drop (lsub.keep (lsub.keep (lsub.drop (lsub.drop (lsub.drop lsub.nil)))))))))) h3
theorem r_11_layOrder_282 {x3 : Int} {x5 : Int} {x6 : Int} {M : Mem} {P : Mem → Prop} (h : ((x3 ≤ x6 → A m11_layOrder 2 0 271 [(20, ((59 : Nat) : Int)), (2, 0), (2, 0), (0, x3), (2, 0), (0, x5), (2, 0), (2, 0), (2, 0), (2, 0)] [] M (Kd P)) ∧ (x6 < x3 → A m11_layOrder 2 0 291 [(20, ((59 : Nat) : Int)), (2, 0), (2, 0), (0, x3), (2, 0), (0, x5), (0, x6), (0, 0), (2, 0), (2, 0)] [] M (Kd P)))) : A m11_layOrder 2 0 282 [(20, ((59 : Nat) : Int)), (2, 0), (2, 0), (0, x3), (2, 0), (0, x5), (0, x6), (2, 0), (2, 0), (2, 0)] [] M (Kd P) := by
  refine A_iload (i := 6) (by decide +kernel) rfl ?_
  refine A_iload_n (i := 3) (f := 3) rfl (by decide +kernel) rfl ?_
  refine A_ic_ge (off := 160) (tgt := 445) (by decide +kernel) (by omega) (fun b1 => ?_) (fun b1 => ?_)
  · have h2 := h.1 b1
    refine A_goto (off := (-174)) (tgt := 271) (by decide +kernel) (by omega) ?_
    exact A_weak (lsub.keep (lsub.drop (lsub.drop (lsub.keep (lsub.drop (lsub.keep (lsub.drop (lsub.drop (lsub.drop (lsub.drop lsub.nil)))))))))) h2
  · have h3 := h.2 (Int.not_le.mp b1)
    refine A_iconst (a := 0) (by decide +kernel) (by unfold in32; omega) ?_
    refine A_istore (i := 7) (by decide +kernel) (by decide) (fun w h0 hw => by simp at hw; first | (rw [← hw]; decide) | (rw [← hw]; simp)) ?_
    exact A_weak (lsub.keep (lsub.drop (lsub.drop (lsub.keep (lsub.drop (lsub.keep (lsub.keep (lsub.keep (lsub.drop (lsub.drop lsub.nil)))))))))) h3
theorem r_11_layOrder_291 {x3 : Int} {x5 : Int} {x6 : Int} {x7 : Int} {M : Mem} {P : Mem → Prop} (h : ((x3 ≤ x7 → A m11_layOrder 2 0 282 [(20, ((59 : Nat) : Int)), (2, 0), (2, 0), (0, x3), (2, 0), (0, x5), (0, (w32 (x6 + 1))), (2, 0), (2, 0), (2, 0)] [] M (Kd P)) ∧ (x7 < x3 → A m11_layOrder 2 0 300 [(20, ((59 : Nat) : Int)), (2, 0), (2, 0), (0, x3), (2, 0), (0, x5), (0, x6), (0, x7), (0, 0), (2, 0)] [] M (Kd P)))) : A m11_layOrder 2 0 291 [(20, ((59 : Nat) : Int)), (2, 0), (2, 0), (0, x3), (2, 0), (0, x5), (0, x6), (0, x7), (2, 0), (2, 0)] [] M (Kd P) := by
  refine A_iload (i := 7) (by decide +kernel) rfl ?_
  refine A_iload_n (i := 3) (f := 3) rfl (by decide +kernel) rfl ?_
  refine A_ic_ge (off := 145) (tgt := 439) (by decide +kernel) (by omega) (fun b1 => ?_) (fun b1 => ?_)
  · have h2 := h.1 b1
    refine A_iinc (i := 6) (n := 1) (by decide +kernel) (by decide) rfl (fun w h0 hw => by simp at hw; first | (rw [← hw]; decide) | (rw [← hw]; simp)) ?_
    refine A_goto (off := (-160)) (tgt := 282) (by decide +kernel) (by omega) ?_
    exact A_weak (lsub.keep (lsub.drop (lsub.drop (lsub.keep (lsub.drop (lsub.keep (lsub.keep (lsub.drop (lsub.drop (lsub.drop lsub.nil)))))))))) h2
  · have h3 := h.2 (Int.not_le.mp b1)
    refine A_iconst (a := 0) (by decide +kernel) (by unfold in32; omega) ?_
    refine A_istore (i := 8) (by decide +kernel) (by decide) (fun w h0 hw => by simp at hw; first | (rw [← hw]; decide) | (rw [← hw]; simp)) ?_
    exact A_weak (lsub.keep (lsub.drop (lsub.drop (lsub.keep (lsub.drop (lsub.keep (lsub.keep (lsub.keep (lsub.keep (lsub.drop lsub.nil)))))))))) h3
theorem r_11_layOrder_300 {x3 : Int} {x5 : Int} {x6 : Int} {x7 : Int} {x8 : Int} {M : Mem} {P : Mem → Prop} (h : ((x3 ≤ x8 → A m11_layOrder 2 0 291 [(20, ((59 : Nat) : Int)), (2, 0), (2, 0), (0, x3), (2, 0), (0, x5), (0, x6), (0, (w32 (x7 + 1))), (2, 0), (2, 0)] [] M (Kd P)) ∧ (x8 < x3 → (CI m11_pair 1 [(0, x6), (0, x7)] M (fun r4 M5 => ((0 ≤ r4 ∧ r4 < 25) ∧ (((M5 75 (r4).toNat) = 0 → A m11_layOrder 2 0 336 [(20, ((59 : Nat) : Int)), (2, 0), (2, 0), (0, x3), (2, 0), (0, x5), (0, x6), (0, x7), (0, x8), (2, 0)] [] M5 (Kd P)) ∧ ((M5 75 (r4).toNat) ≠ 0 → (CI m11_pair 1 [(0, x7), (0, x8)] M5 (fun r11 M12 => ((0 ≤ r11 ∧ r11 < 25) ∧ (((M12 74 (r11).toNat) ≠ 0 → A m11_layOrder 2 0 381 [(20, ((59 : Nat) : Int)), (2, 0), (2, 0), (0, x3), (2, 0), (0, x5), (0, x6), (0, x7), (0, x8), (2, 0)] [] M12 (Kd P)) ∧ ((M12 74 (r11).toNat) = 0 → A m11_layOrder 2 0 336 [(20, ((59 : Nat) : Int)), (2, 0), (2, 0), (0, x3), (2, 0), (0, x5), (0, x6), (0, x7), (0, x8), (2, 0)] [] M12 (Kd P)))))))))))))) : A m11_layOrder 2 0 300 [(20, ((59 : Nat) : Int)), (2, 0), (2, 0), (0, x3), (2, 0), (0, x5), (0, x6), (0, x7), (0, x8), (2, 0)] [] M (Kd P) := by
  refine A_iload (i := 8) (by decide +kernel) rfl ?_
  refine A_iload_n (i := 3) (f := 3) rfl (by decide +kernel) rfl ?_
  refine A_ic_ge (off := 130) (tgt := 433) (by decide +kernel) (by omega) (fun b1 => ?_) (fun b1 => ?_)
  · have h2 := h.1 b1
    refine A_iinc (i := 7) (n := 1) (by decide +kernel) (by decide) rfl (fun w h0 hw => by simp at hw; first | (rw [← hw]; decide) | (rw [← hw]; simp)) ?_
    refine A_goto (off := (-145)) (tgt := 291) (by decide +kernel) (by omega) ?_
    exact A_weak (lsub.keep (lsub.drop (lsub.drop (lsub.keep (lsub.drop (lsub.keep (lsub.keep (lsub.keep (lsub.drop (lsub.drop lsub.nil)))))))))) h2
  · have h3 := h.2 (Int.not_le.mp b1)
    refine A_aload_n (i := 0) (f := 0) (by omega) rfl (by decide +kernel) rfl ?_
    refine B_getr (o' := ((75 : Nat) : Int)) (q := (RX11, TX11, 59)) (ci := 10) (j := 30) (by decide +kernel) rfl (by decide) rfl (by omega) fl_11_60 rfl ?_
    refine A_iload (i := 6) (by decide +kernel) rfl ?_
    refine A_iload (i := 7) (by decide +kernel) rfl ?_
    refine A_cSi (args := [(0, x6), (0, x7)]) (st := [(31, ((75 : Nat) : Int))]) (by decide +kernel) cv_m11_pair st_m11_pair lk_11_242 rfl (by omega) (Nat.le_of_ble_eq_true rfl) h3 (fun r4 M5 _ h6 => ?_)
    refine B_zald (v := (M5 75 (r4).toNat)) (by decide +kernel) h6.1 rfl ?_
    have h7 := h6.2
    refine A_if_eq (off := 18) (tgt := 336) (by decide +kernel) (by omega) (fun b8 => ?_) (fun b8 => ?_)
    · have h9 := h7.1 b8
      exact A_weak (lsub.keep (lsub.drop (lsub.drop (lsub.keep (lsub.drop (lsub.keep (lsub.keep (lsub.keep (lsub.keep (lsub.drop lsub.nil)))))))))) h9
    · have h10 := h7.2 b8
      refine A_aload_n (i := 0) (f := 0) (by omega) rfl (by decide +kernel) rfl ?_
      refine B_getr (o' := ((74 : Nat) : Int)) (q := (RX11, TX11, 59)) (ci := 10) (j := 29) (by decide +kernel) rfl (by decide) rfl (by omega) fl_11_57 rfl ?_
      refine A_iload (i := 7) (by decide +kernel) rfl ?_
      refine A_iload (i := 8) (by decide +kernel) rfl ?_
      refine A_cSi (args := [(0, x7), (0, x8)]) (st := [(31, ((74 : Nat) : Int))]) (by decide +kernel) cv_m11_pair st_m11_pair lk_11_242 rfl (by omega) (Nat.le_of_ble_eq_true rfl) h10 (fun r11 M12 _ h13 => ?_)
      refine B_zald (v := (M12 74 (r11).toNat)) (by decide +kernel) h13.1 rfl ?_
      have h14 := h13.2
      refine A_if_ne (off := 48) (tgt := 381) (by decide +kernel) (by omega) (fun b15 => ?_) (fun b15 => ?_)
      · have h16 := h14.1 b15
        exact A_weak (lsub.keep (lsub.drop (lsub.drop (lsub.keep (lsub.drop (lsub.keep (lsub.keep (lsub.keep (lsub.keep (lsub.drop lsub.nil)))))))))) h16
      · have h17 := h14.2 (Decidable.not_not.mp b15)
        exact A_weak (lsub.keep (lsub.drop (lsub.drop (lsub.keep (lsub.drop (lsub.keep (lsub.keep (lsub.keep (lsub.keep (lsub.drop lsub.nil)))))))))) h17
theorem r_11_layOrder_336 {x3 : Int} {x5 : Int} {x6 : Int} {x7 : Int} {x8 : Int} {M : Mem} {P : Mem → Prop} (h : (CI m11_pair 1 [(0, x6), (0, x7)] M (fun r1 M2 => ((0 ≤ r1 ∧ r1 < 25) ∧ (((M2 74 (r1).toNat) = 0 → A m11_layOrder 2 0 385 [(20, ((59 : Nat) : Int)), (2, 0), (2, 0), (0, x3), (2, 0), (0, x5), (0, x6), (0, x7), (0, x8), (2, 0)] [] M2 (Kd P)) ∧ ((M2 74 (r1).toNat) ≠ 0 → (CI m11_pair 1 [(0, x7), (0, x8)] M2 (fun r8 M9 => ((0 ≤ r8 ∧ r8 < 25) ∧ (((M9 75 (r8).toNat) ≠ 0 → A m11_layOrder 2 0 381 [(20, ((59 : Nat) : Int)), (2, 0), (2, 0), (0, x3), (2, 0), (0, x5), (0, x6), (0, x7), (0, x8), (2, 0)] [] M9 (Kd P)) ∧ ((M9 75 (r8).toNat) = 0 → (CI m11_pair 1 [(0, x7), (0, x8)] M9 (fun r15 M16 => ((0 ≤ r15 ∧ r15 < 25) ∧ (((M16 74 (r15).toNat) = 0 → A m11_layOrder 2 0 385 [(20, ((59 : Nat) : Int)), (2, 0), (2, 0), (0, x3), (2, 0), (0, x5), (0, x6), (0, x7), (0, x8), (2, 0)] [] M16 (Kd P)) ∧ ((M16 74 (r15).toNat) ≠ 0 → A m11_layOrder 2 0 381 [(20, ((59 : Nat) : Int)), (2, 0), (2, 0), (0, x3), (2, 0), (0, x5), (0, x6), (0, x7), (0, x8), (2, 0)] [] M16 (Kd P))))))))))))))))) : A m11_layOrder 2 0 336 [(20, ((59 : Nat) : Int)), (2, 0), (2, 0), (0, x3), (2, 0), (0, x5), (0, x6), (0, x7), (0, x8), (2, 0)] [] M (Kd P) := by
  refine A_aload_n (i := 0) (f := 0) (by omega) rfl (by decide +kernel) rfl ?_
  refine B_getr (o' := ((74 : Nat) : Int)) (q := (RX11, TX11, 59)) (ci := 10) (j := 29) (by decide +kernel) rfl (by decide) rfl (by omega) fl_11_57 rfl ?_
  refine A_iload (i := 6) (by decide +kernel) rfl ?_
  refine A_iload (i := 7) (by decide +kernel) rfl ?_
  refine A_cSi (args := [(0, x6), (0, x7)]) (st := [(31, ((74 : Nat) : Int))]) (by decide +kernel) cv_m11_pair st_m11_pair lk_11_242 rfl (by omega) (Nat.le_of_ble_eq_true rfl) h (fun r1 M2 _ h3 => ?_)
  refine B_zald (v := (M2 74 (r1).toNat)) (by decide +kernel) h3.1 rfl ?_
  have h4 := h3.2
  refine A_if_eq (off := 37) (tgt := 385) (by decide +kernel) (by omega) (fun b5 => ?_) (fun b5 => ?_)
  · have h6 := h4.1 b5
    exact A_weak (lsub.keep (lsub.drop (lsub.drop (lsub.keep (lsub.drop (lsub.keep (lsub.keep (lsub.keep (lsub.keep (lsub.drop lsub.nil)))))))))) h6
  · have h7 := h4.2 b5
    refine A_aload_n (i := 0) (f := 0) (by omega) rfl (by decide +kernel) rfl ?_
    refine B_getr (o' := ((75 : Nat) : Int)) (q := (RX11, TX11, 59)) (ci := 10) (j := 30) (by decide +kernel) rfl (by decide) rfl (by omega) fl_11_60 rfl ?_
    refine A_iload (i := 7) (by decide +kernel) rfl ?_
    refine A_iload (i := 8) (by decide +kernel) rfl ?_
    refine A_cSi (args := [(0, x7), (0, x8)]) (st := [(31, ((75 : Nat) : Int))]) (by decide +kernel) cv_m11_pair st_m11_pair lk_11_242 rfl (by omega) (Nat.le_of_ble_eq_true rfl) h7 (fun r8 M9 _ h10 => ?_)
    refine B_zald (v := (M9 75 (r8).toNat)) (by decide +kernel) h10.1 rfl ?_
    have h11 := h10.2
    refine A_if_ne (off := 18) (tgt := 381) (by decide +kernel) (by omega) (fun b12 => ?_) (fun b12 => ?_)
    · have h13 := h11.1 b12
      exact A_weak (lsub.keep (lsub.drop (lsub.drop (lsub.keep (lsub.drop (lsub.keep (lsub.keep (lsub.keep (lsub.keep (lsub.drop lsub.nil)))))))))) h13
    · have h14 := h11.2 (Decidable.not_not.mp b12)
      refine A_aload_n (i := 0) (f := 0) (by omega) rfl (by decide +kernel) rfl ?_
      refine B_getr (o' := ((74 : Nat) : Int)) (q := (RX11, TX11, 59)) (ci := 10) (j := 29) (by decide +kernel) rfl (by decide) rfl (by omega) fl_11_57 rfl ?_
      refine A_iload (i := 7) (by decide +kernel) rfl ?_
      refine A_iload (i := 8) (by decide +kernel) rfl ?_
      refine A_cSi (args := [(0, x7), (0, x8)]) (st := [(31, ((74 : Nat) : Int))]) (by decide +kernel) cv_m11_pair st_m11_pair lk_11_242 rfl (by omega) (Nat.le_of_ble_eq_true rfl) h14 (fun r15 M16 _ h17 => ?_)
      refine B_zald (v := (M16 74 (r15).toNat)) (by decide +kernel) h17.1 rfl ?_
      have h18 := h17.2
      refine A_if_eq (off := 7) (tgt := 385) (by decide +kernel) (by omega) (fun b19 => ?_) (fun b19 => ?_)
      · have h20 := h18.1 b19
        exact A_weak (lsub.keep (lsub.drop (lsub.drop (lsub.keep (lsub.drop (lsub.keep (lsub.keep (lsub.keep (lsub.keep (lsub.drop lsub.nil)))))))))) h20
      · have h21 := h18.2 b19
        exact A_weak (lsub.keep (lsub.drop (lsub.drop (lsub.keep (lsub.drop (lsub.keep (lsub.keep (lsub.keep (lsub.keep (lsub.drop lsub.nil)))))))))) h21
theorem r_11_layOrder_381 {x3 : Int} {x5 : Int} {x6 : Int} {x7 : Int} {x8 : Int} {M : Mem} {P : Mem → Prop} (h : (CI m11_pair 1 [(0, x6), (0, x8)] M (fun r1 M2 => ((0 ≤ r1 ∧ r1 < 25) ∧ (((M2 74 (r1).toNat) = 0 → (CI m11_pair 1 [(0, x6), (0, x8)] M2 (fun r8 M9 => ((0 ≤ r8 ∧ r8 < 25) ∧ A m11_layOrder 2 0 427 [(20, ((59 : Nat) : Int)), (2, 0), (2, 0), (0, x3), (2, 0), (0, 1), (0, x6), (0, x7), (0, x8), (2, 0)] [] (mset M9 74 (r8).toNat 1) (Kd P))))) ∧ ((M2 74 (r1).toNat) ≠ 0 → A m11_layOrder 2 0 427 [(20, ((59 : Nat) : Int)), (2, 0), (2, 0), (0, x3), (2, 0), (0, x5), (0, x6), (0, x7), (0, x8), (2, 0)] [] M2 (Kd P))))))) : A m11_layOrder 2 0 381 [(20, ((59 : Nat) : Int)), (2, 0), (2, 0), (0, x3), (2, 0), (0, x5), (0, x6), (0, x7), (0, x8), (2, 0)] [] M (Kd P) := by
  refine A_iconst (a := 1) (by decide +kernel) (by unfold in32; omega) ?_
  refine A_goto (off := 4) (tgt := 386) (by decide +kernel) (by omega) ?_
  refine A_istore (i := 9) (by decide +kernel) (by decide) (fun w h0 hw => by simp at hw; first | (rw [← hw]; decide) | (rw [← hw]; simp)) ?_
  refine A_iload (i := 9) (by decide +kernel) rfl ?_
  refine A_if_eq (off := 37) (tgt := 427) (by decide +kernel) (by omega) (fun hb => absurd hb (by decide)) (fun _ => ?_)
  refine A_aload_n (i := 0) (f := 0) (by omega) rfl (by decide +kernel) rfl ?_
  refine B_getr (o' := ((74 : Nat) : Int)) (q := (RX11, TX11, 59)) (ci := 10) (j := 29) (by decide +kernel) rfl (by decide) rfl (by omega) fl_11_57 rfl ?_
  refine A_iload (i := 6) (by decide +kernel) rfl ?_
  refine A_iload (i := 8) (by decide +kernel) rfl ?_
  refine A_cSi (args := [(0, x6), (0, x8)]) (st := [(31, ((74 : Nat) : Int))]) (by decide +kernel) cv_m11_pair st_m11_pair lk_11_242 rfl (by omega) (Nat.le_of_ble_eq_true rfl) h (fun r1 M2 _ h3 => ?_)
  refine B_zald (v := (M2 74 (r1).toNat)) (by decide +kernel) h3.1 rfl ?_
  have h4 := h3.2
  refine A_if_eq (off := 6) (tgt := 411) (by decide +kernel) (by omega) (fun b5 => ?_) (fun b5 => ?_)
  · have h6 := h4.1 b5
    refine A_aload_n (i := 0) (f := 0) (by omega) rfl (by decide +kernel) rfl ?_
    refine B_getr (o' := ((74 : Nat) : Int)) (q := (RX11, TX11, 59)) (ci := 10) (j := 29) (by decide +kernel) rfl (by decide) rfl (by omega) fl_11_57 rfl ?_
    refine A_iload (i := 6) (by decide +kernel) rfl ?_
    refine A_iload (i := 8) (by decide +kernel) rfl ?_
    refine A_cSi (args := [(0, x6), (0, x8)]) (st := [(31, ((74 : Nat) : Int))]) (by decide +kernel) cv_m11_pair st_m11_pair lk_11_242 rfl (by omega) (Nat.le_of_ble_eq_true rfl) h6 (fun r8 M9 _ h10 => ?_)
    refine A_iconst (a := 1) (by decide +kernel) (by unfold in32; omega) ?_
    refine B_zast (M' := (mset M9 74 (r8).toNat 1)) (by decide +kernel) h10.1 (by decide) rfl ?_
    have h11 := h10.2
    refine A_iconst (a := 1) (by decide +kernel) (by unfold in32; omega) ?_
    refine A_istore (i := 5) (by decide +kernel) (by decide) (fun w h0 hw => by simp at hw; first | (rw [← hw]; decide) | (rw [← hw]; simp)) ?_
    exact A_weak (lsub.keep (lsub.drop (lsub.drop (lsub.keep (lsub.drop (lsub.keep (lsub.keep (lsub.keep (lsub.keep (lsub.drop lsub.nil)))))))))) h11
  · have h7 := h4.2 b5
    refine A_goto (off := 19) (tgt := 427) (by decide +kernel) (by omega) ?_
    exact A_weak (lsub.keep (lsub.drop (lsub.drop (lsub.keep (lsub.drop (lsub.keep (lsub.keep (lsub.keep (lsub.keep (lsub.drop lsub.nil)))))))))) h7
theorem r_11_layOrder_385 {x3 : Int} {x5 : Int} {x6 : Int} {x7 : Int} {x8 : Int} {M : Mem} {P : Mem → Prop} (h : A m11_layOrder 2 0 427 [(20, ((59 : Nat) : Int)), (2, 0), (2, 0), (0, x3), (2, 0), (0, x5), (0, x6), (0, x7), (0, x8), (2, 0)] [] M (Kd P)) : A m11_layOrder 2 0 385 [(20, ((59 : Nat) : Int)), (2, 0), (2, 0), (0, x3), (2, 0), (0, x5), (0, x6), (0, x7), (0, x8), (2, 0)] [] M (Kd P) := by
  refine A_iconst (a := 0) (by decide +kernel) (by unfold in32; omega) ?_
  refine A_istore (i := 9) (by decide +kernel) (by decide) (fun w h0 hw => by simp at hw; first | (rw [← hw]; decide) | (rw [← hw]; simp)) ?_
  refine A_iload (i := 9) (by decide +kernel) rfl ?_
  refine A_if_eq (off := 37) (tgt := 427) (by decide +kernel) (by omega) (fun _ => ?_) (fun hb => absurd (by decide) hb)
  exact A_weak (lsub.keep (lsub.drop (lsub.drop (lsub.keep (lsub.drop (lsub.keep (lsub.keep (lsub.keep (lsub.keep (lsub.drop lsub.nil)))))))))) h
theorem r_11_layOrder_427 {x3 : Int} {x5 : Int} {x6 : Int} {x7 : Int} {x8 : Int} {M : Mem} {P : Mem → Prop} (h : A m11_layOrder 2 0 300 [(20, ((59 : Nat) : Int)), (2, 0), (2, 0), (0, x3), (2, 0), (0, x5), (0, x6), (0, x7), (0, (w32 (x8 + 1))), (2, 0)] [] M (Kd P)) : A m11_layOrder 2 0 427 [(20, ((59 : Nat) : Int)), (2, 0), (2, 0), (0, x3), (2, 0), (0, x5), (0, x6), (0, x7), (0, x8), (2, 0)] [] M (Kd P) := by
  refine A_iinc (i := 8) (n := 1) (by decide +kernel) (by decide) rfl (fun w h0 hw => by simp at hw; first | (rw [← hw]; decide) | (rw [← hw]; simp)) ?_
  refine A_goto (off := (-130)) (tgt := 300) (by decide +kernel) (by omega) ?_
  exact A_weak (lsub.keep (lsub.drop (lsub.drop (lsub.keep (lsub.drop (lsub.keep (lsub.keep (lsub.keep (lsub.keep (lsub.drop lsub.nil)))))))))) h
theorem q_11_isRound {x1 : Int} {x2 : Int} {x3 : Int} {M : Mem} {P : Int → Mem → Prop} (h : A m11_isRound 3 0 3 [(20, ((59 : Nat) : Int)), (0, x1), (0, x2), (0, x3), (0, 0), (2, 0)] [] M (Ki P)) : CI m11_isRound 3 [(20, ((59 : Nat) : Int)), (0, x1), (0, x2), (0, x3)] M P := by
  refine CI_of (by decide +kernel) (Nat.le_of_ble_eq_true rfl) ?_
  show A m11_isRound 3 0 0 [(20, ((59 : Nat) : Int)), (0, x1), (0, x2), (0, x3), (2, 0), (2, 0)] [] M (Ki P)
  refine A_iconst (a := 0) (by decide +kernel) (by unfold in32; omega) ?_
  refine A_istore (i := 4) (by decide +kernel) (by decide) (fun w h0 hw => by simp at hw; first | (rw [← hw]; decide) | (rw [← hw]; simp)) ?_
  exact A_weak (lsub.keep (lsub.keep (lsub.keep (lsub.keep (lsub.keep (lsub.drop lsub.nil)))))) h
theorem r_11_isRound_3 {x1 : Int} {x2 : Int} {x3 : Int} {x4 : Int} {M : Mem} {P : Int → Mem → Prop} (h : ((4 ≤ x4 → (P 0 M)) ∧ (x4 < 4 → (CD m11_layOrder 2 [(20, ((59 : Nat) : Int)), (0, x1), (0, x2), (0, x3), (0, x4)] M (fun M5 => A m11_isRound 3 0 21 [(20, ((59 : Nat) : Int)), (0, x1), (0, x2), (0, x3), (0, x4), (0, 0)] [] M5 (Ki P)))))) : A m11_isRound 3 0 3 [(20, ((59 : Nat) : Int)), (0, x1), (0, x2), (0, x3), (0, x4), (2, 0)] [] M (Ki P) := by
  refine A_iload (i := 4) (by decide +kernel) rfl ?_
  refine A_iconst (a := 4) (by decide +kernel) (by unfold in32; omega) ?_
  refine A_ic_ge (off := 50) (tgt := 56) (by decide +kernel) (by omega) (fun b1 => ?_) (fun b1 => ?_)
  · have h2 := h.1 b1
    refine A_iconst (a := 0) (by decide +kernel) (by unfold in32; omega) ?_
    exact A_ret ⟨by decide +kernel, Or.inr ⟨rfl, by decide⟩⟩ ⟨_, rfl, h2⟩
  · have h3 := h.2 (Int.not_le.mp b1)
    refine A_aload_n (i := 0) (f := 0) (by omega) rfl (by decide +kernel) rfl ?_
    refine A_iload_n (i := 1) (f := 1) rfl (by decide +kernel) rfl ?_
    refine A_iload_n (i := 2) (f := 2) rfl (by decide +kernel) rfl ?_
    refine A_iload_n (i := 3) (f := 3) rfl (by decide +kernel) rfl ?_
    refine A_iload (i := 4) (by decide +kernel) rfl ?_
    refine A_cVd (q := (RX11, TX11, 59)) (ci := 10) (o := ((59 : Nat) : Int)) (args := [(0, x1), (0, x2), (0, x3), (0, x4)]) (st := []) (by decide +kernel) cv_m11_layOrder rfl rfl in_m11_layOrder se_m11_layOrder lk_11_249 rfl (by omega) (Nat.le_of_ble_eq_true rfl) h3 (fun M5 h6 => ?_)
    refine A_iconst (a := 0) (by decide +kernel) (by unfold in32; omega) ?_
    refine A_istore (i := 5) (by decide +kernel) (by decide) (fun w h0 hw => by simp at hw; first | (rw [← hw]; decide) | (rw [← hw]; simp)) ?_
    exact A_weak (lsub.keep (lsub.keep (lsub.keep (lsub.keep (lsub.keep (lsub.keep lsub.nil)))))) h6
theorem r_11_isRound_21 {x1 : Int} {x2 : Int} {x3 : Int} {x4 : Int} {x5 : Int} {M : Mem} {P : Int → Mem → Prop} (h : ((x3 ≤ x5 → A m11_isRound 3 0 3 [(20, ((59 : Nat) : Int)), (0, x1), (0, x2), (0, x3), (0, (w32 (x4 + 1))), (2, 0)] [] M (Ki P)) ∧ (x5 < x3 → (CI m11_pair 1 [(0, x5), (0, x5)] M (fun r4 M5 => ((0 ≤ r4 ∧ r4 < 25) ∧ (((M5 74 (r4).toNat) = 0 → A m11_isRound 3 0 21 [(20, ((59 : Nat) : Int)), (0, x1), (0, x2), (0, x3), (0, x4), (0, (w32 (x5 + 1)))] [] M5 (Ki P)) ∧ ((M5 74 (r4).toNat) ≠ 0 → (P 1 M5))))))))) : A m11_isRound 3 0 21 [(20, ((59 : Nat) : Int)), (0, x1), (0, x2), (0, x3), (0, x4), (0, x5)] [] M (Ki P) := by
  refine A_iload (i := 5) (by decide +kernel) rfl ?_
  refine A_iload_n (i := 3) (f := 3) rfl (by decide +kernel) rfl ?_
  refine A_ic_ge (off := 26) (tgt := 50) (by decide +kernel) (by omega) (fun b1 => ?_) (fun b1 => ?_)
  · have h2 := h.1 b1
    refine A_iinc (i := 4) (n := 1) (by decide +kernel) (by decide) rfl (fun w h0 hw => by simp at hw; first | (rw [← hw]; decide) | (rw [← hw]; simp)) ?_
    refine A_goto (off := (-50)) (tgt := 3) (by decide +kernel) (by omega) ?_
    exact A_weak (lsub.keep (lsub.keep (lsub.keep (lsub.keep (lsub.keep (lsub.drop lsub.nil)))))) h2
  · have h3 := h.2 (Int.not_le.mp b1)
    refine A_aload_n (i := 0) (f := 0) (by omega) rfl (by decide +kernel) rfl ?_
    refine B_getr (o' := ((74 : Nat) : Int)) (q := (RX11, TX11, 59)) (ci := 10) (j := 29) (by decide +kernel) rfl (by decide) rfl (by omega) fl_11_57 rfl ?_
    refine A_iload (i := 5) (by decide +kernel) rfl ?_
    refine A_iload (i := 5) (by decide +kernel) rfl ?_
    refine A_cSi (args := [(0, x5), (0, x5)]) (st := [(31, ((74 : Nat) : Int))]) (by decide +kernel) cv_m11_pair st_m11_pair lk_11_242 rfl (by omega) (Nat.le_of_ble_eq_true rfl) h3 (fun r4 M5 _ h6 => ?_)
    refine B_zald (v := (M5 74 (r4).toNat)) (by decide +kernel) h6.1 rfl ?_
    have h7 := h6.2
    refine A_if_eq (off := 5) (tgt := 44) (by decide +kernel) (by omega) (fun b8 => ?_) (fun b8 => ?_)
    · have h9 := h7.1 b8
      refine A_iinc (i := 5) (n := 1) (by decide +kernel) (by decide) rfl (fun w h0 hw => by simp at hw; first | (rw [← hw]; decide) | (rw [← hw]; simp)) ?_
      refine A_goto (off := (-26)) (tgt := 21) (by decide +kernel) (by omega) ?_
      exact A_weak (lsub.keep (lsub.keep (lsub.keep (lsub.keep (lsub.keep (lsub.keep lsub.nil)))))) h9
    · have h10 := h7.2 b8
      refine A_iconst (a := 1) (by decide +kernel) (by unfold in32; omega) ?_
      exact A_ret ⟨by decide +kernel, Or.inr ⟨rfl, by decide⟩⟩ ⟨_, rfl, h10⟩
