/-! CourtTongue$Rows: its regions (made by wip/whole/gall.py) -/
theorem q_8_wordAt {x0 : Int} {x1 : Int} {M : Mem} {P : Int → Mem → Prop} (h : (P (iand (ishr x0 (w32 (3 * x1))) 7) M)) : CI m8_wordAt 1 [(0, x0), (0, x1)] M P := by
  refine CI_of (by decide +kernel) (Nat.le_of_ble_eq_true rfl) ?_
  show A m8_wordAt 1 0 0 [(0, x0), (0, x1)] [] M (Ki P)
  refine A_iload_n (i := 0) (f := 0) rfl (by decide +kernel) rfl ?_
  refine A_iconst (a := 3) (by decide +kernel) (by unfold in32; omega) ?_
  refine A_iload_n (i := 1) (f := 1) rfl (by decide +kernel) rfl ?_
  refine A_imul (by decide +kernel) ?_
  refine A_ishr (by decide +kernel) ?_
  refine A_bipush (a := 7) (by decide +kernel) (by unfold in32; omega) (by decide +kernel) ?_
  refine A_iand (by decide +kernel) ?_
  exact A_ret ⟨by decide +kernel, Or.inl rfl⟩ ⟨_, rfl, h⟩
theorem q_8_isRow {x0 : Int} {x1 : Int} {M : Mem} {P : Int → Mem → Prop} (h : ((x0 < 0 → (P 0 M)) ∧ (0 ≤ x0 → (((ishr x0 (w32 (3 * x1))) = 0 → A m8_isRow 2 0 18 [(0, x0), (0, x1), (0, 0), (0, 0)] [] M (Ki P)) ∧ ((ishr x0 (w32 (3 * x1))) ≠ 0 → (P 0 M)))))) : CI m8_isRow 2 [(0, x0), (0, x1)] M P := by
  refine CI_of (by decide +kernel) (Nat.le_of_ble_eq_true rfl) ?_
  show A m8_isRow 2 0 0 [(0, x0), (0, x1), (2, 0), (2, 0)] [] M (Ki P)
  refine A_iload_n (i := 0) (f := 0) rfl (by decide +kernel) rfl ?_
  refine A_if_lt (off := 11) (tgt := 12) (by decide +kernel) (by omega) (fun b1 => ?_) (fun b1 => ?_)
  · have h2 := h.1 b1
    refine A_iconst (a := 0) (by decide +kernel) (by unfold in32; omega) ?_
    exact A_ret ⟨by decide +kernel, Or.inr ⟨rfl, by decide⟩⟩ ⟨_, rfl, h2⟩
  · have h3 := h.2 (Int.not_lt.mp b1)
    refine A_iload_n (i := 0) (f := 0) rfl (by decide +kernel) rfl ?_
    refine A_iconst (a := 3) (by decide +kernel) (by unfold in32; omega) ?_
    refine A_iload_n (i := 1) (f := 1) rfl (by decide +kernel) rfl ?_
    refine A_imul (by decide +kernel) ?_
    refine A_ishr (by decide +kernel) ?_
    refine A_if_eq (off := 5) (tgt := 14) (by decide +kernel) (by omega) (fun b4 => ?_) (fun b4 => ?_)
    · have h5 := h3.1 b4
      refine A_iconst (a := 0) (by decide +kernel) (by unfold in32; omega) ?_
      refine A_istore_n (i := 2) (f := 2) rfl (by decide +kernel) (by decide) (fun w h0 hw => by simp at hw; first | (rw [← hw]; decide) | (rw [← hw]; simp)) ?_
      refine A_iconst (a := 0) (by decide +kernel) (by unfold in32; omega) ?_
      refine A_istore_n (i := 3) (f := 3) rfl (by decide +kernel) (by decide) (fun w h0 hw => by simp at hw; first | (rw [← hw]; decide) | (rw [← hw]; simp)) ?_
      exact A_weak (lsub.keep (lsub.keep (lsub.keep (lsub.keep lsub.nil)))) h5
    · have h6 := h3.2 b4
      refine A_iconst (a := 0) (by decide +kernel) (by unfold in32; omega) ?_
      exact A_ret ⟨by decide +kernel, Or.inr ⟨rfl, by decide⟩⟩ ⟨_, rfl, h6⟩
theorem r_8_isRow_18 {x0 : Int} {x1 : Int} {x2 : Int} {x3 : Int} {M : Mem} {P : Int → Mem → Prop} (h : ((x1 ≤ x3 → ((x2 ≠ (w32 ((ishl 1 x1) - 1)) → (P 0 M)) ∧ (x2 = (w32 ((ishl 1 x1) - 1)) → (P 1 M)))) ∧ (x3 < x1 → (CI m8_wordAt 1 [(0, x0), (0, x3)] M (fun r7 M8 => A m8_isRow 2 0 18 [(0, x0), (0, x1), (0, (ior x2 (ishl 1 r7))), (0, (w32 (x3 + 1)))] [] M8 (Ki P)))))) : A m8_isRow 2 0 18 [(0, x0), (0, x1), (0, x2), (0, x3)] [] M (Ki P) := by
  refine A_iload_n (i := 3) (f := 3) rfl (by decide +kernel) rfl ?_
  refine A_iload_n (i := 1) (f := 1) rfl (by decide +kernel) rfl ?_
  refine A_ic_ge (off := 19) (tgt := 39) (by decide +kernel) (by omega) (fun b1 => ?_) (fun b1 => ?_)
  · have h2 := h.1 b1
    refine A_iload_n (i := 2) (f := 2) rfl (by decide +kernel) rfl ?_
    refine A_iconst (a := 1) (by decide +kernel) (by unfold in32; omega) ?_
    refine A_iload_n (i := 1) (f := 1) rfl (by decide +kernel) rfl ?_
    refine A_ishl (by decide +kernel) ?_
    refine A_iconst (a := 1) (by decide +kernel) (by unfold in32; omega) ?_
    refine A_isub (by decide +kernel) ?_
    refine A_ic_ne (off := 7) (tgt := 52) (by decide +kernel) (by omega) (fun b4 => ?_) (fun b4 => ?_)
    · have h5 := h2.1 b4
      refine A_iconst (a := 0) (by decide +kernel) (by unfold in32; omega) ?_
      exact A_ret ⟨by decide +kernel, Or.inr ⟨rfl, by decide⟩⟩ ⟨_, rfl, h5⟩
    · have h6 := h2.2 (Decidable.not_not.mp b4)
      refine A_iconst (a := 1) (by decide +kernel) (by unfold in32; omega) ?_
      refine A_goto (off := 4) (tgt := 53) (by decide +kernel) (by omega) ?_
      exact A_ret ⟨by decide +kernel, Or.inr ⟨rfl, by decide⟩⟩ ⟨_, rfl, h6⟩
  · have h3 := h.2 (Int.not_le.mp b1)
    refine A_iload_n (i := 2) (f := 2) rfl (by decide +kernel) rfl ?_
    refine A_iconst (a := 1) (by decide +kernel) (by unfold in32; omega) ?_
    refine A_iload_n (i := 0) (f := 0) rfl (by decide +kernel) rfl ?_
    refine A_iload_n (i := 3) (f := 3) rfl (by decide +kernel) rfl ?_
    refine A_cSi (args := [(0, x0), (0, x3)]) (st := [(0, 1), (0, x2)]) (by decide +kernel) cv_m8_wordAt st_m8_wordAt lk_8_9 rfl (by omega) (Nat.le_of_ble_eq_true rfl) h3 (fun r7 M8 _ h9 => ?_)
    refine A_ishl (by decide +kernel) ?_
    refine A_ior (by decide +kernel) ?_
    refine A_istore_n (i := 2) (f := 2) rfl (by decide +kernel) (by decide) (fun w h0 hw => by simp at hw; first | (rw [← hw]; decide) | (rw [← hw]; simp)) ?_
    refine A_iinc (i := 3) (n := 1) (by decide +kernel) (by decide) rfl (fun w h0 hw => by simp at hw; first | (rw [← hw]; decide) | (rw [← hw]; simp)) ?_
    refine A_goto (off := (-18)) (tgt := 18) (by decide +kernel) (by omega) ?_
    exact A_weak (lsub.keep (lsub.keep (lsub.keep (lsub.keep lsub.nil)))) h9
theorem q_8_spotOf {x0 : Int} {x1 : Int} {x2 : Int} {M : Mem} {P : Int → Mem → Prop} (h : A m8_spotOf 2 0 2 [(0, x0), (0, x1), (0, x2), (0, 0)] [] M (Ki P)) : CI m8_spotOf 2 [(0, x0), (0, x1), (0, x2)] M P := by
  refine CI_of (by decide +kernel) (Nat.le_of_ble_eq_true rfl) ?_
  show A m8_spotOf 2 0 0 [(0, x0), (0, x1), (0, x2), (2, 0)] [] M (Ki P)
  refine A_iconst (a := 0) (by decide +kernel) (by unfold in32; omega) ?_
  refine A_istore_n (i := 3) (f := 3) rfl (by decide +kernel) (by decide) (fun w h0 hw => by simp at hw; first | (rw [← hw]; decide) | (rw [← hw]; simp)) ?_
  exact A_weak (lsub.keep (lsub.keep (lsub.keep (lsub.keep lsub.nil)))) h
theorem r_8_spotOf_2 {x0 : Int} {x1 : Int} {x2 : Int} {x3 : Int} {M : Mem} {P : Int → Mem → Prop} (h : ((x2 ≤ x3 → (P (-1) M)) ∧ (x3 < x2 → (CI m8_wordAt 1 [(0, x0), (0, x3)] M (fun r4 M5 => ((r4 ≠ x1 → A m8_spotOf 2 0 2 [(0, x0), (0, x1), (0, x2), (0, (w32 (x3 + 1)))] [] M5 (Ki P)) ∧ (r4 = x1 → (P x3 M5)))))))) : A m8_spotOf 2 0 2 [(0, x0), (0, x1), (0, x2), (0, x3)] [] M (Ki P) := by
  refine A_iload_n (i := 3) (f := 3) rfl (by decide +kernel) rfl ?_
  refine A_iload_n (i := 2) (f := 2) rfl (by decide +kernel) rfl ?_
  refine A_ic_ge (off := 20) (tgt := 24) (by decide +kernel) (by omega) (fun b1 => ?_) (fun b1 => ?_)
  · have h2 := h.1 b1
    refine A_iconst (a := (-1)) (by decide +kernel) (by unfold in32; omega) ?_
    exact A_ret ⟨by decide +kernel, Or.inl rfl⟩ ⟨_, rfl, h2⟩
  · have h3 := h.2 (Int.not_le.mp b1)
    refine A_iload_n (i := 0) (f := 0) rfl (by decide +kernel) rfl ?_
    refine A_iload_n (i := 3) (f := 3) rfl (by decide +kernel) rfl ?_
    refine A_cSi (args := [(0, x0), (0, x3)]) (st := []) (by decide +kernel) cv_m8_wordAt st_m8_wordAt lk_8_9 rfl (by omega) (Nat.le_of_ble_eq_true rfl) h3 (fun r4 M5 _ h6 => ?_)
    refine A_iload_n (i := 1) (f := 1) rfl (by decide +kernel) rfl ?_
    refine A_ic_ne (off := 5) (tgt := 18) (by decide +kernel) (by omega) (fun b7 => ?_) (fun b7 => ?_)
    · have h8 := h6.1 b7
      refine A_iinc (i := 3) (n := 1) (by decide +kernel) (by decide) rfl (fun w h0 hw => by simp at hw; first | (rw [← hw]; decide) | (rw [← hw]; simp)) ?_
      refine A_goto (off := (-19)) (tgt := 2) (by decide +kernel) (by omega) ?_
      exact A_weak (lsub.keep (lsub.keep (lsub.keep (lsub.keep lsub.nil)))) h8
    · have h9 := h6.2 (Decidable.not_not.mp b7)
      refine A_iload_n (i := 3) (f := 3) rfl (by decide +kernel) rfl ?_
      exact A_ret ⟨by decide +kernel, Or.inl rfl⟩ ⟨_, rfl, h9⟩
theorem q_8_turned {x0 : Int} {x1 : Int} {x2 : Int} {M : Mem} {P : Int → Mem → Prop} (h : A m8_turned 3 0 5 [(0, x0), (0, x1), (0, x2), (0, 0), (0, 1), (2, 0), (2, 0)] [] M (Ki P)) : CI m8_turned 3 [(0, x0), (0, x1), (0, x2)] M P := by
  refine CI_of (by decide +kernel) (Nat.le_of_ble_eq_true rfl) ?_
  show A m8_turned 3 0 0 [(0, x0), (0, x1), (0, x2), (2, 0), (2, 0), (2, 0), (2, 0)] [] M (Ki P)
  refine A_iconst (a := 0) (by decide +kernel) (by unfold in32; omega) ?_
  refine A_istore_n (i := 3) (f := 3) rfl (by decide +kernel) (by decide) (fun w h0 hw => by simp at hw; first | (rw [← hw]; decide) | (rw [← hw]; simp)) ?_
  refine A_iconst (a := 1) (by decide +kernel) (by unfold in32; omega) ?_
  refine A_istore (i := 4) (by decide +kernel) (by decide) (fun w h0 hw => by simp at hw; first | (rw [← hw]; decide) | (rw [← hw]; simp)) ?_
  exact A_weak (lsub.keep (lsub.keep (lsub.keep (lsub.keep (lsub.keep (lsub.drop (lsub.drop lsub.nil))))))) h
theorem r_8_turned_5 {x0 : Int} {x1 : Int} {x2 : Int} {x3 : Int} {x4 : Int} {M : Mem} {P : Int → Mem → Prop} (h : ((x2 ≤ x4 → (P x3 M)) ∧ (x4 < x2 → (CI m8_wordAt 1 [(0, x1), (0, x4)] M (fun r4 M5 => (CI m8_spotOf 2 [(0, x0), (0, r4), (0, x2)] M5 (fun r7 M8 => A m8_turned 3 0 27 [(0, x0), (0, x1), (0, x2), (0, x3), (0, x4), (0, r7), (0, 0)] [] M8 (Ki P)))))))) : A m8_turned 3 0 5 [(0, x0), (0, x1), (0, x2), (0, x3), (0, x4), (2, 0), (2, 0)] [] M (Ki P) := by
  refine A_iload (i := 4) (by decide +kernel) rfl ?_
  refine A_iload_n (i := 2) (f := 2) rfl (by decide +kernel) rfl ?_
  refine A_ic_ge (off := 57) (tgt := 65) (by decide +kernel) (by omega) (fun b1 => ?_) (fun b1 => ?_)
  · have h2 := h.1 b1
    refine A_iload_n (i := 3) (f := 3) rfl (by decide +kernel) rfl ?_
    exact A_ret ⟨by decide +kernel, Or.inl rfl⟩ ⟨_, rfl, h2⟩
  · have h3 := h.2 (Int.not_le.mp b1)
    refine A_iload_n (i := 0) (f := 0) rfl (by decide +kernel) rfl ?_
    refine A_iload_n (i := 1) (f := 1) rfl (by decide +kernel) rfl ?_
    refine A_iload (i := 4) (by decide +kernel) rfl ?_
    refine A_cSi (args := [(0, x1), (0, x4)]) (st := [(0, x0)]) (by decide +kernel) cv_m8_wordAt st_m8_wordAt lk_8_9 rfl (by omega) (Nat.le_of_ble_eq_true rfl) h3 (fun r4 M5 _ h6 => ?_)
    refine A_iload_n (i := 2) (f := 2) rfl (by decide +kernel) rfl ?_
    refine A_cSi (args := [(0, x0), (0, r4), (0, x2)]) (st := []) (by decide +kernel) cv_m8_spotOf st_m8_spotOf lk_8_15 rfl (by omega) (Nat.le_of_ble_eq_true rfl) h6 (fun r7 M8 _ h9 => ?_)
    refine A_istore (i := 5) (by decide +kernel) (by decide) (fun w h0 hw => by simp at hw; first | (rw [← hw]; decide) | (rw [← hw]; simp)) ?_
    refine A_iconst (a := 0) (by decide +kernel) (by unfold in32; omega) ?_
    refine A_istore (i := 6) (by decide +kernel) (by decide) (fun w h0 hw => by simp at hw; first | (rw [← hw]; decide) | (rw [← hw]; simp)) ?_
    exact A_weak (lsub.keep (lsub.keep (lsub.keep (lsub.keep (lsub.keep (lsub.keep (lsub.keep lsub.nil))))))) h9
theorem r_8_turned_27 {x0 : Int} {x1 : Int} {x2 : Int} {x3 : Int} {x4 : Int} {x5 : Int} {x6 : Int} {M : Mem} {P : Int → Mem → Prop} (h : ((x4 ≤ x6 → A m8_turned 3 0 5 [(0, x0), (0, x1), (0, x2), (0, x3), (0, (w32 (x4 + 1))), (2, 0), (2, 0)] [] M (Ki P)) ∧ (x6 < x4 → (CI m8_wordAt 1 [(0, x1), (0, x6)] M (fun r4 M5 => (CI m8_spotOf 2 [(0, x0), (0, r4), (0, x2)] M5 (fun r7 M8 => ((r7 ≤ x5 → A m8_turned 3 0 27 [(0, x0), (0, x1), (0, x2), (0, x3), (0, x4), (0, x5), (0, (w32 (x6 + 1)))] [] M8 (Ki P)) ∧ (x5 < r7 → A m8_turned 3 0 27 [(0, x0), (0, x1), (0, x2), (0, (w32 (x3 + 1))), (0, x4), (0, x5), (0, (w32 (x6 + 1)))] [] M8 (Ki P)))))))))) : A m8_turned 3 0 27 [(0, x0), (0, x1), (0, x2), (0, x3), (0, x4), (0, x5), (0, x6)] [] M (Ki P) := by
  refine A_iload (i := 6) (by decide +kernel) rfl ?_
  refine A_iload (i := 4) (by decide +kernel) rfl ?_
  refine A_ic_ge (off := 28) (tgt := 59) (by decide +kernel) (by omega) (fun b1 => ?_) (fun b1 => ?_)
  · have h2 := h.1 b1
    refine A_iinc (i := 4) (n := 1) (by decide +kernel) (by decide) rfl (fun w h0 hw => by simp at hw; first | (rw [← hw]; decide) | (rw [← hw]; simp)) ?_
    refine A_goto (off := (-57)) (tgt := 5) (by decide +kernel) (by omega) ?_
    exact A_weak (lsub.keep (lsub.keep (lsub.keep (lsub.keep (lsub.keep (lsub.drop (lsub.drop lsub.nil))))))) h2
  · have h3 := h.2 (Int.not_le.mp b1)
    refine A_iload_n (i := 0) (f := 0) rfl (by decide +kernel) rfl ?_
    refine A_iload_n (i := 1) (f := 1) rfl (by decide +kernel) rfl ?_
    refine A_iload (i := 6) (by decide +kernel) rfl ?_
    refine A_cSi (args := [(0, x1), (0, x6)]) (st := [(0, x0)]) (by decide +kernel) cv_m8_wordAt st_m8_wordAt lk_8_9 rfl (by omega) (Nat.le_of_ble_eq_true rfl) h3 (fun r4 M5 _ h6 => ?_)
    refine A_iload_n (i := 2) (f := 2) rfl (by decide +kernel) rfl ?_
    refine A_cSi (args := [(0, x0), (0, r4), (0, x2)]) (st := []) (by decide +kernel) cv_m8_spotOf st_m8_spotOf lk_8_15 rfl (by omega) (Nat.le_of_ble_eq_true rfl) h6 (fun r7 M8 _ h9 => ?_)
    refine A_iload (i := 5) (by decide +kernel) rfl ?_
    refine A_ic_le (off := 6) (tgt := 53) (by decide +kernel) (by omega) (fun b10 => ?_) (fun b10 => ?_)
    · have h11 := h9.1 b10
      refine A_iinc (i := 6) (n := 1) (by decide +kernel) (by decide) rfl (fun w h0 hw => by simp at hw; first | (rw [← hw]; decide) | (rw [← hw]; simp)) ?_
      refine A_goto (off := (-29)) (tgt := 27) (by decide +kernel) (by omega) ?_
      exact A_weak (lsub.keep (lsub.keep (lsub.keep (lsub.keep (lsub.keep (lsub.keep (lsub.keep lsub.nil))))))) h11
    · have h12 := h9.2 (Int.not_le.mp b10)
      refine A_iinc (i := 3) (n := 1) (by decide +kernel) (by decide) rfl (fun w h0 hw => by simp at hw; first | (rw [← hw]; decide) | (rw [← hw]; simp)) ?_
      refine A_iinc (i := 6) (n := 1) (by decide +kernel) (by decide) rfl (fun w h0 hw => by simp at hw; first | (rw [← hw]; decide) | (rw [← hw]; simp)) ?_
      refine A_goto (off := (-29)) (tgt := 27) (by decide +kernel) (by omega) ?_
      exact A_weak (lsub.keep (lsub.keep (lsub.keep (lsub.keep (lsub.keep (lsub.keep (lsub.keep lsub.nil))))))) h12
theorem q_8_moved {x0 : Int} {x1 : Int} {x2 : Int} {M : Mem} {P : Int → Mem → Prop} (h : A m8_moved 3 0 5 [(0, x0), (0, x1), (0, x2), (0, 0), (0, 0)] [] M (Ki P)) : CI m8_moved 3 [(0, x0), (0, x1), (0, x2)] M P := by
  refine CI_of (by decide +kernel) (Nat.le_of_ble_eq_true rfl) ?_
  show A m8_moved 3 0 0 [(0, x0), (0, x1), (0, x2), (2, 0), (2, 0)] [] M (Ki P)
  refine A_iconst (a := 0) (by decide +kernel) (by unfold in32; omega) ?_
  refine A_istore_n (i := 3) (f := 3) rfl (by decide +kernel) (by decide) (fun w h0 hw => by simp at hw; first | (rw [← hw]; decide) | (rw [← hw]; simp)) ?_
  refine A_iconst (a := 0) (by decide +kernel) (by unfold in32; omega) ?_
  refine A_istore (i := 4) (by decide +kernel) (by decide) (fun w h0 hw => by simp at hw; first | (rw [← hw]; decide) | (rw [← hw]; simp)) ?_
  exact A_weak (lsub.keep (lsub.keep (lsub.keep (lsub.keep (lsub.keep lsub.nil))))) h
theorem r_8_moved_5 {x0 : Int} {x1 : Int} {x2 : Int} {x3 : Int} {x4 : Int} {M : Mem} {P : Int → Mem → Prop} (h : (((ishl 1 x2) ≤ x4 → (P (w32 (x2 - x3)) M)) ∧ (x4 < (ishl 1 x2) → (CI m8_left 2 [(0, x1), (0, x4), (0, x2)] M (fun r4 M5 => (CI m8_left 2 [(0, x0), (0, x4), (0, x2)] M5 (fun r7 M8 => ((r4 ≠ r7 → A m8_moved 3 0 5 [(0, x0), (0, x1), (0, x2), (0, x3), (0, (w32 (x4 + 1)))] [] M8 (Ki P)) ∧ (r4 = r7 → (CI mJ_bitCount 1 [(0, x4)] M8 (fun r13 M14 => A m8_moved 3 0 5 [(0, x0), (0, x1), (0, x2), (0, (if x3 < r13 then r13 else x3)), (0, (w32 (x4 + 1)))] [] M14 (Ki P)))))))))))) : A m8_moved 3 0 5 [(0, x0), (0, x1), (0, x2), (0, x3), (0, x4)] [] M (Ki P) := by
  refine A_iload (i := 4) (by decide +kernel) rfl ?_
  refine A_iconst (a := 1) (by decide +kernel) (by unfold in32; omega) ?_
  refine A_iload_n (i := 2) (f := 2) rfl (by decide +kernel) rfl ?_
  refine A_ishl (by decide +kernel) ?_
  refine A_ic_ge (off := 36) (tgt := 46) (by decide +kernel) (by omega) (fun b1 => ?_) (fun b1 => ?_)
  · have h2 := h.1 b1
    refine A_iload_n (i := 2) (f := 2) rfl (by decide +kernel) rfl ?_
    refine A_iload_n (i := 3) (f := 3) rfl (by decide +kernel) rfl ?_
    refine A_isub (by decide +kernel) ?_
    exact A_ret ⟨by decide +kernel, Or.inl rfl⟩ ⟨_, rfl, h2⟩
  · have h3 := h.2 (Int.not_le.mp b1)
    refine A_iload_n (i := 1) (f := 1) rfl (by decide +kernel) rfl ?_
    refine A_iload (i := 4) (by decide +kernel) rfl ?_
    refine A_iload_n (i := 2) (f := 2) rfl (by decide +kernel) rfl ?_
    refine A_cSi (args := [(0, x1), (0, x4), (0, x2)]) (st := []) (by decide +kernel) cv_m8_left st_m8_left lk_8_19 rfl (by omega) (Nat.le_of_ble_eq_true rfl) h3 (fun r4 M5 _ h6 => ?_)
    refine A_iload_n (i := 0) (f := 0) rfl (by decide +kernel) rfl ?_
    refine A_iload (i := 4) (by decide +kernel) rfl ?_
    refine A_iload_n (i := 2) (f := 2) rfl (by decide +kernel) rfl ?_
    refine A_cSi (args := [(0, x0), (0, x4), (0, x2)]) (st := [(0, r4)]) (by decide +kernel) cv_m8_left st_m8_left lk_8_19 rfl (by omega) (Nat.le_of_ble_eq_true rfl) h6 (fun r7 M8 _ h9 => ?_)
    refine A_ic_ne (off := 13) (tgt := 40) (by decide +kernel) (by omega) (fun b10 => ?_) (fun b10 => ?_)
    · have h11 := h9.1 b10
      refine A_iinc (i := 4) (n := 1) (by decide +kernel) (by decide) rfl (fun w h0 hw => by simp at hw; first | (rw [← hw]; decide) | (rw [← hw]; simp)) ?_
      refine A_goto (off := (-38)) (tgt := 5) (by decide +kernel) (by omega) ?_
      exact A_weak (lsub.keep (lsub.keep (lsub.keep (lsub.keep (lsub.keep lsub.nil))))) h11
    · have h12 := h9.2 (Decidable.not_not.mp b10)
      refine A_iload_n (i := 3) (f := 3) rfl (by decide +kernel) rfl ?_
      refine A_iload (i := 4) (by decide +kernel) rfl ?_
      refine A_cSi (args := [(0, x4)]) (st := [(0, x3)]) (by decide +kernel) cv_mJ_bitCount st_mJ_bitCount lk_8_22 rfl (by omega) (Nat.le_of_ble_eq_true rfl) h12 (fun r13 M14 _ h15 => ?_)
      refine A_max (by decide +kernel) (by omega) (Nat.le_of_ble_eq_true rfl) lk_8_28 jst_max jin_math jcd_max ?_
      refine A_istore_n (i := 3) (f := 3) rfl (by decide +kernel) (by decide) (fun w h0 hw => by simp at hw; first | (rw [← hw]; decide) | (rw [← hw]; simp)) ?_
      refine A_iinc (i := 4) (n := 1) (by decide +kernel) (by decide) rfl (fun w h0 hw => by simp at hw; first | (rw [← hw]; decide) | (rw [← hw]; simp)) ?_
      refine A_goto (off := (-38)) (tgt := 5) (by decide +kernel) (by omega) ?_
      exact A_weak (lsub.keep (lsub.keep (lsub.keep (lsub.keep (lsub.keep lsub.nil))))) h15
theorem q_8_left {x0 : Int} {x1 : Int} {x2 : Int} {M : Mem} {P : Int → Mem → Prop} (h : A m8_left 2 0 8 [(0, x0), (0, x1), (0, x2), (0, 0), (0, 0), (0, 0), (2, 0)] [] M (Ki P)) : CI m8_left 2 [(0, x0), (0, x1), (0, x2)] M P := by
  refine CI_of (by decide +kernel) (Nat.le_of_ble_eq_true rfl) ?_
  show A m8_left 2 0 0 [(0, x0), (0, x1), (0, x2), (2, 0), (2, 0), (2, 0), (2, 0)] [] M (Ki P)
  refine A_iconst (a := 0) (by decide +kernel) (by unfold in32; omega) ?_
  refine A_istore_n (i := 3) (f := 3) rfl (by decide +kernel) (by decide) (fun w h0 hw => by simp at hw; first | (rw [← hw]; decide) | (rw [← hw]; simp)) ?_
  refine A_iconst (a := 0) (by decide +kernel) (by unfold in32; omega) ?_
  refine A_istore (i := 4) (by decide +kernel) (by decide) (fun w h0 hw => by simp at hw; first | (rw [← hw]; decide) | (rw [← hw]; simp)) ?_
  refine A_iconst (a := 0) (by decide +kernel) (by unfold in32; omega) ?_
  refine A_istore (i := 5) (by decide +kernel) (by decide) (fun w h0 hw => by simp at hw; first | (rw [← hw]; decide) | (rw [← hw]; simp)) ?_
  exact A_weak (lsub.keep (lsub.keep (lsub.keep (lsub.keep (lsub.keep (lsub.keep (lsub.drop lsub.nil))))))) h
theorem r_8_left_8 {x0 : Int} {x1 : Int} {x2 : Int} {x3 : Int} {x4 : Int} {x5 : Int} {M : Mem} {P : Int → Mem → Prop} (h : ((x2 ≤ x5 → (P x3 M)) ∧ (x5 < x2 → (CI m8_wordAt 1 [(0, x0), (0, x5)] M (fun r4 M5 => (((iand (ishr x1 r4) 1) ≠ 1 → A m8_left 2 0 8 [(0, x0), (0, x1), (0, x2), (0, x3), (0, x4), (0, (w32 (x5 + 1))), (2, 0)] [] M5 (Ki P)) ∧ ((iand (ishr x1 r4) 1) = 1 → A m8_left 2 0 8 [(0, x0), (0, x1), (0, x2), (0, (ior x3 (ishl r4 (w32 (3 * x4))))), (0, (w32 (x4 + 1))), (0, (w32 (x5 + 1))), (2, 0)] [] M5 (Ki P)))))))) : A m8_left 2 0 8 [(0, x0), (0, x1), (0, x2), (0, x3), (0, x4), (0, x5), (2, 0)] [] M (Ki P) := by
  refine A_iload (i := 5) (by decide +kernel) rfl ?_
  refine A_iload_n (i := 2) (f := 2) rfl (by decide +kernel) rfl ?_
  refine A_ic_ge (off := 40) (tgt := 51) (by decide +kernel) (by omega) (fun b1 => ?_) (fun b1 => ?_)
  · have h2 := h.1 b1
    refine A_iload_n (i := 3) (f := 3) rfl (by decide +kernel) rfl ?_
    exact A_ret ⟨by decide +kernel, Or.inl rfl⟩ ⟨_, rfl, h2⟩
  · have h3 := h.2 (Int.not_le.mp b1)
    refine A_iload_n (i := 0) (f := 0) rfl (by decide +kernel) rfl ?_
    refine A_iload (i := 5) (by decide +kernel) rfl ?_
    refine A_cSi (args := [(0, x0), (0, x5)]) (st := []) (by decide +kernel) cv_m8_wordAt st_m8_wordAt lk_8_9 rfl (by omega) (Nat.le_of_ble_eq_true rfl) h3 (fun r4 M5 _ h6 => ?_)
    refine A_istore (i := 6) (by decide +kernel) (by decide) (fun w h0 hw => by simp at hw; first | (rw [← hw]; decide) | (rw [← hw]; simp)) ?_
    refine A_iload_n (i := 1) (f := 1) rfl (by decide +kernel) rfl ?_
    refine A_iload (i := 6) (by decide +kernel) rfl ?_
    refine A_ishr (by decide +kernel) ?_
    refine A_iconst (a := 1) (by decide +kernel) (by unfold in32; omega) ?_
    refine A_iand (by decide +kernel) ?_
    refine A_iconst (a := 1) (by decide +kernel) (by unfold in32; omega) ?_
    refine A_ic_ne (off := 16) (tgt := 45) (by decide +kernel) (by omega) (fun b7 => ?_) (fun b7 => ?_)
    · have h8 := h6.1 b7
      refine A_iinc (i := 5) (n := 1) (by decide +kernel) (by decide) rfl (fun w h0 hw => by simp at hw; first | (rw [← hw]; decide) | (rw [← hw]; simp)) ?_
      refine A_goto (off := (-40)) (tgt := 8) (by decide +kernel) (by omega) ?_
      exact A_weak (lsub.keep (lsub.keep (lsub.keep (lsub.keep (lsub.keep (lsub.keep (lsub.drop lsub.nil))))))) h8
    · have h9 := h6.2 (Decidable.not_not.mp b7)
      refine A_iload_n (i := 3) (f := 3) rfl (by decide +kernel) rfl ?_
      refine A_iload (i := 6) (by decide +kernel) rfl ?_
      refine A_iconst (a := 3) (by decide +kernel) (by unfold in32; omega) ?_
      refine A_iload (i := 4) (by decide +kernel) rfl ?_
      refine A_imul (by decide +kernel) ?_
      refine A_ishl (by decide +kernel) ?_
      refine A_ior (by decide +kernel) ?_
      refine A_istore_n (i := 3) (f := 3) rfl (by decide +kernel) (by decide) (fun w h0 hw => by simp at hw; first | (rw [← hw]; decide) | (rw [← hw]; simp)) ?_
      refine A_iinc (i := 4) (n := 1) (by decide +kernel) (by decide) rfl (fun w h0 hw => by simp at hw; first | (rw [← hw]; decide) | (rw [← hw]; simp)) ?_
      refine A_iinc (i := 5) (n := 1) (by decide +kernel) (by decide) rfl (fun w h0 hw => by simp at hw; first | (rw [← hw]; decide) | (rw [← hw]; simp)) ?_
      refine A_goto (off := (-40)) (tgt := 8) (by decide +kernel) (by omega) ?_
      exact A_weak (lsub.keep (lsub.keep (lsub.keep (lsub.keep (lsub.keep (lsub.keep (lsub.drop lsub.nil))))))) h9
theorem q_8_countAll {x0 : Int} {M : Mem} {P : Int → Mem → Prop} (h : A m8_countAll 1 0 4 [(0, x0), (0, 1), (0, 2)] [] M (Ki P)) : CI m8_countAll 1 [(0, x0)] M P := by
  refine CI_of (by decide +kernel) (Nat.le_of_ble_eq_true rfl) ?_
  show A m8_countAll 1 0 0 [(0, x0), (2, 0), (2, 0)] [] M (Ki P)
  refine A_iconst (a := 1) (by decide +kernel) (by unfold in32; omega) ?_
  refine A_istore_n (i := 1) (f := 1) rfl (by decide +kernel) (by decide) (fun w h0 hw => by simp at hw; first | (rw [← hw]; decide) | (rw [← hw]; simp)) ?_
  refine A_iconst (a := 2) (by decide +kernel) (by unfold in32; omega) ?_
  refine A_istore_n (i := 2) (f := 2) rfl (by decide +kernel) (by decide) (fun w h0 hw => by simp at hw; first | (rw [← hw]; decide) | (rw [← hw]; simp)) ?_
  exact A_weak (lsub.keep (lsub.keep (lsub.keep lsub.nil))) h
theorem r_8_countAll_4 {x0 : Int} {x1 : Int} {x2 : Int} {M : Mem} {P : Int → Mem → Prop} (h : ((x0 < x2 → (P x1 M)) ∧ (x2 ≤ x0 → A m8_countAll 1 0 4 [(0, x0), (0, (w32 (x1 * x2))), (0, (w32 (x2 + 1)))] [] M (Ki P)))) : A m8_countAll 1 0 4 [(0, x0), (0, x1), (0, x2)] [] M (Ki P) := by
  refine A_iload_n (i := 2) (f := 2) rfl (by decide +kernel) rfl ?_
  refine A_iload_n (i := 0) (f := 0) rfl (by decide +kernel) rfl ?_
  refine A_ic_gt (off := 13) (tgt := 19) (by decide +kernel) (by omega) (fun b1 => ?_) (fun b1 => ?_)
  · have h2 := h.1 b1
    refine A_iload_n (i := 1) (f := 1) rfl (by decide +kernel) rfl ?_
    exact A_ret ⟨by decide +kernel, Or.inl rfl⟩ ⟨_, rfl, h2⟩
  · have h3 := h.2 (Int.not_lt.mp b1)
    refine A_iload_n (i := 1) (f := 1) rfl (by decide +kernel) rfl ?_
    refine A_iload_n (i := 2) (f := 2) rfl (by decide +kernel) rfl ?_
    refine A_imul (by decide +kernel) ?_
    refine A_istore_n (i := 1) (f := 1) rfl (by decide +kernel) (by decide) (fun w h0 hw => by simp at hw; first | (rw [← hw]; decide) | (rw [← hw]; simp)) ?_
    refine A_iinc (i := 2) (n := 1) (by decide +kernel) (by decide) rfl (fun w h0 hw => by simp at hw; first | (rw [← hw]; decide) | (rw [← hw]; simp)) ?_
    refine A_goto (off := (-12)) (tgt := 4) (by decide +kernel) (by omega) ?_
    exact A_weak (lsub.keep (lsub.keep (lsub.keep lsub.nil))) h3
theorem q_8_numbered {x0 : Int} {x1 : Int} {M : Mem} {P : Int → Mem → Prop} (h : A m8_numbered 2 0 10 [(2, 0), (0, x1), (0, 0), (0, 0), (0, x0), (0, 0), (2, 0), (2, 0)] [] M (Ki P)) : CI m8_numbered 2 [(0, x0), (0, x1)] M P := by
  refine CI_of (by decide +kernel) (Nat.le_of_ble_eq_true rfl) ?_
  show A m8_numbered 2 0 0 [(0, x0), (0, x1), (2, 0), (2, 0), (2, 0), (2, 0), (2, 0), (2, 0)] [] M (Ki P)
  refine A_iconst (a := 0) (by decide +kernel) (by unfold in32; omega) ?_
  refine A_istore_n (i := 2) (f := 2) rfl (by decide +kernel) (by decide) (fun w h0 hw => by simp at hw; first | (rw [← hw]; decide) | (rw [← hw]; simp)) ?_
  refine A_iconst (a := 0) (by decide +kernel) (by unfold in32; omega) ?_
  refine A_istore_n (i := 3) (f := 3) rfl (by decide +kernel) (by decide) (fun w h0 hw => by simp at hw; first | (rw [← hw]; decide) | (rw [← hw]; simp)) ?_
  refine A_iload_n (i := 0) (f := 0) rfl (by decide +kernel) rfl ?_
  refine A_istore (i := 4) (by decide +kernel) (by decide) (fun w h0 hw => by simp at hw; first | (rw [← hw]; decide) | (rw [← hw]; simp)) ?_
  refine A_iconst (a := 0) (by decide +kernel) (by unfold in32; omega) ?_
  refine A_istore (i := 5) (by decide +kernel) (by decide) (fun w h0 hw => by simp at hw; first | (rw [← hw]; decide) | (rw [← hw]; simp)) ?_
  exact A_weak (lsub.drop (lsub.keep (lsub.keep (lsub.keep (lsub.keep (lsub.keep (lsub.drop (lsub.drop lsub.nil)))))))) h
theorem r_8_numbered_10 {x1 : Int} {x2 : Int} {x3 : Int} {x4 : Int} {x5 : Int} {M : Mem} {P : Int → Mem → Prop} (h : ((x1 ≤ x5 → (P x2 M)) ∧ (x5 < x1 → (CI m8_countAll 1 [(0, (w32 ((w32 (x1 - 1)) - x5)))] M (fun r4 M5 => ((r4 ≤ 0 → (CI m8_freePart 1 [(0, x3), (0, 0)] M5 (fun r10 M11 => ((r4 ≤ 0 → A m8_numbered 2 0 10 [(2, 0), (0, x1), (0, (ior x2 (ishl r10 (w32 (3 * x5))))), (0, (ior x3 (ishl 1 r10))), (0, 0), (0, (w32 (x5 + 1))), (2, 0), (2, 0)] [] M11 (Ki P)) ∧ (0 < r4 → ((r4 ≠ 0) ∧ A m8_numbered 2 0 10 [(2, 0), (0, x1), (0, (ior x2 (ishl r10 (w32 (3 * x5))))), (0, (ior x3 (ishl 1 r10))), (0, (w32 (Int.tmod x4 r4))), (0, (w32 (x5 + 1))), (2, 0), (2, 0)] [] M11 (Ki P))))))) ∧ (0 < r4 → ((r4 ≠ 0) ∧ (CI m8_freePart 1 [(0, x3), (0, (w32 (Int.tdiv x4 r4)))] M5 (fun r18 M19 => ((r4 ≤ 0 → A m8_numbered 2 0 10 [(2, 0), (0, x1), (0, (ior x2 (ishl r18 (w32 (3 * x5))))), (0, (ior x3 (ishl 1 r18))), (0, 0), (0, (w32 (x5 + 1))), (2, 0), (2, 0)] [] M19 (Ki P)) ∧ (0 < r4 → ((r4 ≠ 0) ∧ A m8_numbered 2 0 10 [(2, 0), (0, x1), (0, (ior x2 (ishl r18 (w32 (3 * x5))))), (0, (ior x3 (ishl 1 r18))), (0, (w32 (Int.tmod x4 r4))), (0, (w32 (x5 + 1))), (2, 0), (2, 0)] [] M19 (Ki P)))))))))))))) : A m8_numbered 2 0 10 [(2, 0), (0, x1), (0, x2), (0, x3), (0, x4), (0, x5), (2, 0), (2, 0)] [] M (Ki P) := by
  refine A_iload (i := 5) (by decide +kernel) rfl ?_
  refine A_iload_n (i := 1) (f := 1) rfl (by decide +kernel) rfl ?_
  refine A_ic_ge (off := 73) (tgt := 86) (by decide +kernel) (by omega) (fun b1 => ?_) (fun b1 => ?_)
  · have h2 := h.1 b1
    refine A_iload_n (i := 2) (f := 2) rfl (by decide +kernel) rfl ?_
    exact A_ret ⟨by decide +kernel, Or.inl rfl⟩ ⟨_, rfl, h2⟩
  · have h3 := h.2 (Int.not_le.mp b1)
    refine A_iload_n (i := 1) (f := 1) rfl (by decide +kernel) rfl ?_
    refine A_iconst (a := 1) (by decide +kernel) (by unfold in32; omega) ?_
    refine A_isub (by decide +kernel) ?_
    refine A_iload (i := 5) (by decide +kernel) rfl ?_
    refine A_isub (by decide +kernel) ?_
    refine A_cSi (args := [(0, (w32 ((w32 (x1 - 1)) - x5)))]) (st := []) (by decide +kernel) cv_m8_countAll st_m8_countAll lk_8_33 rfl (by omega) (Nat.le_of_ble_eq_true rfl) h3 (fun r4 M5 _ h6 => ?_)
    refine A_istore (i := 6) (by decide +kernel) (by decide) (fun w h0 hw => by simp at hw; first | (rw [← hw]; decide) | (rw [← hw]; simp)) ?_
    refine A_iload_n (i := 3) (f := 3) rfl (by decide +kernel) rfl ?_
    refine A_iload (i := 6) (by decide +kernel) rfl ?_
    refine A_if_le (off := 11) (tgt := 41) (by decide +kernel) (by omega) (fun b7 => ?_) (fun b7 => ?_)
    · have h8 := h6.1 b7
      refine A_iconst (a := 0) (by decide +kernel) (by unfold in32; omega) ?_
      refine A_cSi (args := [(0, x3), (0, 0)]) (st := []) (by decide +kernel) cv_m8_freePart st_m8_freePart lk_8_36 rfl (by omega) (Nat.le_of_ble_eq_true rfl) h8 (fun r10 M11 _ h12 => ?_)
      refine A_istore (i := 7) (by decide +kernel) (by decide) (fun w h0 hw => by simp at hw; first | (rw [← hw]; decide) | (rw [← hw]; simp)) ?_
      refine A_iload (i := 6) (by decide +kernel) rfl ?_
      refine A_if_le (off := 11) (tgt := 60) (by decide +kernel) (by omega) (fun b13 => ?_) (fun b13 => ?_)
      · have h14 := h12.1 b13
        refine A_iconst (a := 0) (by decide +kernel) (by unfold in32; omega) ?_
        refine A_istore (i := 4) (by decide +kernel) (by decide) (fun w h0 hw => by simp at hw; first | (rw [← hw]; decide) | (rw [← hw]; simp)) ?_
        refine A_iload_n (i := 3) (f := 3) rfl (by decide +kernel) rfl ?_
        refine A_iconst (a := 1) (by decide +kernel) (by unfold in32; omega) ?_
        refine A_iload (i := 7) (by decide +kernel) rfl ?_
        refine A_ishl (by decide +kernel) ?_
        refine A_ior (by decide +kernel) ?_
        refine A_istore_n (i := 3) (f := 3) rfl (by decide +kernel) (by decide) (fun w h0 hw => by simp at hw; first | (rw [← hw]; decide) | (rw [← hw]; simp)) ?_
        refine A_iload_n (i := 2) (f := 2) rfl (by decide +kernel) rfl ?_
        refine A_iload (i := 7) (by decide +kernel) rfl ?_
        refine A_iconst (a := 3) (by decide +kernel) (by unfold in32; omega) ?_
        refine A_iload (i := 5) (by decide +kernel) rfl ?_
        refine A_imul (by decide +kernel) ?_
        refine A_ishl (by decide +kernel) ?_
        refine A_ior (by decide +kernel) ?_
        refine A_istore_n (i := 2) (f := 2) rfl (by decide +kernel) (by decide) (fun w h0 hw => by simp at hw; first | (rw [← hw]; decide) | (rw [← hw]; simp)) ?_
        refine A_iinc (i := 5) (n := 1) (by decide +kernel) (by decide) rfl (fun w h0 hw => by simp at hw; first | (rw [← hw]; decide) | (rw [← hw]; simp)) ?_
        refine A_goto (off := (-73)) (tgt := 10) (by decide +kernel) (by omega) ?_
        exact A_weak (lsub.drop (lsub.keep (lsub.keep (lsub.keep (lsub.keep (lsub.keep (lsub.drop (lsub.drop lsub.nil)))))))) h14
      · have h15 := h12.2 (Int.not_le.mp b13)
        refine A_iload (i := 4) (by decide +kernel) rfl ?_
        refine A_iload (i := 6) (by decide +kernel) rfl ?_
        refine A_irem (by decide +kernel) h15.1 ?_
        have h16 := h15.2
        refine A_goto (off := 4) (tgt := 61) (by decide +kernel) (by omega) ?_
        refine A_istore (i := 4) (by decide +kernel) (by decide) (fun w h0 hw => by simp at hw; first | (rw [← hw]; decide) | (rw [← hw]; simp)) ?_
        refine A_iload_n (i := 3) (f := 3) rfl (by decide +kernel) rfl ?_
        refine A_iconst (a := 1) (by decide +kernel) (by unfold in32; omega) ?_
        refine A_iload (i := 7) (by decide +kernel) rfl ?_
        refine A_ishl (by decide +kernel) ?_
        refine A_ior (by decide +kernel) ?_
        refine A_istore_n (i := 3) (f := 3) rfl (by decide +kernel) (by decide) (fun w h0 hw => by simp at hw; first | (rw [← hw]; decide) | (rw [← hw]; simp)) ?_
        refine A_iload_n (i := 2) (f := 2) rfl (by decide +kernel) rfl ?_
        refine A_iload (i := 7) (by decide +kernel) rfl ?_
        refine A_iconst (a := 3) (by decide +kernel) (by unfold in32; omega) ?_
        refine A_iload (i := 5) (by decide +kernel) rfl ?_
        refine A_imul (by decide +kernel) ?_
        refine A_ishl (by decide +kernel) ?_
        refine A_ior (by decide +kernel) ?_
        refine A_istore_n (i := 2) (f := 2) rfl (by decide +kernel) (by decide) (fun w h0 hw => by simp at hw; first | (rw [← hw]; decide) | (rw [← hw]; simp)) ?_
        refine A_iinc (i := 5) (n := 1) (by decide +kernel) (by decide) rfl (fun w h0 hw => by simp at hw; first | (rw [← hw]; decide) | (rw [← hw]; simp)) ?_
        refine A_goto (off := (-73)) (tgt := 10) (by decide +kernel) (by omega) ?_
        exact A_weak (lsub.drop (lsub.keep (lsub.keep (lsub.keep (lsub.keep (lsub.keep (lsub.drop (lsub.drop lsub.nil)))))))) h16
    · have h9 := h6.2 (Int.not_le.mp b7)
      refine A_iload (i := 4) (by decide +kernel) rfl ?_
      refine A_iload (i := 6) (by decide +kernel) rfl ?_
      refine A_idiv (by decide +kernel) h9.1 ?_
      have h17 := h9.2
      refine A_goto (off := 4) (tgt := 42) (by decide +kernel) (by omega) ?_
      refine A_cSi (args := [(0, x3), (0, (w32 (Int.tdiv x4 r4)))]) (st := []) (by decide +kernel) cv_m8_freePart st_m8_freePart lk_8_36 rfl (by omega) (Nat.le_of_ble_eq_true rfl) h17 (fun r18 M19 _ h20 => ?_)
      refine A_istore (i := 7) (by decide +kernel) (by decide) (fun w h0 hw => by simp at hw; first | (rw [← hw]; decide) | (rw [← hw]; simp)) ?_
      refine A_iload (i := 6) (by decide +kernel) rfl ?_
      refine A_if_le (off := 11) (tgt := 60) (by decide +kernel) (by omega) (fun b21 => ?_) (fun b21 => ?_)
      · have h22 := h20.1 b21
        refine A_iconst (a := 0) (by decide +kernel) (by unfold in32; omega) ?_
        refine A_istore (i := 4) (by decide +kernel) (by decide) (fun w h0 hw => by simp at hw; first | (rw [← hw]; decide) | (rw [← hw]; simp)) ?_
        refine A_iload_n (i := 3) (f := 3) rfl (by decide +kernel) rfl ?_
        refine A_iconst (a := 1) (by decide +kernel) (by unfold in32; omega) ?_
        refine A_iload (i := 7) (by decide +kernel) rfl ?_
        refine A_ishl (by decide +kernel) ?_
        refine A_ior (by decide +kernel) ?_
        refine A_istore_n (i := 3) (f := 3) rfl (by decide +kernel) (by decide) (fun w h0 hw => by simp at hw; first | (rw [← hw]; decide) | (rw [← hw]; simp)) ?_
        refine A_iload_n (i := 2) (f := 2) rfl (by decide +kernel) rfl ?_
        refine A_iload (i := 7) (by decide +kernel) rfl ?_
        refine A_iconst (a := 3) (by decide +kernel) (by unfold in32; omega) ?_
        refine A_iload (i := 5) (by decide +kernel) rfl ?_
        refine A_imul (by decide +kernel) ?_
        refine A_ishl (by decide +kernel) ?_
        refine A_ior (by decide +kernel) ?_
        refine A_istore_n (i := 2) (f := 2) rfl (by decide +kernel) (by decide) (fun w h0 hw => by simp at hw; first | (rw [← hw]; decide) | (rw [← hw]; simp)) ?_
        refine A_iinc (i := 5) (n := 1) (by decide +kernel) (by decide) rfl (fun w h0 hw => by simp at hw; first | (rw [← hw]; decide) | (rw [← hw]; simp)) ?_
        refine A_goto (off := (-73)) (tgt := 10) (by decide +kernel) (by omega) ?_
        exact A_weak (lsub.drop (lsub.keep (lsub.keep (lsub.keep (lsub.keep (lsub.keep (lsub.drop (lsub.drop lsub.nil)))))))) h22
      · have h23 := h20.2 (Int.not_le.mp b21)
        refine A_iload (i := 4) (by decide +kernel) rfl ?_
        refine A_iload (i := 6) (by decide +kernel) rfl ?_
        refine A_irem (by decide +kernel) h23.1 ?_
        have h24 := h23.2
        refine A_goto (off := 4) (tgt := 61) (by decide +kernel) (by omega) ?_
        refine A_istore (i := 4) (by decide +kernel) (by decide) (fun w h0 hw => by simp at hw; first | (rw [← hw]; decide) | (rw [← hw]; simp)) ?_
        refine A_iload_n (i := 3) (f := 3) rfl (by decide +kernel) rfl ?_
        refine A_iconst (a := 1) (by decide +kernel) (by unfold in32; omega) ?_
        refine A_iload (i := 7) (by decide +kernel) rfl ?_
        refine A_ishl (by decide +kernel) ?_
        refine A_ior (by decide +kernel) ?_
        refine A_istore_n (i := 3) (f := 3) rfl (by decide +kernel) (by decide) (fun w h0 hw => by simp at hw; first | (rw [← hw]; decide) | (rw [← hw]; simp)) ?_
        refine A_iload_n (i := 2) (f := 2) rfl (by decide +kernel) rfl ?_
        refine A_iload (i := 7) (by decide +kernel) rfl ?_
        refine A_iconst (a := 3) (by decide +kernel) (by unfold in32; omega) ?_
        refine A_iload (i := 5) (by decide +kernel) rfl ?_
        refine A_imul (by decide +kernel) ?_
        refine A_ishl (by decide +kernel) ?_
        refine A_ior (by decide +kernel) ?_
        refine A_istore_n (i := 2) (f := 2) rfl (by decide +kernel) (by decide) (fun w h0 hw => by simp at hw; first | (rw [← hw]; decide) | (rw [← hw]; simp)) ?_
        refine A_iinc (i := 5) (n := 1) (by decide +kernel) (by decide) rfl (fun w h0 hw => by simp at hw; first | (rw [← hw]; decide) | (rw [← hw]; simp)) ?_
        refine A_goto (off := (-73)) (tgt := 10) (by decide +kernel) (by omega) ?_
        exact A_weak (lsub.drop (lsub.keep (lsub.keep (lsub.keep (lsub.keep (lsub.keep (lsub.drop (lsub.drop lsub.nil)))))))) h24
theorem q_8_freePart {x0 : Int} {x1 : Int} {M : Mem} {P : Int → Mem → Prop} (h : A m8_freePart 1 0 4 [(0, x0), (0, x1), (0, 0), (0, 0)] [] M (Ki P)) : CI m8_freePart 1 [(0, x0), (0, x1)] M P := by
  refine CI_of (by decide +kernel) (Nat.le_of_ble_eq_true rfl) ?_
  show A m8_freePart 1 0 0 [(0, x0), (0, x1), (2, 0), (2, 0)] [] M (Ki P)
  refine A_iconst (a := 0) (by decide +kernel) (by unfold in32; omega) ?_
  refine A_istore_n (i := 2) (f := 2) rfl (by decide +kernel) (by decide) (fun w h0 hw => by simp at hw; first | (rw [← hw]; decide) | (rw [← hw]; simp)) ?_
  refine A_iconst (a := 0) (by decide +kernel) (by unfold in32; omega) ?_
  refine A_istore_n (i := 3) (f := 3) rfl (by decide +kernel) (by decide) (fun w h0 hw => by simp at hw; first | (rw [← hw]; decide) | (rw [← hw]; simp)) ?_
  exact A_weak (lsub.keep (lsub.keep (lsub.keep (lsub.keep lsub.nil)))) h
theorem r_8_freePart_4 {x0 : Int} {x1 : Int} {x2 : Int} {x3 : Int} {M : Mem} {P : Int → Mem → Prop} (h : ((5 ≤ x3 → (P 0 M)) ∧ (x3 < 5 → (((iand (ishr x0 x3) 1) ≠ 0 → A m8_freePart 1 0 4 [(0, x0), (0, x1), (0, x2), (0, (w32 (x3 + 1)))] [] M (Ki P)) ∧ ((iand (ishr x0 x3) 1) = 0 → ((x2 ≠ x1 → A m8_freePart 1 0 4 [(0, x0), (0, x1), (0, (w32 (x2 + 1))), (0, (w32 (x3 + 1)))] [] M (Ki P)) ∧ (x2 = x1 → (P x3 M)))))))) : A m8_freePart 1 0 4 [(0, x0), (0, x1), (0, x2), (0, x3)] [] M (Ki P) := by
  refine A_iload_n (i := 3) (f := 3) rfl (by decide +kernel) rfl ?_
  refine A_iconst (a := 5) (by decide +kernel) (by unfold in32; omega) ?_
  refine A_ic_ge (off := 27) (tgt := 33) (by decide +kernel) (by omega) (fun b1 => ?_) (fun b1 => ?_)
  · have h2 := h.1 b1
    refine A_iconst (a := 0) (by decide +kernel) (by unfold in32; omega) ?_
    exact A_ret ⟨by decide +kernel, Or.inl rfl⟩ ⟨_, rfl, h2⟩
  · have h3 := h.2 (Int.not_le.mp b1)
    refine A_iload_n (i := 0) (f := 0) rfl (by decide +kernel) rfl ?_
    refine A_iload_n (i := 3) (f := 3) rfl (by decide +kernel) rfl ?_
    refine A_ishr (by decide +kernel) ?_
    refine A_iconst (a := 1) (by decide +kernel) (by unfold in32; omega) ?_
    refine A_iand (by decide +kernel) ?_
    refine A_if_ne (off := 13) (tgt := 27) (by decide +kernel) (by omega) (fun b4 => ?_) (fun b4 => ?_)
    · have h5 := h3.1 b4
      refine A_iinc (i := 3) (n := 1) (by decide +kernel) (by decide) rfl (fun w h0 hw => by simp at hw; first | (rw [← hw]; decide) | (rw [← hw]; simp)) ?_
      refine A_goto (off := (-26)) (tgt := 4) (by decide +kernel) (by omega) ?_
      exact A_weak (lsub.keep (lsub.keep (lsub.keep (lsub.keep lsub.nil)))) h5
    · have h6 := h3.2 (Decidable.not_not.mp b4)
      refine A_iload_n (i := 2) (f := 2) rfl (by decide +kernel) rfl ?_
      refine A_iload_n (i := 1) (f := 1) rfl (by decide +kernel) rfl ?_
      refine A_ic_ne (off := 5) (tgt := 24) (by decide +kernel) (by omega) (fun b7 => ?_) (fun b7 => ?_)
      · have h8 := h6.1 b7
        refine A_iinc (i := 2) (n := 1) (by decide +kernel) (by decide) rfl (fun w h0 hw => by simp at hw; first | (rw [← hw]; decide) | (rw [← hw]; simp)) ?_
        refine A_iinc (i := 3) (n := 1) (by decide +kernel) (by decide) rfl (fun w h0 hw => by simp at hw; first | (rw [← hw]; decide) | (rw [← hw]; simp)) ?_
        refine A_goto (off := (-26)) (tgt := 4) (by decide +kernel) (by omega) ?_
        exact A_weak (lsub.keep (lsub.keep (lsub.keep (lsub.keep lsub.nil)))) h8
      · have h9 := h6.2 (Decidable.not_not.mp b7)
        refine A_iload_n (i := 3) (f := 3) rfl (by decide +kernel) rfl ?_
        exact A_ret ⟨by decide +kernel, Or.inl rfl⟩ ⟨_, rfl, h9⟩
