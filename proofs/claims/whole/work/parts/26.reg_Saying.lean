/-! CourtTongue$Saying: its regions (made by wip/whole/gall.py) -/
theorem q_9_meet {p1 : Nat} {x2 : Int} {x3 : Int} {x4 : Int} {x5 : Int} {M : Mem} {P : Mem → Prop} (h : (CI m10_at 1 [(30, ((p1 + 2 : Nat) : Int)), (0, x3)] M (fun r1 M2 => (CI m10_at 1 [(30, ((p1 + 2 : Nat) : Int)), (0, x2)] M2 (fun r4 M5 => ((r1 ≤ r4 → (CD m10_put 1 [(30, ((40 : Nat) : Int)), (0, 3), (0, 0)] M5 (fun M11 => (CI m10_at 1 [(30, ((p1 + 2 : Nat) : Int)), (0, x4)] M11 (fun r13 M14 => ((r13 ≤ r1 → (CD m10_put 1 [(30, ((40 : Nat) : Int)), (0, 4), (0, 0)] M14 (fun M20 => (CD m10_put 1 [(30, ((40 : Nat) : Int)), (0, 5), (0, x5)] M20 (fun M23 => ((x4 ≠ x3 → (CD m10_put 1 [(30, ((40 : Nat) : Int)), (0, 6), (0, 0)] M23 (fun M29 => (CD m10_put 1 [(30, ((40 : Nat) : Int)), (0, 7), (0, 0)] M29 (fun M32 => (P M32)))))) ∧ (x4 = x3 → (CD m10_put 1 [(30, ((40 : Nat) : Int)), (0, 6), (0, 1)] M23 (fun M35 => (CD m10_put 1 [(30, ((40 : Nat) : Int)), (0, 7), (0, 0)] M35 (fun M38 => (P M38)))))))))))) ∧ (r1 < r13 → (CD m10_put 1 [(30, ((40 : Nat) : Int)), (0, 4), (0, 1)] M14 (fun M41 => (CD m10_put 1 [(30, ((40 : Nat) : Int)), (0, 5), (0, x5)] M41 (fun M44 => ((x4 ≠ x3 → (CD m10_put 1 [(30, ((40 : Nat) : Int)), (0, 6), (0, 0)] M44 (fun M50 => (CD m10_put 1 [(30, ((40 : Nat) : Int)), (0, 7), (0, 0)] M50 (fun M53 => (P M53)))))) ∧ (x4 = x3 → (CD m10_put 1 [(30, ((40 : Nat) : Int)), (0, 6), (0, 1)] M44 (fun M56 => (CD m10_put 1 [(30, ((40 : Nat) : Int)), (0, 7), (0, 0)] M56 (fun M59 => (P M59)))))))))))))))))) ∧ (r4 < r1 → (CD m10_put 1 [(30, ((40 : Nat) : Int)), (0, 3), (0, 1)] M5 (fun M62 => (CI m10_at 1 [(30, ((p1 + 2 : Nat) : Int)), (0, x4)] M62 (fun r64 M65 => ((r64 ≤ r1 → (CD m10_put 1 [(30, ((40 : Nat) : Int)), (0, 4), (0, 0)] M65 (fun M71 => (CD m10_put 1 [(30, ((40 : Nat) : Int)), (0, 5), (0, x5)] M71 (fun M74 => ((x4 ≠ x3 → (CD m10_put 1 [(30, ((40 : Nat) : Int)), (0, 6), (0, 0)] M74 (fun M80 => (CD m10_put 1 [(30, ((40 : Nat) : Int)), (0, 7), (0, 0)] M80 (fun M83 => (P M83)))))) ∧ (x4 = x3 → (CD m10_put 1 [(30, ((40 : Nat) : Int)), (0, 6), (0, 1)] M74 (fun M86 => (CD m10_put 1 [(30, ((40 : Nat) : Int)), (0, 7), (0, 0)] M86 (fun M89 => (P M89)))))))))))) ∧ (r1 < r64 → (CD m10_put 1 [(30, ((40 : Nat) : Int)), (0, 4), (0, 1)] M65 (fun M92 => (CD m10_put 1 [(30, ((40 : Nat) : Int)), (0, 5), (0, x5)] M92 (fun M95 => ((x4 ≠ x3 → (CD m10_put 1 [(30, ((40 : Nat) : Int)), (0, 6), (0, 0)] M95 (fun M101 => (CD m10_put 1 [(30, ((40 : Nat) : Int)), (0, 7), (0, 0)] M101 (fun M104 => (P M104)))))) ∧ (x4 = x3 → (CD m10_put 1 [(30, ((40 : Nat) : Int)), (0, 6), (0, 1)] M95 (fun M107 => (CD m10_put 1 [(30, ((40 : Nat) : Int)), (0, 7), (0, 0)] M107 (fun M110 => (P M110)))))))))))))))))))))))) : CD m9_meet 2 [(18, ((39 : Nat) : Int)), (10, (p1 : Int)), (0, x2), (0, x3), (0, x4), (0, x5)] M P := by
  refine CD_of (by decide +kernel) (Nat.le_of_ble_eq_true rfl) ?_
  show A m9_meet 2 0 0 [(18, ((39 : Nat) : Int)), (10, (p1 : Int)), (0, x2), (0, x3), (0, x4), (0, x5), (2, 0)] [] M (Kd P)
  refine A_aload_n (i := 1) (f := 1) (by omega) rfl (by decide +kernel) rfl ?_
  refine B_getr (o' := ((p1 + 2 : Nat) : Int)) (q := (RX0, TX0, 9)) (ci := 0) (j := 1) (by decide +kernel) rfl (by decide) rfl (by omega) fl_9_22 rfl ?_
  refine A_iload_n (i := 3) (f := 3) rfl (by decide +kernel) rfl ?_
  refine A_cSNi (args := [(30, ((p1 + 2 : Nat) : Int)), (0, x3)]) (st := []) (by decide +kernel) cv_m10_at st_m10_at lk_9_27 rfl (by omega) (Nat.le_of_ble_eq_true rfl) h (fun r1 M2 _ h3 => ?_)
  refine A_istore (i := 6) (by decide +kernel) (by decide) (fun w h0 hw => by simp at hw; first | (rw [← hw]; decide) | (rw [← hw]; simp)) ?_
  refine A_aload_n (i := 0) (f := 0) (by omega) rfl (by decide +kernel) rfl ?_
  refine B_getr (o' := ((40 : Nat) : Int)) (q := (RX9, TX9, 3)) (ci := 8) (j := 0) (by decide +kernel) rfl (by decide) rfl (by omega) fl_9_9 rfl ?_
  refine A_iconst (a := 3) (by decide +kernel) (by unfold in32; omega) ?_
  refine A_iload (i := 6) (by decide +kernel) rfl ?_
  refine A_aload_n (i := 1) (f := 1) (by omega) rfl (by decide +kernel) rfl ?_
  refine B_getr (o' := ((p1 + 2 : Nat) : Int)) (q := (RX0, TX0, 9)) (ci := 0) (j := 1) (by decide +kernel) rfl (by decide) rfl (by omega) fl_9_22 rfl ?_
  refine A_iload_n (i := 2) (f := 2) rfl (by decide +kernel) rfl ?_
  refine A_cSNi (args := [(30, ((p1 + 2 : Nat) : Int)), (0, x2)]) (st := [(0, r1), (0, 3), (30, ((40 : Nat) : Int))]) (by decide +kernel) cv_m10_at st_m10_at lk_9_27 rfl (by omega) (Nat.le_of_ble_eq_true rfl) h3 (fun r4 M5 _ h6 => ?_)
  refine A_ic_le (off := 7) (tgt := 32) (by decide +kernel) (by omega) (fun b7 => ?_) (fun b7 => ?_)
  · have h8 := h6.1 b7
    refine A_iconst (a := 0) (by decide +kernel) (by unfold in32; omega) ?_
    refine A_cSNd (args := [(30, ((40 : Nat) : Int)), (0, 3), (0, 0)]) (st := []) (by decide +kernel) cv_m10_put st_m10_put lk_9_31 rfl (by omega) (Nat.le_of_ble_eq_true rfl) h8 (fun M11 h12 => ?_)
    refine A_aload_n (i := 0) (f := 0) (by omega) rfl (by decide +kernel) rfl ?_
    refine B_getr (o' := ((40 : Nat) : Int)) (q := (RX9, TX9, 3)) (ci := 8) (j := 0) (by decide +kernel) rfl (by decide) rfl (by omega) fl_9_9 rfl ?_
    refine A_iconst (a := 4) (by decide +kernel) (by unfold in32; omega) ?_
    refine A_aload_n (i := 1) (f := 1) (by omega) rfl (by decide +kernel) rfl ?_
    refine B_getr (o' := ((p1 + 2 : Nat) : Int)) (q := (RX0, TX0, 9)) (ci := 0) (j := 1) (by decide +kernel) rfl (by decide) rfl (by omega) fl_9_22 rfl ?_
    refine A_iload (i := 4) (by decide +kernel) rfl ?_
    refine A_cSNi (args := [(30, ((p1 + 2 : Nat) : Int)), (0, x4)]) (st := [(0, 4), (30, ((40 : Nat) : Int))]) (by decide +kernel) cv_m10_at st_m10_at lk_9_27 rfl (by omega) (Nat.le_of_ble_eq_true rfl) h12 (fun r13 M14 _ h15 => ?_)
    refine A_iload (i := 6) (by decide +kernel) rfl ?_
    refine A_ic_le (off := 7) (tgt := 59) (by decide +kernel) (by omega) (fun b16 => ?_) (fun b16 => ?_)
    · have h17 := h15.1 b16
      refine A_iconst (a := 0) (by decide +kernel) (by unfold in32; omega) ?_
      refine A_cSNd (args := [(30, ((40 : Nat) : Int)), (0, 4), (0, 0)]) (st := []) (by decide +kernel) cv_m10_put st_m10_put lk_9_31 rfl (by omega) (Nat.le_of_ble_eq_true rfl) h17 (fun M20 h21 => ?_)
      refine A_aload_n (i := 0) (f := 0) (by omega) rfl (by decide +kernel) rfl ?_
      refine B_getr (o' := ((40 : Nat) : Int)) (q := (RX9, TX9, 3)) (ci := 8) (j := 0) (by decide +kernel) rfl (by decide) rfl (by omega) fl_9_9 rfl ?_
      refine A_iconst (a := 5) (by decide +kernel) (by unfold in32; omega) ?_
      refine A_iload (i := 5) (by decide +kernel) rfl ?_
      refine A_cSNd (args := [(30, ((40 : Nat) : Int)), (0, 5), (0, x5)]) (st := []) (by decide +kernel) cv_m10_put st_m10_put lk_9_31 rfl (by omega) (Nat.le_of_ble_eq_true rfl) h21 (fun M23 h24 => ?_)
      refine A_aload_n (i := 0) (f := 0) (by omega) rfl (by decide +kernel) rfl ?_
      refine B_getr (o' := ((40 : Nat) : Int)) (q := (RX9, TX9, 3)) (ci := 8) (j := 0) (by decide +kernel) rfl (by decide) rfl (by omega) fl_9_9 rfl ?_
      refine A_bipush (a := 6) (by decide +kernel) (by unfold in32; omega) (by decide +kernel) ?_
      refine A_iload (i := 4) (by decide +kernel) rfl ?_
      refine A_iload_n (i := 3) (f := 3) rfl (by decide +kernel) rfl ?_
      refine A_ic_ne (off := 7) (tgt := 89) (by decide +kernel) (by omega) (fun b25 => ?_) (fun b25 => ?_)
      · have h26 := h24.1 b25
        refine A_iconst (a := 0) (by decide +kernel) (by unfold in32; omega) ?_
        refine A_cSNd (args := [(30, ((40 : Nat) : Int)), (0, 6), (0, 0)]) (st := []) (by decide +kernel) cv_m10_put st_m10_put lk_9_31 rfl (by omega) (Nat.le_of_ble_eq_true rfl) h26 (fun M29 h30 => ?_)
        refine A_aload_n (i := 0) (f := 0) (by omega) rfl (by decide +kernel) rfl ?_
        refine B_getr (o' := ((40 : Nat) : Int)) (q := (RX9, TX9, 3)) (ci := 8) (j := 0) (by decide +kernel) rfl (by decide) rfl (by omega) fl_9_9 rfl ?_
        refine A_bipush (a := 7) (by decide +kernel) (by unfold in32; omega) (by decide +kernel) ?_
        refine A_iconst (a := 0) (by decide +kernel) (by unfold in32; omega) ?_
        refine A_cSNd (args := [(30, ((40 : Nat) : Int)), (0, 7), (0, 0)]) (st := []) (by decide +kernel) cv_m10_put st_m10_put lk_9_31 rfl (by omega) (Nat.le_of_ble_eq_true rfl) h30 (fun M32 h33 => ?_)
        exact A_ret ⟨by decide +kernel, rfl⟩ ⟨rfl, h33⟩
      · have h27 := h24.2 (Decidable.not_not.mp b25)
        refine A_iconst (a := 1) (by decide +kernel) (by unfold in32; omega) ?_
        refine A_goto (off := 4) (tgt := 90) (by decide +kernel) (by omega) ?_
        refine A_cSNd (args := [(30, ((40 : Nat) : Int)), (0, 6), (0, 1)]) (st := []) (by decide +kernel) cv_m10_put st_m10_put lk_9_31 rfl (by omega) (Nat.le_of_ble_eq_true rfl) h27 (fun M35 h36 => ?_)
        refine A_aload_n (i := 0) (f := 0) (by omega) rfl (by decide +kernel) rfl ?_
        refine B_getr (o' := ((40 : Nat) : Int)) (q := (RX9, TX9, 3)) (ci := 8) (j := 0) (by decide +kernel) rfl (by decide) rfl (by omega) fl_9_9 rfl ?_
        refine A_bipush (a := 7) (by decide +kernel) (by unfold in32; omega) (by decide +kernel) ?_
        refine A_iconst (a := 0) (by decide +kernel) (by unfold in32; omega) ?_
        refine A_cSNd (args := [(30, ((40 : Nat) : Int)), (0, 7), (0, 0)]) (st := []) (by decide +kernel) cv_m10_put st_m10_put lk_9_31 rfl (by omega) (Nat.le_of_ble_eq_true rfl) h36 (fun M38 h39 => ?_)
        exact A_ret ⟨by decide +kernel, rfl⟩ ⟨rfl, h39⟩
    · have h18 := h15.2 (Int.not_le.mp b16)
      refine A_iconst (a := 1) (by decide +kernel) (by unfold in32; omega) ?_
      refine A_goto (off := 4) (tgt := 60) (by decide +kernel) (by omega) ?_
      refine A_cSNd (args := [(30, ((40 : Nat) : Int)), (0, 4), (0, 1)]) (st := []) (by decide +kernel) cv_m10_put st_m10_put lk_9_31 rfl (by omega) (Nat.le_of_ble_eq_true rfl) h18 (fun M41 h42 => ?_)
      refine A_aload_n (i := 0) (f := 0) (by omega) rfl (by decide +kernel) rfl ?_
      refine B_getr (o' := ((40 : Nat) : Int)) (q := (RX9, TX9, 3)) (ci := 8) (j := 0) (by decide +kernel) rfl (by decide) rfl (by omega) fl_9_9 rfl ?_
      refine A_iconst (a := 5) (by decide +kernel) (by unfold in32; omega) ?_
      refine A_iload (i := 5) (by decide +kernel) rfl ?_
      refine A_cSNd (args := [(30, ((40 : Nat) : Int)), (0, 5), (0, x5)]) (st := []) (by decide +kernel) cv_m10_put st_m10_put lk_9_31 rfl (by omega) (Nat.le_of_ble_eq_true rfl) h42 (fun M44 h45 => ?_)
      refine A_aload_n (i := 0) (f := 0) (by omega) rfl (by decide +kernel) rfl ?_
      refine B_getr (o' := ((40 : Nat) : Int)) (q := (RX9, TX9, 3)) (ci := 8) (j := 0) (by decide +kernel) rfl (by decide) rfl (by omega) fl_9_9 rfl ?_
      refine A_bipush (a := 6) (by decide +kernel) (by unfold in32; omega) (by decide +kernel) ?_
      refine A_iload (i := 4) (by decide +kernel) rfl ?_
      refine A_iload_n (i := 3) (f := 3) rfl (by decide +kernel) rfl ?_
      refine A_ic_ne (off := 7) (tgt := 89) (by decide +kernel) (by omega) (fun b46 => ?_) (fun b46 => ?_)
      · have h47 := h45.1 b46
        refine A_iconst (a := 0) (by decide +kernel) (by unfold in32; omega) ?_
        refine A_cSNd (args := [(30, ((40 : Nat) : Int)), (0, 6), (0, 0)]) (st := []) (by decide +kernel) cv_m10_put st_m10_put lk_9_31 rfl (by omega) (Nat.le_of_ble_eq_true rfl) h47 (fun M50 h51 => ?_)
        refine A_aload_n (i := 0) (f := 0) (by omega) rfl (by decide +kernel) rfl ?_
        refine B_getr (o' := ((40 : Nat) : Int)) (q := (RX9, TX9, 3)) (ci := 8) (j := 0) (by decide +kernel) rfl (by decide) rfl (by omega) fl_9_9 rfl ?_
        refine A_bipush (a := 7) (by decide +kernel) (by unfold in32; omega) (by decide +kernel) ?_
        refine A_iconst (a := 0) (by decide +kernel) (by unfold in32; omega) ?_
        refine A_cSNd (args := [(30, ((40 : Nat) : Int)), (0, 7), (0, 0)]) (st := []) (by decide +kernel) cv_m10_put st_m10_put lk_9_31 rfl (by omega) (Nat.le_of_ble_eq_true rfl) h51 (fun M53 h54 => ?_)
        exact A_ret ⟨by decide +kernel, rfl⟩ ⟨rfl, h54⟩
      · have h48 := h45.2 (Decidable.not_not.mp b46)
        refine A_iconst (a := 1) (by decide +kernel) (by unfold in32; omega) ?_
        refine A_goto (off := 4) (tgt := 90) (by decide +kernel) (by omega) ?_
        refine A_cSNd (args := [(30, ((40 : Nat) : Int)), (0, 6), (0, 1)]) (st := []) (by decide +kernel) cv_m10_put st_m10_put lk_9_31 rfl (by omega) (Nat.le_of_ble_eq_true rfl) h48 (fun M56 h57 => ?_)
        refine A_aload_n (i := 0) (f := 0) (by omega) rfl (by decide +kernel) rfl ?_
        refine B_getr (o' := ((40 : Nat) : Int)) (q := (RX9, TX9, 3)) (ci := 8) (j := 0) (by decide +kernel) rfl (by decide) rfl (by omega) fl_9_9 rfl ?_
        refine A_bipush (a := 7) (by decide +kernel) (by unfold in32; omega) (by decide +kernel) ?_
        refine A_iconst (a := 0) (by decide +kernel) (by unfold in32; omega) ?_
        refine A_cSNd (args := [(30, ((40 : Nat) : Int)), (0, 7), (0, 0)]) (st := []) (by decide +kernel) cv_m10_put st_m10_put lk_9_31 rfl (by omega) (Nat.le_of_ble_eq_true rfl) h57 (fun M59 h60 => ?_)
        exact A_ret ⟨by decide +kernel, rfl⟩ ⟨rfl, h60⟩
  · have h9 := h6.2 (Int.not_le.mp b7)
    refine A_iconst (a := 1) (by decide +kernel) (by unfold in32; omega) ?_
    refine A_goto (off := 4) (tgt := 33) (by decide +kernel) (by omega) ?_
    refine A_cSNd (args := [(30, ((40 : Nat) : Int)), (0, 3), (0, 1)]) (st := []) (by decide +kernel) cv_m10_put st_m10_put lk_9_31 rfl (by omega) (Nat.le_of_ble_eq_true rfl) h9 (fun M62 h63 => ?_)
    refine A_aload_n (i := 0) (f := 0) (by omega) rfl (by decide +kernel) rfl ?_
    refine B_getr (o' := ((40 : Nat) : Int)) (q := (RX9, TX9, 3)) (ci := 8) (j := 0) (by decide +kernel) rfl (by decide) rfl (by omega) fl_9_9 rfl ?_
    refine A_iconst (a := 4) (by decide +kernel) (by unfold in32; omega) ?_
    refine A_aload_n (i := 1) (f := 1) (by omega) rfl (by decide +kernel) rfl ?_
    refine B_getr (o' := ((p1 + 2 : Nat) : Int)) (q := (RX0, TX0, 9)) (ci := 0) (j := 1) (by decide +kernel) rfl (by decide) rfl (by omega) fl_9_22 rfl ?_
    refine A_iload (i := 4) (by decide +kernel) rfl ?_
    refine A_cSNi (args := [(30, ((p1 + 2 : Nat) : Int)), (0, x4)]) (st := [(0, 4), (30, ((40 : Nat) : Int))]) (by decide +kernel) cv_m10_at st_m10_at lk_9_27 rfl (by omega) (Nat.le_of_ble_eq_true rfl) h63 (fun r64 M65 _ h66 => ?_)
    refine A_iload (i := 6) (by decide +kernel) rfl ?_
    refine A_ic_le (off := 7) (tgt := 59) (by decide +kernel) (by omega) (fun b67 => ?_) (fun b67 => ?_)
    · have h68 := h66.1 b67
      refine A_iconst (a := 0) (by decide +kernel) (by unfold in32; omega) ?_
      refine A_cSNd (args := [(30, ((40 : Nat) : Int)), (0, 4), (0, 0)]) (st := []) (by decide +kernel) cv_m10_put st_m10_put lk_9_31 rfl (by omega) (Nat.le_of_ble_eq_true rfl) h68 (fun M71 h72 => ?_)
      refine A_aload_n (i := 0) (f := 0) (by omega) rfl (by decide +kernel) rfl ?_
      refine B_getr (o' := ((40 : Nat) : Int)) (q := (RX9, TX9, 3)) (ci := 8) (j := 0) (by decide +kernel) rfl (by decide) rfl (by omega) fl_9_9 rfl ?_
      refine A_iconst (a := 5) (by decide +kernel) (by unfold in32; omega) ?_
      refine A_iload (i := 5) (by decide +kernel) rfl ?_
      refine A_cSNd (args := [(30, ((40 : Nat) : Int)), (0, 5), (0, x5)]) (st := []) (by decide +kernel) cv_m10_put st_m10_put lk_9_31 rfl (by omega) (Nat.le_of_ble_eq_true rfl) h72 (fun M74 h75 => ?_)
      refine A_aload_n (i := 0) (f := 0) (by omega) rfl (by decide +kernel) rfl ?_
      refine B_getr (o' := ((40 : Nat) : Int)) (q := (RX9, TX9, 3)) (ci := 8) (j := 0) (by decide +kernel) rfl (by decide) rfl (by omega) fl_9_9 rfl ?_
      refine A_bipush (a := 6) (by decide +kernel) (by unfold in32; omega) (by decide +kernel) ?_
      refine A_iload (i := 4) (by decide +kernel) rfl ?_
      refine A_iload_n (i := 3) (f := 3) rfl (by decide +kernel) rfl ?_
      refine A_ic_ne (off := 7) (tgt := 89) (by decide +kernel) (by omega) (fun b76 => ?_) (fun b76 => ?_)
      · have h77 := h75.1 b76
        refine A_iconst (a := 0) (by decide +kernel) (by unfold in32; omega) ?_
        refine A_cSNd (args := [(30, ((40 : Nat) : Int)), (0, 6), (0, 0)]) (st := []) (by decide +kernel) cv_m10_put st_m10_put lk_9_31 rfl (by omega) (Nat.le_of_ble_eq_true rfl) h77 (fun M80 h81 => ?_)
        refine A_aload_n (i := 0) (f := 0) (by omega) rfl (by decide +kernel) rfl ?_
        refine B_getr (o' := ((40 : Nat) : Int)) (q := (RX9, TX9, 3)) (ci := 8) (j := 0) (by decide +kernel) rfl (by decide) rfl (by omega) fl_9_9 rfl ?_
        refine A_bipush (a := 7) (by decide +kernel) (by unfold in32; omega) (by decide +kernel) ?_
        refine A_iconst (a := 0) (by decide +kernel) (by unfold in32; omega) ?_
        refine A_cSNd (args := [(30, ((40 : Nat) : Int)), (0, 7), (0, 0)]) (st := []) (by decide +kernel) cv_m10_put st_m10_put lk_9_31 rfl (by omega) (Nat.le_of_ble_eq_true rfl) h81 (fun M83 h84 => ?_)
        exact A_ret ⟨by decide +kernel, rfl⟩ ⟨rfl, h84⟩
      · have h78 := h75.2 (Decidable.not_not.mp b76)
        refine A_iconst (a := 1) (by decide +kernel) (by unfold in32; omega) ?_
        refine A_goto (off := 4) (tgt := 90) (by decide +kernel) (by omega) ?_
        refine A_cSNd (args := [(30, ((40 : Nat) : Int)), (0, 6), (0, 1)]) (st := []) (by decide +kernel) cv_m10_put st_m10_put lk_9_31 rfl (by omega) (Nat.le_of_ble_eq_true rfl) h78 (fun M86 h87 => ?_)
        refine A_aload_n (i := 0) (f := 0) (by omega) rfl (by decide +kernel) rfl ?_
        refine B_getr (o' := ((40 : Nat) : Int)) (q := (RX9, TX9, 3)) (ci := 8) (j := 0) (by decide +kernel) rfl (by decide) rfl (by omega) fl_9_9 rfl ?_
        refine A_bipush (a := 7) (by decide +kernel) (by unfold in32; omega) (by decide +kernel) ?_
        refine A_iconst (a := 0) (by decide +kernel) (by unfold in32; omega) ?_
        refine A_cSNd (args := [(30, ((40 : Nat) : Int)), (0, 7), (0, 0)]) (st := []) (by decide +kernel) cv_m10_put st_m10_put lk_9_31 rfl (by omega) (Nat.le_of_ble_eq_true rfl) h87 (fun M89 h90 => ?_)
        exact A_ret ⟨by decide +kernel, rfl⟩ ⟨rfl, h90⟩
    · have h69 := h66.2 (Int.not_le.mp b67)
      refine A_iconst (a := 1) (by decide +kernel) (by unfold in32; omega) ?_
      refine A_goto (off := 4) (tgt := 60) (by decide +kernel) (by omega) ?_
      refine A_cSNd (args := [(30, ((40 : Nat) : Int)), (0, 4), (0, 1)]) (st := []) (by decide +kernel) cv_m10_put st_m10_put lk_9_31 rfl (by omega) (Nat.le_of_ble_eq_true rfl) h69 (fun M92 h93 => ?_)
      refine A_aload_n (i := 0) (f := 0) (by omega) rfl (by decide +kernel) rfl ?_
      refine B_getr (o' := ((40 : Nat) : Int)) (q := (RX9, TX9, 3)) (ci := 8) (j := 0) (by decide +kernel) rfl (by decide) rfl (by omega) fl_9_9 rfl ?_
      refine A_iconst (a := 5) (by decide +kernel) (by unfold in32; omega) ?_
      refine A_iload (i := 5) (by decide +kernel) rfl ?_
      refine A_cSNd (args := [(30, ((40 : Nat) : Int)), (0, 5), (0, x5)]) (st := []) (by decide +kernel) cv_m10_put st_m10_put lk_9_31 rfl (by omega) (Nat.le_of_ble_eq_true rfl) h93 (fun M95 h96 => ?_)
      refine A_aload_n (i := 0) (f := 0) (by omega) rfl (by decide +kernel) rfl ?_
      refine B_getr (o' := ((40 : Nat) : Int)) (q := (RX9, TX9, 3)) (ci := 8) (j := 0) (by decide +kernel) rfl (by decide) rfl (by omega) fl_9_9 rfl ?_
      refine A_bipush (a := 6) (by decide +kernel) (by unfold in32; omega) (by decide +kernel) ?_
      refine A_iload (i := 4) (by decide +kernel) rfl ?_
      refine A_iload_n (i := 3) (f := 3) rfl (by decide +kernel) rfl ?_
      refine A_ic_ne (off := 7) (tgt := 89) (by decide +kernel) (by omega) (fun b97 => ?_) (fun b97 => ?_)
      · have h98 := h96.1 b97
        refine A_iconst (a := 0) (by decide +kernel) (by unfold in32; omega) ?_
        refine A_cSNd (args := [(30, ((40 : Nat) : Int)), (0, 6), (0, 0)]) (st := []) (by decide +kernel) cv_m10_put st_m10_put lk_9_31 rfl (by omega) (Nat.le_of_ble_eq_true rfl) h98 (fun M101 h102 => ?_)
        refine A_aload_n (i := 0) (f := 0) (by omega) rfl (by decide +kernel) rfl ?_
        refine B_getr (o' := ((40 : Nat) : Int)) (q := (RX9, TX9, 3)) (ci := 8) (j := 0) (by decide +kernel) rfl (by decide) rfl (by omega) fl_9_9 rfl ?_
        refine A_bipush (a := 7) (by decide +kernel) (by unfold in32; omega) (by decide +kernel) ?_
        refine A_iconst (a := 0) (by decide +kernel) (by unfold in32; omega) ?_
        refine A_cSNd (args := [(30, ((40 : Nat) : Int)), (0, 7), (0, 0)]) (st := []) (by decide +kernel) cv_m10_put st_m10_put lk_9_31 rfl (by omega) (Nat.le_of_ble_eq_true rfl) h102 (fun M104 h105 => ?_)
        exact A_ret ⟨by decide +kernel, rfl⟩ ⟨rfl, h105⟩
      · have h99 := h96.2 (Decidable.not_not.mp b97)
        refine A_iconst (a := 1) (by decide +kernel) (by unfold in32; omega) ?_
        refine A_goto (off := 4) (tgt := 90) (by decide +kernel) (by omega) ?_
        refine A_cSNd (args := [(30, ((40 : Nat) : Int)), (0, 6), (0, 1)]) (st := []) (by decide +kernel) cv_m10_put st_m10_put lk_9_31 rfl (by omega) (Nat.le_of_ble_eq_true rfl) h99 (fun M107 h108 => ?_)
        refine A_aload_n (i := 0) (f := 0) (by omega) rfl (by decide +kernel) rfl ?_
        refine B_getr (o' := ((40 : Nat) : Int)) (q := (RX9, TX9, 3)) (ci := 8) (j := 0) (by decide +kernel) rfl (by decide) rfl (by omega) fl_9_9 rfl ?_
        refine A_bipush (a := 7) (by decide +kernel) (by unfold in32; omega) (by decide +kernel) ?_
        refine A_iconst (a := 0) (by decide +kernel) (by unfold in32; omega) ?_
        refine A_cSNd (args := [(30, ((40 : Nat) : Int)), (0, 7), (0, 0)]) (st := []) (by decide +kernel) cv_m10_put st_m10_put lk_9_31 rfl (by omega) (Nat.le_of_ble_eq_true rfl) h108 (fun M110 h111 => ?_)
        exact A_ret ⟨by decide +kernel, rfl⟩ ⟨rfl, h111⟩
theorem q_9_standBy {p1 : Nat} {x2 : Int} {x3 : Int} {x4 : Int} {M : Mem} {P : Mem → Prop} (h : (CI m5_between 3 [(15, (p1 : Int)), (0, x3), (0, x2)] M (fun r1 M2 => (CD m10_put 1 [(30, ((40 : Nat) : Int)), (0, 0), (0, r1)] M2 (fun M5 => (CI m5_between 3 [(15, (p1 : Int)), (0, x4), (0, x2)] M5 (fun r7 M8 => (CD m10_put 1 [(30, ((40 : Nat) : Int)), (0, 1), (0, r7)] M8 (fun M11 => ((x4 ≠ x3 → (CI m5_between 3 [(15, (p1 : Int)), (0, x4), (0, x3)] M11 (fun r16 M17 => (CD m10_put 1 [(30, ((40 : Nat) : Int)), (0, 2), (0, r16)] M17 (fun M20 => (P M20)))))) ∧ (x4 = x3 → (CD m10_put 1 [(30, ((40 : Nat) : Int)), (0, 2), (0, 0)] M11 (fun M23 => (P M23)))))))))))))) : CD m9_standBy 4 [(18, ((39 : Nat) : Int)), (15, (p1 : Int)), (0, x2), (0, x3), (0, x4)] M P := by
  refine CD_of (by decide +kernel) (Nat.le_of_ble_eq_true rfl) ?_
  show A m9_standBy 4 0 0 [(18, ((39 : Nat) : Int)), (15, (p1 : Int)), (0, x2), (0, x3), (0, x4)] [] M (Kd P)
  refine A_aload_n (i := 0) (f := 0) (by omega) rfl (by decide +kernel) rfl ?_
  refine B_getr (o' := ((40 : Nat) : Int)) (q := (RX9, TX9, 3)) (ci := 8) (j := 0) (by decide +kernel) rfl (by decide) rfl (by omega) fl_9_9 rfl ?_
  refine A_iconst (a := 0) (by decide +kernel) (by unfold in32; omega) ?_
  refine A_aload_n (i := 1) (f := 1) (by omega) rfl (by decide +kernel) rfl ?_
  refine A_iload_n (i := 3) (f := 3) rfl (by decide +kernel) rfl ?_
  refine A_iload_n (i := 2) (f := 2) rfl (by decide +kernel) rfl ?_
  refine A_cVi (q := (RX5, TX5, 5)) (ci := 5) (o := (p1 : Int)) (args := [(0, x3), (0, x2)]) (st := [(0, 0), (30, ((40 : Nat) : Int))]) (by decide +kernel) cv_m5_between rfl rfl in_m5_between se_m5_between lk_9_35 rfl (by omega) (Nat.le_of_ble_eq_true rfl) h (fun r1 M2 _ h3 => ?_)
  refine A_cSNd (args := [(30, ((40 : Nat) : Int)), (0, 0), (0, r1)]) (st := []) (by decide +kernel) cv_m10_put st_m10_put lk_9_31 rfl (by omega) (Nat.le_of_ble_eq_true rfl) h3 (fun M5 h6 => ?_)
  refine A_aload_n (i := 0) (f := 0) (by omega) rfl (by decide +kernel) rfl ?_
  refine B_getr (o' := ((40 : Nat) : Int)) (q := (RX9, TX9, 3)) (ci := 8) (j := 0) (by decide +kernel) rfl (by decide) rfl (by omega) fl_9_9 rfl ?_
  refine A_iconst (a := 1) (by decide +kernel) (by unfold in32; omega) ?_
  refine A_aload_n (i := 1) (f := 1) (by omega) rfl (by decide +kernel) rfl ?_
  refine A_iload (i := 4) (by decide +kernel) rfl ?_
  refine A_iload_n (i := 2) (f := 2) rfl (by decide +kernel) rfl ?_
  refine A_cVi (q := (RX5, TX5, 5)) (ci := 5) (o := (p1 : Int)) (args := [(0, x4), (0, x2)]) (st := [(0, 1), (30, ((40 : Nat) : Int))]) (by decide +kernel) cv_m5_between rfl rfl in_m5_between se_m5_between lk_9_35 rfl (by omega) (Nat.le_of_ble_eq_true rfl) h6 (fun r7 M8 _ h9 => ?_)
  refine A_cSNd (args := [(30, ((40 : Nat) : Int)), (0, 1), (0, r7)]) (st := []) (by decide +kernel) cv_m10_put st_m10_put lk_9_31 rfl (by omega) (Nat.le_of_ble_eq_true rfl) h9 (fun M11 h12 => ?_)
  refine A_aload_n (i := 0) (f := 0) (by omega) rfl (by decide +kernel) rfl ?_
  refine B_getr (o' := ((40 : Nat) : Int)) (q := (RX9, TX9, 3)) (ci := 8) (j := 0) (by decide +kernel) rfl (by decide) rfl (by omega) fl_9_9 rfl ?_
  refine A_iconst (a := 2) (by decide +kernel) (by unfold in32; omega) ?_
  refine A_iload (i := 4) (by decide +kernel) rfl ?_
  refine A_iload_n (i := 3) (f := 3) rfl (by decide +kernel) rfl ?_
  refine A_ic_ne (off := 7) (tgt := 44) (by decide +kernel) (by omega) (fun b13 => ?_) (fun b13 => ?_)
  · have h14 := h12.1 b13
    refine A_aload_n (i := 1) (f := 1) (by omega) rfl (by decide +kernel) rfl ?_
    refine A_iload (i := 4) (by decide +kernel) rfl ?_
    refine A_iload_n (i := 3) (f := 3) rfl (by decide +kernel) rfl ?_
    refine A_cVi (q := (RX5, TX5, 5)) (ci := 5) (o := (p1 : Int)) (args := [(0, x4), (0, x3)]) (st := [(0, 2), (30, ((40 : Nat) : Int))]) (by decide +kernel) cv_m5_between rfl rfl in_m5_between se_m5_between lk_9_35 rfl (by omega) (Nat.le_of_ble_eq_true rfl) h14 (fun r16 M17 _ h18 => ?_)
    refine A_cSNd (args := [(30, ((40 : Nat) : Int)), (0, 2), (0, r16)]) (st := []) (by decide +kernel) cv_m10_put st_m10_put lk_9_31 rfl (by omega) (Nat.le_of_ble_eq_true rfl) h18 (fun M20 h21 => ?_)
    exact A_ret ⟨by decide +kernel, rfl⟩ ⟨rfl, h21⟩
  · have h15 := h12.2 (Decidable.not_not.mp b13)
    refine A_iconst (a := 0) (by decide +kernel) (by unfold in32; omega) ?_
    refine A_goto (off := 10) (tgt := 51) (by decide +kernel) (by omega) ?_
    refine A_cSNd (args := [(30, ((40 : Nat) : Int)), (0, 2), (0, 0)]) (st := []) (by decide +kernel) cv_m10_put st_m10_put lk_9_31 rfl (by omega) (Nat.le_of_ble_eq_true rfl) h15 (fun M23 h24 => ?_)
    exact A_ret ⟨by decide +kernel, rfl⟩ ⟨rfl, h24⟩
theorem q_9_standByWay {x1 : Int} {M : Mem} {P : Int → Mem → Prop} (h : (CD m10_put 1 [(30, ((40 : Nat) : Int)), (0, 0), (0, (w32 ((w32 (Int.tdiv x1 9)) - 1)))] M (fun M2 => (CD m10_put 1 [(30, ((40 : Nat) : Int)), (0, 1), (0, (w32 ((w32 (Int.tmod (w32 (Int.tdiv x1 3)) 3)) - 1)))] M2 (fun M5 => (CD m10_put 1 [(30, ((40 : Nat) : Int)), (0, 2), (0, (w32 ((w32 (Int.tmod x1 3)) - 1)))] M5 (fun M8 => (CI m10_at 1 [(30, ((40 : Nat) : Int)), (0, 6)] M8 (fun r10 M11 => ((r10 ≠ 1 → (CI m10_goesOn 2 [(0, (w32 ((w32 (Int.tmod x1 3)) - 1))), (0, (w32 ((w32 (Int.tdiv x1 9)) - 1))), (0, (w32 ((w32 (Int.tmod (w32 (Int.tdiv x1 3)) 3)) - 1)))] M11 (fun r16 M17 => ((r16 = 0 ∨ r16 = 1) ∧ P r16 M17)))) ∧ (r10 = 1 → (((w32 ((w32 (Int.tmod (w32 (Int.tdiv x1 3)) 3)) - 1)) ≠ (w32 ((w32 (Int.tdiv x1 9)) - 1)) → (P 0 M11)) ∧ ((w32 ((w32 (Int.tmod (w32 (Int.tdiv x1 3)) 3)) - 1)) = (w32 ((w32 (Int.tdiv x1 9)) - 1)) → (((w32 ((w32 (Int.tmod x1 3)) - 1)) ≠ 0 → (P 0 M11)) ∧ ((w32 ((w32 (Int.tmod x1 3)) - 1)) = 0 → (P 1 M11)))))))))))))))) : CI m9_standByWay 3 [(18, ((39 : Nat) : Int)), (0, x1)] M P := by
  refine CI_of (by decide +kernel) (Nat.le_of_ble_eq_true rfl) ?_
  show A m9_standByWay 3 0 0 [(18, ((39 : Nat) : Int)), (0, x1), (2, 0), (2, 0), (2, 0)] [] M (Ki P)
  refine A_iload_n (i := 1) (f := 1) rfl (by decide +kernel) rfl ?_
  refine A_bipush (a := 9) (by decide +kernel) (by unfold in32; omega) (by decide +kernel) ?_
  refine A_idiv (by decide +kernel) (by omega) ?_
  refine A_iconst (a := 1) (by decide +kernel) (by unfold in32; omega) ?_
  refine A_isub (by decide +kernel) ?_
  refine A_istore_n (i := 2) (f := 2) rfl (by decide +kernel) (by decide) (fun w h0 hw => by simp at hw; first | (rw [← hw]; decide) | (rw [← hw]; simp)) ?_
  refine A_iload_n (i := 1) (f := 1) rfl (by decide +kernel) rfl ?_
  refine A_iconst (a := 3) (by decide +kernel) (by unfold in32; omega) ?_
  refine A_idiv (by decide +kernel) (by omega) ?_
  refine A_iconst (a := 3) (by decide +kernel) (by unfold in32; omega) ?_
  refine A_irem (by decide +kernel) (by omega) ?_
  refine A_iconst (a := 1) (by decide +kernel) (by unfold in32; omega) ?_
  refine A_isub (by decide +kernel) ?_
  refine A_istore_n (i := 3) (f := 3) rfl (by decide +kernel) (by decide) (fun w h0 hw => by simp at hw; first | (rw [← hw]; decide) | (rw [← hw]; simp)) ?_
  refine A_iload_n (i := 1) (f := 1) rfl (by decide +kernel) rfl ?_
  refine A_iconst (a := 3) (by decide +kernel) (by unfold in32; omega) ?_
  refine A_irem (by decide +kernel) (by omega) ?_
  refine A_iconst (a := 1) (by decide +kernel) (by unfold in32; omega) ?_
  refine A_isub (by decide +kernel) ?_
  refine A_istore (i := 4) (by decide +kernel) (by decide) (fun w h0 hw => by simp at hw; first | (rw [← hw]; decide) | (rw [← hw]; simp)) ?_
  refine A_aload_n (i := 0) (f := 0) (by omega) rfl (by decide +kernel) rfl ?_
  refine B_getr (o' := ((40 : Nat) : Int)) (q := (RX9, TX9, 3)) (ci := 8) (j := 0) (by decide +kernel) rfl (by decide) rfl (by omega) fl_9_9 rfl ?_
  refine A_iconst (a := 0) (by decide +kernel) (by unfold in32; omega) ?_
  refine A_iload_n (i := 2) (f := 2) rfl (by decide +kernel) rfl ?_
  refine A_cSNd (args := [(30, ((40 : Nat) : Int)), (0, 0), (0, (w32 ((w32 (Int.tdiv x1 9)) - 1)))]) (st := []) (by decide +kernel) cv_m10_put st_m10_put lk_9_31 rfl (by omega) (Nat.le_of_ble_eq_true rfl) h (fun M2 h3 => ?_)
  refine A_aload_n (i := 0) (f := 0) (by omega) rfl (by decide +kernel) rfl ?_
  refine B_getr (o' := ((40 : Nat) : Int)) (q := (RX9, TX9, 3)) (ci := 8) (j := 0) (by decide +kernel) rfl (by decide) rfl (by omega) fl_9_9 rfl ?_
  refine A_iconst (a := 1) (by decide +kernel) (by unfold in32; omega) ?_
  refine A_iload_n (i := 3) (f := 3) rfl (by decide +kernel) rfl ?_
  refine A_cSNd (args := [(30, ((40 : Nat) : Int)), (0, 1), (0, (w32 ((w32 (Int.tmod (w32 (Int.tdiv x1 3)) 3)) - 1)))]) (st := []) (by decide +kernel) cv_m10_put st_m10_put lk_9_31 rfl (by omega) (Nat.le_of_ble_eq_true rfl) h3 (fun M5 h6 => ?_)
  refine A_aload_n (i := 0) (f := 0) (by omega) rfl (by decide +kernel) rfl ?_
  refine B_getr (o' := ((40 : Nat) : Int)) (q := (RX9, TX9, 3)) (ci := 8) (j := 0) (by decide +kernel) rfl (by decide) rfl (by omega) fl_9_9 rfl ?_
  refine A_iconst (a := 2) (by decide +kernel) (by unfold in32; omega) ?_
  refine A_iload (i := 4) (by decide +kernel) rfl ?_
  refine A_cSNd (args := [(30, ((40 : Nat) : Int)), (0, 2), (0, (w32 ((w32 (Int.tmod x1 3)) - 1)))]) (st := []) (by decide +kernel) cv_m10_put st_m10_put lk_9_31 rfl (by omega) (Nat.le_of_ble_eq_true rfl) h6 (fun M8 h9 => ?_)
  refine A_aload_n (i := 0) (f := 0) (by omega) rfl (by decide +kernel) rfl ?_
  refine B_getr (o' := ((40 : Nat) : Int)) (q := (RX9, TX9, 3)) (ci := 8) (j := 0) (by decide +kernel) rfl (by decide) rfl (by omega) fl_9_9 rfl ?_
  refine A_bipush (a := 6) (by decide +kernel) (by unfold in32; omega) (by decide +kernel) ?_
  refine A_cSNi (args := [(30, ((40 : Nat) : Int)), (0, 6)]) (st := []) (by decide +kernel) cv_m10_at st_m10_at lk_9_27 rfl (by omega) (Nat.le_of_ble_eq_true rfl) h9 (fun r10 M11 _ h12 => ?_)
  refine A_iconst (a := 1) (by decide +kernel) (by unfold in32; omega) ?_
  refine A_ic_ne (off := 19) (tgt := 79) (by decide +kernel) (by omega) (fun b13 => ?_) (fun b13 => ?_)
  · have h14 := h12.1 b13
    refine A_iload (i := 4) (by decide +kernel) rfl ?_
    refine A_iload_n (i := 2) (f := 2) rfl (by decide +kernel) rfl ?_
    refine A_iload_n (i := 3) (f := 3) rfl (by decide +kernel) rfl ?_
    refine A_cSNi (args := [(0, (w32 ((w32 (Int.tmod x1 3)) - 1))), (0, (w32 ((w32 (Int.tdiv x1 9)) - 1))), (0, (w32 ((w32 (Int.tmod (w32 (Int.tdiv x1 3)) 3)) - 1)))]) (st := []) (by decide +kernel) cv_m10_goesOn st_m10_goesOn lk_9_41 rfl (by omega) (Nat.le_of_ble_eq_true rfl) h14 (fun r16 M17 _ h18 => ?_)
    exact A_ret ⟨by decide +kernel, Or.inr ⟨rfl, h18.1⟩⟩ ⟨_, rfl, h18.2⟩
  · have h15 := h12.2 (Decidable.not_not.mp b13)
    refine A_iload_n (i := 3) (f := 3) rfl (by decide +kernel) rfl ?_
    refine A_iload_n (i := 2) (f := 2) rfl (by decide +kernel) rfl ?_
    refine A_ic_ne (off := 12) (tgt := 77) (by decide +kernel) (by omega) (fun b19 => ?_) (fun b19 => ?_)
    · have h20 := h15.1 b19
      refine A_iconst (a := 0) (by decide +kernel) (by unfold in32; omega) ?_
      exact A_ret ⟨by decide +kernel, Or.inr ⟨rfl, by decide⟩⟩ ⟨_, rfl, h20⟩
    · have h21 := h15.2 (Decidable.not_not.mp b19)
      refine A_iload (i := 4) (by decide +kernel) rfl ?_
      refine A_if_ne (off := 7) (tgt := 77) (by decide +kernel) (by omega) (fun b22 => ?_) (fun b22 => ?_)
      · have h23 := h21.1 b22
        refine A_iconst (a := 0) (by decide +kernel) (by unfold in32; omega) ?_
        exact A_ret ⟨by decide +kernel, Or.inr ⟨rfl, by decide⟩⟩ ⟨_, rfl, h23⟩
      · have h24 := h21.2 (Decidable.not_not.mp b22)
        refine A_iconst (a := 1) (by decide +kernel) (by unfold in32; omega) ?_
        refine A_goto (off := 4) (tgt := 78) (by decide +kernel) (by omega) ?_
        exact A_ret ⟨by decide +kernel, Or.inr ⟨rfl, by decide⟩⟩ ⟨_, rfl, h24⟩
theorem q_9_rightRow {p1 : Nat} {M : Mem} {P : Int → Mem → Prop} (h : A m9_rightRow 5 0 2 [(18, ((39 : Nat) : Int)), (10, (p1 : Int)), (0, 0), (2, 0), (2, 0)] [] M (Ki P)) : CI m9_rightRow 5 [(18, ((39 : Nat) : Int)), (10, (p1 : Int))] M P := by
  refine CI_of (by decide +kernel) (Nat.le_of_ble_eq_true rfl) ?_
  show A m9_rightRow 5 0 0 [(18, ((39 : Nat) : Int)), (10, (p1 : Int)), (2, 0), (2, 0), (2, 0)] [] M (Ki P)
  refine A_iconst (a := 0) (by decide +kernel) (by unfold in32; omega) ?_
  refine A_istore_n (i := 2) (f := 2) rfl (by decide +kernel) (by decide) (fun w h0 hw => by simp at hw; first | (rw [← hw]; decide) | (rw [← hw]; simp)) ?_
  exact A_weak (lsub.keep (lsub.keep (lsub.keep (lsub.drop (lsub.drop lsub.nil))))) h
theorem r_9_rightRow_2 {p1 : Nat} {x2 : Int} {M : Mem} {P : Int → Mem → Prop} (h : (((M p1 4) ≤ x2 → A m9_rightRow 5 0 54 [(18, ((39 : Nat) : Int)), (10, (p1 : Int)), (0, 0), (0, 0), (2, 0)] [] M (Ki P)) ∧ (x2 < (M p1 4) → (CL m3_work 4 [(13, ((p1 + 4 : Nat) : Int)), (0, x2), (30, ((40 : Nat) : Int))] M (fun r4 M5 => ((r4 ≠ (-9223372036854775808) → (CD m10_putLong 1 [(32, ((41 : Nat) : Int)), (0, x2), (1, r4)] M5 (fun M11 => A m9_rightRow 5 0 2 [(18, ((39 : Nat) : Int)), (10, (p1 : Int)), (0, (w32 (x2 + 1))), (2, 0), (2, 0)] [] M11 (Ki P)))) ∧ (r4 = (-9223372036854775808) → (CD m10_putLong 1 [(32, ((41 : Nat) : Int)), (0, x2), (1, 0)] M5 (fun M14 => A m9_rightRow 5 0 2 [(18, ((39 : Nat) : Int)), (10, (p1 : Int)), (0, (w32 (x2 + 1))), (2, 0), (2, 0)] [] M14 (Ki P)))))))))) : A m9_rightRow 5 0 2 [(18, ((39 : Nat) : Int)), (10, (p1 : Int)), (0, x2), (2, 0), (2, 0)] [] M (Ki P) := by
  refine A_iload_n (i := 2) (f := 2) rfl (by decide +kernel) rfl ?_
  refine A_aload_n (i := 1) (f := 1) (by omega) rfl (by decide +kernel) rfl ?_
  refine B_getp (v := (M p1 4)) (q := (RX0, TX0, 9)) (ci := 0) (j := 4) (p := 4) (by decide +kernel) rfl (by decide) rfl (Or.inl rfl) fl_9_45 rfl ?_
  refine A_ic_ge (off := 43) (tgt := 50) (by decide +kernel) (by omega) (fun b1 => ?_) (fun b1 => ?_)
  · have h2 := h.1 b1
    refine A_iconst (a := 0) (by decide +kernel) (by unfold in32; omega) ?_
    refine A_istore_n (i := 2) (f := 2) rfl (by decide +kernel) (by decide) (fun w h0 hw => by simp at hw; first | (rw [← hw]; decide) | (rw [← hw]; simp)) ?_
    refine A_iconst (a := 0) (by decide +kernel) (by unfold in32; omega) ?_
    refine A_istore_n (i := 3) (f := 3) rfl (by decide +kernel) (by decide) (fun w h0 hw => by simp at hw; first | (rw [← hw]; decide) | (rw [← hw]; simp)) ?_
    exact A_weak (lsub.keep (lsub.keep (lsub.keep (lsub.keep (lsub.drop lsub.nil))))) h2
  · have h3 := h.2 (Int.not_le.mp b1)
    refine A_aload_n (i := 1) (f := 1) (by omega) rfl (by decide +kernel) rfl ?_
    refine B_getr (o' := ((p1 + 4 : Nat) : Int)) (q := (RX0, TX0, 9)) (ci := 0) (j := 5) (by decide +kernel) rfl (by decide) rfl (by omega) fl_9_49 rfl ?_
    refine A_iload_n (i := 2) (f := 2) rfl (by decide +kernel) rfl ?_
    refine A_aload_n (i := 0) (f := 0) (by omega) rfl (by decide +kernel) rfl ?_
    refine B_getr (o' := ((40 : Nat) : Int)) (q := (RX9, TX9, 3)) (ci := 8) (j := 0) (by decide +kernel) rfl (by decide) rfl (by omega) fl_9_9 rfl ?_
    refine A_cVl (q := (RX3, TX3, 6)) (ci := 3) (o := ((p1 + 4 : Nat) : Int)) (args := [(0, x2), (30, ((40 : Nat) : Int))]) (st := []) (by decide +kernel) cv_m3_work rfl rfl in_m3_work se_m3_work lk_9_53 rfl (by omega) (Nat.le_of_ble_eq_true rfl) h3 (fun r4 M5 _ h6 => ?_)
    refine A_lstore_n (i := 3) (f := 3) rfl (by decide +kernel) (by decide) (fun w h0 hw => by simp at hw; first | (rw [← hw]; decide) | (rw [← hw]; simp)) ?_
    refine A_aload_n (i := 0) (f := 0) (by omega) rfl (by decide +kernel) rfl ?_
    refine B_getr (o' := ((41 : Nat) : Int)) (q := (RX9, TX9, 3)) (ci := 8) (j := 1) (by decide +kernel) rfl (by decide) rfl (by omega) fl_9_15 rfl ?_
    refine A_iload_n (i := 2) (f := 2) rfl (by decide +kernel) rfl ?_
    refine A_lload_n (i := 3) (f := 3) rfl (by decide +kernel) rfl ?_
    refine A_ldc2 (by decide +kernel) (by unfold in64; omega) kl_9_59 rfl ?_
    refine A_lcmp (by decide +kernel) ?_
    refine A_if_ne (off := 7) (tgt := 40) (by decide +kernel) (by omega) (fun b7 => ?_) (fun b7 => ?_)
    · have h8 := h6.1 (fun e => b7 (lcmp_eq.mpr e))
      refine A_lload_n (i := 3) (f := 3) rfl (by decide +kernel) rfl ?_
      refine A_cSNd (args := [(32, ((41 : Nat) : Int)), (0, x2), (1, r4)]) (st := []) (by decide +kernel) cv_m10_putLong st_m10_putLong lk_9_61 rfl (by omega) (Nat.le_of_ble_eq_true rfl) h8 (fun M11 h12 => ?_)
      refine A_iinc (i := 2) (n := 1) (by decide +kernel) (by decide) rfl (fun w h0 hw => by simp at hw; first | (rw [← hw]; decide) | (rw [← hw]; simp)) ?_
      refine A_goto (off := (-45)) (tgt := 2) (by decide +kernel) (by omega) ?_
      exact A_weak (lsub.keep (lsub.keep (lsub.keep (lsub.drop (lsub.drop lsub.nil))))) h12
    · have h9 := h6.2 (lcmp_eq.mp (Decidable.not_not.mp b7))
      refine A_lconst (n := 0) (a := 0) (by decide +kernel) (by unfold in64; omega) (by decide +kernel) ?_
      refine A_goto (off := 4) (tgt := 41) (by decide +kernel) (by omega) ?_
      refine A_cSNd (args := [(32, ((41 : Nat) : Int)), (0, x2), (1, 0)]) (st := []) (by decide +kernel) cv_m10_putLong st_m10_putLong lk_9_61 rfl (by omega) (Nat.le_of_ble_eq_true rfl) h9 (fun M14 h15 => ?_)
      refine A_iinc (i := 2) (n := 1) (by decide +kernel) (by decide) rfl (fun w h0 hw => by simp at hw; first | (rw [← hw]; decide) | (rw [← hw]; simp)) ?_
      refine A_goto (off := (-45)) (tgt := 2) (by decide +kernel) (by omega) ?_
      exact A_weak (lsub.keep (lsub.keep (lsub.keep (lsub.drop (lsub.drop lsub.nil))))) h15
theorem r_9_rightRow_54 {p1 : Nat} {x2 : Int} {x3 : Int} {M : Mem} {P : Int → Mem → Prop} (h : (((M p1 4) ≤ x3 → (P x2 M)) ∧ (x3 < (M p1 4) → (CI m9_countAhead 2 [(18, ((39 : Nat) : Int)), (0, x3), (0, (M p1 4))] M (fun r4 M5 => A m9_rightRow 5 0 54 [(18, ((39 : Nat) : Int)), (10, (p1 : Int)), (0, (ior x2 (ishl x3 (w32 (3 * r4))))), (0, (w32 (x3 + 1))), (2, 0)] [] M5 (Ki P)))))) : A m9_rightRow 5 0 54 [(18, ((39 : Nat) : Int)), (10, (p1 : Int)), (0, x2), (0, x3), (2, 0)] [] M (Ki P) := by
  refine A_iload_n (i := 3) (f := 3) rfl (by decide +kernel) rfl ?_
  refine A_aload_n (i := 1) (f := 1) (by omega) rfl (by decide +kernel) rfl ?_
  refine B_getp (v := (M p1 4)) (q := (RX0, TX0, 9)) (ci := 0) (j := 4) (p := 4) (by decide +kernel) rfl (by decide) rfl (Or.inl rfl) fl_9_45 rfl ?_
  refine A_ic_ge (off := 25) (tgt := 84) (by decide +kernel) (by omega) (fun b1 => ?_) (fun b1 => ?_)
  · have h2 := h.1 b1
    refine A_iload_n (i := 2) (f := 2) rfl (by decide +kernel) rfl ?_
    exact A_ret ⟨by decide +kernel, Or.inl rfl⟩ ⟨_, rfl, h2⟩
  · have h3 := h.2 (Int.not_le.mp b1)
    refine A_iload_n (i := 2) (f := 2) rfl (by decide +kernel) rfl ?_
    refine A_iload_n (i := 3) (f := 3) rfl (by decide +kernel) rfl ?_
    refine A_iconst (a := 3) (by decide +kernel) (by unfold in32; omega) ?_
    refine A_aload_n (i := 0) (f := 0) (by omega) rfl (by decide +kernel) rfl ?_
    refine A_iload_n (i := 3) (f := 3) rfl (by decide +kernel) rfl ?_
    refine A_aload_n (i := 1) (f := 1) (by omega) rfl (by decide +kernel) rfl ?_
    refine B_getp (v := (M p1 4)) (q := (RX0, TX0, 9)) (ci := 0) (j := 4) (p := 4) (by decide +kernel) rfl (by decide) rfl (Or.inl rfl) fl_9_45 rfl ?_
    refine A_cVi (q := (RX9, TX9, 3)) (ci := 8) (o := ((39 : Nat) : Int)) (args := [(0, x3), (0, (M p1 4))]) (st := [(0, 3), (0, x3), (0, x2)]) (by decide +kernel) cv_m9_countAhead rfl rfl in_m9_countAhead se_m9_countAhead lk_9_65 rfl (by omega) (Nat.le_of_ble_eq_true rfl) h3 (fun r4 M5 _ h6 => ?_)
    refine A_imul (by decide +kernel) ?_
    refine A_ishl (by decide +kernel) ?_
    refine A_ior (by decide +kernel) ?_
    refine A_istore_n (i := 2) (f := 2) rfl (by decide +kernel) (by decide) (fun w h0 hw => by simp at hw; first | (rw [← hw]; decide) | (rw [← hw]; simp)) ?_
    refine A_iinc (i := 3) (n := 1) (by decide +kernel) (by decide) rfl (fun w h0 hw => by simp at hw; first | (rw [← hw]; decide) | (rw [← hw]; simp)) ?_
    refine A_goto (off := (-27)) (tgt := 54) (by decide +kernel) (by omega) ?_
    exact A_weak (lsub.keep (lsub.keep (lsub.keep (lsub.keep (lsub.drop lsub.nil))))) h6
theorem q_9_countAhead {x1 : Int} {x2 : Int} {M : Mem} {P : Int → Mem → Prop} (h : (CL m10_longAt 1 [(32, ((41 : Nat) : Int)), (0, x1)] M (fun r1 M2 => A m9_countAhead 2 0 15 [(18, ((39 : Nat) : Int)), (0, x1), (0, x2), (1, r1), (2, 0), (0, 0), (0, 0), (2, 0), (2, 0)] [] M2 (Ki P)))) : CI m9_countAhead 2 [(18, ((39 : Nat) : Int)), (0, x1), (0, x2)] M P := by
  refine CI_of (by decide +kernel) (Nat.le_of_ble_eq_true rfl) ?_
  show A m9_countAhead 2 0 0 [(18, ((39 : Nat) : Int)), (0, x1), (0, x2), (2, 0), (2, 0), (2, 0), (2, 0), (2, 0), (2, 0)] [] M (Ki P)
  refine A_aload_n (i := 0) (f := 0) (by omega) rfl (by decide +kernel) rfl ?_
  refine B_getr (o' := ((41 : Nat) : Int)) (q := (RX9, TX9, 3)) (ci := 8) (j := 1) (by decide +kernel) rfl (by decide) rfl (by omega) fl_9_15 rfl ?_
  refine A_iload_n (i := 1) (f := 1) rfl (by decide +kernel) rfl ?_
  refine A_cSNl (args := [(32, ((41 : Nat) : Int)), (0, x1)]) (st := []) (by decide +kernel) cv_m10_longAt st_m10_longAt lk_9_68 rfl (by omega) (Nat.le_of_ble_eq_true rfl) h (fun r1 M2 _ h3 => ?_)
  refine A_lstore_n (i := 3) (f := 3) rfl (by decide +kernel) (by decide) (fun w h0 hw => by simp at hw; first | (rw [← hw]; decide) | (rw [← hw]; simp)) ?_
  refine A_iconst (a := 0) (by decide +kernel) (by unfold in32; omega) ?_
  refine A_istore (i := 5) (by decide +kernel) (by decide) (fun w h0 hw => by simp at hw; first | (rw [← hw]; decide) | (rw [← hw]; simp)) ?_
  refine A_iconst (a := 0) (by decide +kernel) (by unfold in32; omega) ?_
  refine A_istore (i := 6) (by decide +kernel) (by decide) (fun w h0 hw => by simp at hw; first | (rw [← hw]; decide) | (rw [← hw]; simp)) ?_
  exact A_weak (lsub.keep (lsub.keep (lsub.keep (lsub.keep (lsub.drop (lsub.keep (lsub.keep (lsub.drop (lsub.drop lsub.nil))))))))) h3
theorem r_9_countAhead_15 {x1 : Int} {x2 : Int} {x3 : Int} {x5 : Int} {x6 : Int} {M : Mem} {P : Int → Mem → Prop} (h : ((x2 ≤ x6 → (P x5 M)) ∧ (x6 < x2 → (CL m10_longAt 1 [(32, ((41 : Nat) : Int)), (0, x6)] M (fun r4 M5 => ((r4 < x3 → A m9_countAhead 2 0 15 [(18, ((39 : Nat) : Int)), (0, x1), (0, x2), (1, x3), (2, 0), (0, (w32 (x5 + 1))), (0, (w32 (x6 + 1))), (2, 0), (2, 0)] [] M5 (Ki P)) ∧ (x3 ≤ r4 → ((r4 ≠ x3 → A m9_countAhead 2 0 15 [(18, ((39 : Nat) : Int)), (0, x1), (0, x2), (1, x3), (2, 0), (0, x5), (0, (w32 (x6 + 1))), (2, 0), (2, 0)] [] M5 (Ki P)) ∧ (r4 = x3 → ((x1 ≤ x6 → A m9_countAhead 2 0 15 [(18, ((39 : Nat) : Int)), (0, x1), (0, x2), (1, x3), (2, 0), (0, x5), (0, (w32 (x6 + 1))), (2, 0), (2, 0)] [] M5 (Ki P)) ∧ (x6 < x1 → A m9_countAhead 2 0 15 [(18, ((39 : Nat) : Int)), (0, x1), (0, x2), (1, x3), (2, 0), (0, (w32 (x5 + 1))), (0, (w32 (x6 + 1))), (2, 0), (2, 0)] [] M5 (Ki P)))))))))))) : A m9_countAhead 2 0 15 [(18, ((39 : Nat) : Int)), (0, x1), (0, x2), (1, x3), (2, 0), (0, x5), (0, x6), (2, 0), (2, 0)] [] M (Ki P) := by
  refine A_iload (i := 6) (by decide +kernel) rfl ?_
  refine A_iload_n (i := 2) (f := 2) rfl (by decide +kernel) rfl ?_
  refine A_ic_ge (off := 43) (tgt := 61) (by decide +kernel) (by omega) (fun b1 => ?_) (fun b1 => ?_)
  · have h2 := h.1 b1
    refine A_iload (i := 5) (by decide +kernel) rfl ?_
    exact A_ret ⟨by decide +kernel, Or.inl rfl⟩ ⟨_, rfl, h2⟩
  · have h3 := h.2 (Int.not_le.mp b1)
    refine A_aload_n (i := 0) (f := 0) (by omega) rfl (by decide +kernel) rfl ?_
    refine B_getr (o' := ((41 : Nat) : Int)) (q := (RX9, TX9, 3)) (ci := 8) (j := 1) (by decide +kernel) rfl (by decide) rfl (by omega) fl_9_15 rfl ?_
    refine A_iload (i := 6) (by decide +kernel) rfl ?_
    refine A_cSNl (args := [(32, ((41 : Nat) : Int)), (0, x6)]) (st := []) (by decide +kernel) cv_m10_longAt st_m10_longAt lk_9_68 rfl (by omega) (Nat.le_of_ble_eq_true rfl) h3 (fun r4 M5 _ h6 => ?_)
    refine A_lstore (i := 7) (by decide +kernel) (by decide) (fun w h0 hw => by simp at hw; first | (rw [← hw]; decide) | (rw [← hw]; simp)) ?_
    refine A_lload (i := 7) (by decide +kernel) rfl ?_
    refine A_lload_n (i := 3) (f := 3) rfl (by decide +kernel) rfl ?_
    refine A_lcmp (by decide +kernel) ?_
    refine A_if_lt (off := 16) (tgt := 52) (by decide +kernel) (by omega) (fun b7 => ?_) (fun b7 => ?_)
    · have h8 := h6.1 (lcmp_lt.mp b7)
      refine A_iinc (i := 5) (n := 1) (by decide +kernel) (by decide) rfl (fun w h0 hw => by simp at hw; first | (rw [← hw]; decide) | (rw [← hw]; simp)) ?_
      refine A_iinc (i := 6) (n := 1) (by decide +kernel) (by decide) rfl (fun w h0 hw => by simp at hw; first | (rw [← hw]; decide) | (rw [← hw]; simp)) ?_
      refine A_goto (off := (-43)) (tgt := 15) (by decide +kernel) (by omega) ?_
      exact A_weak (lsub.keep (lsub.keep (lsub.keep (lsub.keep (lsub.drop (lsub.keep (lsub.keep (lsub.drop (lsub.drop lsub.nil))))))))) h8
    · have h9 := h6.2 (Int.not_lt.mp (fun e => b7 (lcmp_lt.mpr e)))
      refine A_lload (i := 7) (by decide +kernel) rfl ?_
      refine A_lload_n (i := 3) (f := 3) rfl (by decide +kernel) rfl ?_
      refine A_lcmp (by decide +kernel) ?_
      refine A_if_ne (off := 12) (tgt := 55) (by decide +kernel) (by omega) (fun b10 => ?_) (fun b10 => ?_)
      · have h11 := h9.1 (fun e => b10 (lcmp_eq.mpr e))
        refine A_iinc (i := 6) (n := 1) (by decide +kernel) (by decide) rfl (fun w h0 hw => by simp at hw; first | (rw [← hw]; decide) | (rw [← hw]; simp)) ?_
        refine A_goto (off := (-43)) (tgt := 15) (by decide +kernel) (by omega) ?_
        exact A_weak (lsub.keep (lsub.keep (lsub.keep (lsub.keep (lsub.drop (lsub.keep (lsub.keep (lsub.drop (lsub.drop lsub.nil))))))))) h11
      · have h12 := h9.2 (lcmp_eq.mp (Decidable.not_not.mp b10))
        refine A_iload (i := 6) (by decide +kernel) rfl ?_
        refine A_iload_n (i := 1) (f := 1) rfl (by decide +kernel) rfl ?_
        refine A_ic_ge (off := 6) (tgt := 55) (by decide +kernel) (by omega) (fun b13 => ?_) (fun b13 => ?_)
        · have h14 := h12.1 b13
          refine A_iinc (i := 6) (n := 1) (by decide +kernel) (by decide) rfl (fun w h0 hw => by simp at hw; first | (rw [← hw]; decide) | (rw [← hw]; simp)) ?_
          refine A_goto (off := (-43)) (tgt := 15) (by decide +kernel) (by omega) ?_
          exact A_weak (lsub.keep (lsub.keep (lsub.keep (lsub.keep (lsub.drop (lsub.keep (lsub.keep (lsub.drop (lsub.drop lsub.nil))))))))) h14
        · have h15 := h12.2 (Int.not_le.mp b13)
          refine A_iinc (i := 5) (n := 1) (by decide +kernel) (by decide) rfl (fun w h0 hw => by simp at hw; first | (rw [← hw]; decide) | (rw [← hw]; simp)) ?_
          refine A_iinc (i := 6) (n := 1) (by decide +kernel) (by decide) rfl (fun w h0 hw => by simp at hw; first | (rw [← hw]; decide) | (rw [← hw]; simp)) ?_
          refine A_goto (off := (-43)) (tgt := 15) (by decide +kernel) (by omega) ?_
          exact A_weak (lsub.keep (lsub.keep (lsub.keep (lsub.keep (lsub.drop (lsub.keep (lsub.keep (lsub.drop (lsub.drop lsub.nil))))))))) h15
theorem q_9_claimed {p1 : Nat} {x2 : Int} {M : Mem} {P : Int → Mem → Prop} (h : A m9_claimed 6 0 5 [(18, ((39 : Nat) : Int)), (10, (p1 : Int)), (0, x2), (0, 0), (0, 0)] [] M (Ki P)) : CI m9_claimed 6 [(18, ((39 : Nat) : Int)), (10, (p1 : Int)), (0, x2)] M P := by
  refine CI_of (by decide +kernel) (Nat.le_of_ble_eq_true rfl) ?_
  show A m9_claimed 6 0 0 [(18, ((39 : Nat) : Int)), (10, (p1 : Int)), (0, x2), (2, 0), (2, 0)] [] M (Ki P)
  refine A_iconst (a := 0) (by decide +kernel) (by unfold in32; omega) ?_
  refine A_istore_n (i := 3) (f := 3) rfl (by decide +kernel) (by decide) (fun w h0 hw => by simp at hw; first | (rw [← hw]; decide) | (rw [← hw]; simp)) ?_
  refine A_iconst (a := 0) (by decide +kernel) (by unfold in32; omega) ?_
  refine A_istore (i := 4) (by decide +kernel) (by decide) (fun w h0 hw => by simp at hw; first | (rw [← hw]; decide) | (rw [← hw]; simp)) ?_
  exact A_weak (lsub.keep (lsub.keep (lsub.keep (lsub.keep (lsub.keep lsub.nil))))) h
theorem r_9_claimed_5 {p1 : Nat} {x2 : Int} {x3 : Int} {x4 : Int} {M : Mem} {P : Int → Mem → Prop} (h : ((27 ≤ x4 → (P x3 M)) ∧ (x4 < 27 → (CI m9_standByWay 3 [(18, ((39 : Nat) : Int)), (0, x4)] M (fun r4 M5 => ((r4 = 0 → A m9_claimed 6 0 5 [(18, ((39 : Nat) : Int)), (10, (p1 : Int)), (0, x2), (0, x3), (0, (w32 (x4 + 1)))] [] M5 (Ki P)) ∧ (r4 ≠ 0 → (CI m9_rightRow 5 [(18, ((39 : Nat) : Int)), (10, (p1 : Int))] M5 (fun r10 M11 => ((r10 ≠ x2 → A m9_claimed 6 0 5 [(18, ((39 : Nat) : Int)), (10, (p1 : Int)), (0, x2), (0, x3), (0, (w32 (x4 + 1)))] [] M11 (Ki P)) ∧ (r10 = x2 → A m9_claimed 6 0 5 [(18, ((39 : Nat) : Int)), (10, (p1 : Int)), (0, x2), (0, (ior x3 (ishl 1 x4))), (0, (w32 (x4 + 1)))] [] M11 (Ki P)))))))))))) : A m9_claimed 6 0 5 [(18, ((39 : Nat) : Int)), (10, (p1 : Int)), (0, x2), (0, x3), (0, x4)] [] M (Ki P) := by
  refine A_iload (i := 4) (by decide +kernel) rfl ?_
  refine A_bipush (a := 27) (by decide +kernel) (by unfold in32; omega) (by decide +kernel) ?_
  refine A_ic_ge (off := 34) (tgt := 43) (by decide +kernel) (by omega) (fun b1 => ?_) (fun b1 => ?_)
  · have h2 := h.1 b1
    refine A_iload_n (i := 3) (f := 3) rfl (by decide +kernel) rfl ?_
    exact A_ret ⟨by decide +kernel, Or.inl rfl⟩ ⟨_, rfl, h2⟩
  · have h3 := h.2 (Int.not_le.mp b1)
    refine A_aload_n (i := 0) (f := 0) (by omega) rfl (by decide +kernel) rfl ?_
    refine A_iload (i := 4) (by decide +kernel) rfl ?_
    refine A_cVi (q := (RX9, TX9, 3)) (ci := 8) (o := ((39 : Nat) : Int)) (args := [(0, x4)]) (st := []) (by decide +kernel) cv_m9_standByWay rfl rfl in_m9_standByWay se_m9_standByWay lk_9_72 rfl (by omega) (Nat.le_of_ble_eq_true rfl) h3 (fun r4 M5 _ h6 => ?_)
    refine A_if_eq (off := 19) (tgt := 37) (by decide +kernel) (by omega) (fun b7 => ?_) (fun b7 => ?_)
    · have h8 := h6.1 b7
      refine A_iinc (i := 4) (n := 1) (by decide +kernel) (by decide) rfl (fun w h0 hw => by simp at hw; first | (rw [← hw]; decide) | (rw [← hw]; simp)) ?_
      refine A_goto (off := (-35)) (tgt := 5) (by decide +kernel) (by omega) ?_
      exact A_weak (lsub.keep (lsub.keep (lsub.keep (lsub.keep (lsub.keep lsub.nil))))) h8
    · have h9 := h6.2 b7
      refine A_aload_n (i := 0) (f := 0) (by omega) rfl (by decide +kernel) rfl ?_
      refine A_aload_n (i := 1) (f := 1) (by omega) rfl (by decide +kernel) rfl ?_
      refine A_cVi (q := (RX9, TX9, 3)) (ci := 8) (o := ((39 : Nat) : Int)) (args := [(10, (p1 : Int))]) (st := []) (by decide +kernel) cv_m9_rightRow rfl rfl in_m9_rightRow se_m9_rightRow lk_9_76 rfl (by omega) (Nat.le_of_ble_eq_true rfl) h9 (fun r10 M11 _ h12 => ?_)
      refine A_iload_n (i := 2) (f := 2) rfl (by decide +kernel) rfl ?_
      refine A_ic_ne (off := 10) (tgt := 37) (by decide +kernel) (by omega) (fun b13 => ?_) (fun b13 => ?_)
      · have h14 := h12.1 b13
        refine A_iinc (i := 4) (n := 1) (by decide +kernel) (by decide) rfl (fun w h0 hw => by simp at hw; first | (rw [← hw]; decide) | (rw [← hw]; simp)) ?_
        refine A_goto (off := (-35)) (tgt := 5) (by decide +kernel) (by omega) ?_
        exact A_weak (lsub.keep (lsub.keep (lsub.keep (lsub.keep (lsub.keep lsub.nil))))) h14
      · have h15 := h12.2 (Decidable.not_not.mp b13)
        refine A_iload_n (i := 3) (f := 3) rfl (by decide +kernel) rfl ?_
        refine A_iconst (a := 1) (by decide +kernel) (by unfold in32; omega) ?_
        refine A_iload (i := 4) (by decide +kernel) rfl ?_
        refine A_ishl (by decide +kernel) ?_
        refine A_ior (by decide +kernel) ?_
        refine A_istore_n (i := 3) (f := 3) rfl (by decide +kernel) (by decide) (fun w h0 hw => by simp at hw; first | (rw [← hw]; decide) | (rw [← hw]; simp)) ?_
        refine A_iinc (i := 4) (n := 1) (by decide +kernel) (by decide) rfl (fun w h0 hw => by simp at hw; first | (rw [← hw]; decide) | (rw [← hw]; simp)) ?_
        refine A_goto (off := (-35)) (tgt := 5) (by decide +kernel) (by omega) ?_
        exact A_weak (lsub.keep (lsub.keep (lsub.keep (lsub.keep (lsub.keep lsub.nil))))) h15
theorem q_9_fewestLeft {p1 : Nat} {M : Mem} {P : Int → Mem → Prop} (h : (CI m9_rightRow 5 [(18, ((39 : Nat) : Int)), (10, (p1 : Int))] M (fun r1 M2 => (CI m10_at 1 [(30, ((40 : Nat) : Int)), (0, 0)] M2 (fun r4 M5 => (CI m10_at 1 [(30, ((40 : Nat) : Int)), (0, 1)] M5 (fun r7 M8 => A m9_fewestLeft 6 0 39 [(18, ((39 : Nat) : Int)), (10, (p1 : Int)), (0, r1), (0, r4), (0, r7), (0, (ishl 1 (M8 p1 4))), (0, 0), (0, 0), (2, 0), (2, 0)] [] M8 (Ki P)))))))) : CI m9_fewestLeft 6 [(18, ((39 : Nat) : Int)), (10, (p1 : Int))] M P := by
  refine CI_of (by decide +kernel) (Nat.le_of_ble_eq_true rfl) ?_
  show A m9_fewestLeft 6 0 0 [(18, ((39 : Nat) : Int)), (10, (p1 : Int)), (2, 0), (2, 0), (2, 0), (2, 0), (2, 0), (2, 0), (2, 0), (2, 0)] [] M (Ki P)
  refine A_aload_n (i := 0) (f := 0) (by omega) rfl (by decide +kernel) rfl ?_
  refine A_aload_n (i := 1) (f := 1) (by omega) rfl (by decide +kernel) rfl ?_
  refine A_cVi (q := (RX9, TX9, 3)) (ci := 8) (o := ((39 : Nat) : Int)) (args := [(10, (p1 : Int))]) (st := []) (by decide +kernel) cv_m9_rightRow rfl rfl in_m9_rightRow se_m9_rightRow lk_9_76 rfl (by omega) (Nat.le_of_ble_eq_true rfl) h (fun r1 M2 _ h3 => ?_)
  refine A_istore_n (i := 2) (f := 2) rfl (by decide +kernel) (by decide) (fun w h0 hw => by simp at hw; first | (rw [← hw]; decide) | (rw [← hw]; simp)) ?_
  refine A_aload_n (i := 0) (f := 0) (by omega) rfl (by decide +kernel) rfl ?_
  refine B_getr (o' := ((40 : Nat) : Int)) (q := (RX9, TX9, 3)) (ci := 8) (j := 0) (by decide +kernel) rfl (by decide) rfl (by omega) fl_9_9 rfl ?_
  refine A_iconst (a := 0) (by decide +kernel) (by unfold in32; omega) ?_
  refine A_cSNi (args := [(30, ((40 : Nat) : Int)), (0, 0)]) (st := []) (by decide +kernel) cv_m10_at st_m10_at lk_9_27 rfl (by omega) (Nat.le_of_ble_eq_true rfl) h3 (fun r4 M5 _ h6 => ?_)
  refine A_istore_n (i := 3) (f := 3) rfl (by decide +kernel) (by decide) (fun w h0 hw => by simp at hw; first | (rw [← hw]; decide) | (rw [← hw]; simp)) ?_
  refine A_aload_n (i := 0) (f := 0) (by omega) rfl (by decide +kernel) rfl ?_
  refine B_getr (o' := ((40 : Nat) : Int)) (q := (RX9, TX9, 3)) (ci := 8) (j := 0) (by decide +kernel) rfl (by decide) rfl (by omega) fl_9_9 rfl ?_
  refine A_iconst (a := 1) (by decide +kernel) (by unfold in32; omega) ?_
  refine A_cSNi (args := [(30, ((40 : Nat) : Int)), (0, 1)]) (st := []) (by decide +kernel) cv_m10_at st_m10_at lk_9_27 rfl (by omega) (Nat.le_of_ble_eq_true rfl) h6 (fun r7 M8 _ h9 => ?_)
  refine A_istore (i := 4) (by decide +kernel) (by decide) (fun w h0 hw => by simp at hw; first | (rw [← hw]; decide) | (rw [← hw]; simp)) ?_
  refine A_iconst (a := 1) (by decide +kernel) (by unfold in32; omega) ?_
  refine A_aload_n (i := 1) (f := 1) (by omega) rfl (by decide +kernel) rfl ?_
  refine B_getp (v := (M8 p1 4)) (q := (RX0, TX0, 9)) (ci := 0) (j := 4) (p := 4) (by decide +kernel) rfl (by decide) rfl (Or.inl rfl) fl_9_45 rfl ?_
  refine A_ishl (by decide +kernel) ?_
  refine A_istore (i := 5) (by decide +kernel) (by decide) (fun w h0 hw => by simp at hw; first | (rw [← hw]; decide) | (rw [← hw]; simp)) ?_
  refine A_iconst (a := 0) (by decide +kernel) (by unfold in32; omega) ?_
  refine A_istore (i := 6) (by decide +kernel) (by decide) (fun w h0 hw => by simp at hw; first | (rw [← hw]; decide) | (rw [← hw]; simp)) ?_
  refine A_iconst (a := 0) (by decide +kernel) (by unfold in32; omega) ?_
  refine A_istore (i := 7) (by decide +kernel) (by decide) (fun w h0 hw => by simp at hw; first | (rw [← hw]; decide) | (rw [← hw]; simp)) ?_
  exact A_weak (lsub.keep (lsub.keep (lsub.keep (lsub.keep (lsub.keep (lsub.keep (lsub.keep (lsub.keep (lsub.drop (lsub.drop lsub.nil)))))))))) h9
theorem r_9_fewestLeft_39 {p1 : Nat} {x2 : Int} {x3 : Int} {x4 : Int} {x5 : Int} {x6 : Int} {x7 : Int} {M : Mem} {P : Int → Mem → Prop} (h : ((27 ≤ x7 → A m9_fewestLeft 6 0 121 [(2, 0), (2, 0), (2, 0), (2, 0), (2, 0), (0, x5), (0, x6), (0, (-1)), (0, 0), (2, 0)] [] M (Ki P)) ∧ (x7 < 27 → (((w32 ((w32 (Int.tdiv x7 9)) - 1)) < x3 → (CI m9_standByWay 3 [(18, ((39 : Nat) : Int)), (0, x7)] M (fun r7 M8 => ((r7 = 0 → A m9_fewestLeft 6 0 39 [(18, ((39 : Nat) : Int)), (10, (p1 : Int)), (0, x2), (0, x3), (0, x4), (0, x5), (0, x6), (0, (w32 (x7 + 1))), (2, 0), (2, 0)] [] M8 (Ki P)) ∧ (r7 ≠ 0 → (CI m9_rightRow 5 [(18, ((39 : Nat) : Int)), (10, (p1 : Int))] M8 (fun r13 M14 => (CI m9_alike 3 [(0, x2), (0, r13), (0, (M14 p1 4))] M14 (fun r16 M17 => A m9_fewestLeft 6 0 39 [(18, ((39 : Nat) : Int)), (10, (p1 : Int)), (0, x2), (0, x3), (0, x4), (0, x5), (0, (ior x6 r16)), (0, (w32 (x7 + 1))), (2, 0), (2, 0)] [] M17 (Ki P)))))))))) ∧ (x3 ≤ (w32 ((w32 (Int.tdiv x7 9)) - 1)) → ((x4 ≤ (w32 ((w32 (Int.tmod (w32 (Int.tdiv x7 3)) 3)) - 1)) → A m9_fewestLeft 6 0 39 [(18, ((39 : Nat) : Int)), (10, (p1 : Int)), (0, x2), (0, x3), (0, x4), (0, x5), (0, x6), (0, (w32 (x7 + 1))), (2, 0), (2, 0)] [] M (Ki P)) ∧ ((w32 ((w32 (Int.tmod (w32 (Int.tdiv x7 3)) 3)) - 1)) < x4 → (CI m9_standByWay 3 [(18, ((39 : Nat) : Int)), (0, x7)] M (fun r22 M23 => ((r22 = 0 → A m9_fewestLeft 6 0 39 [(18, ((39 : Nat) : Int)), (10, (p1 : Int)), (0, x2), (0, x3), (0, x4), (0, x5), (0, x6), (0, (w32 (x7 + 1))), (2, 0), (2, 0)] [] M23 (Ki P)) ∧ (r22 ≠ 0 → (CI m9_rightRow 5 [(18, ((39 : Nat) : Int)), (10, (p1 : Int))] M23 (fun r28 M29 => (CI m9_alike 3 [(0, x2), (0, r28), (0, (M29 p1 4))] M29 (fun r31 M32 => A m9_fewestLeft 6 0 39 [(18, ((39 : Nat) : Int)), (10, (p1 : Int)), (0, x2), (0, x3), (0, x4), (0, x5), (0, (ior x6 r31)), (0, (w32 (x7 + 1))), (2, 0), (2, 0)] [] M32 (Ki P)))))))))))))))) : A m9_fewestLeft 6 0 39 [(18, ((39 : Nat) : Int)), (10, (p1 : Int)), (0, x2), (0, x3), (0, x4), (0, x5), (0, x6), (0, x7), (2, 0), (2, 0)] [] M (Ki P) := by
  refine A_iload (i := 7) (by decide +kernel) rfl ?_
  refine A_bipush (a := 27) (by decide +kernel) (by unfold in32; omega) (by decide +kernel) ?_
  refine A_ic_ge (off := 72) (tgt := 115) (by decide +kernel) (by omega) (fun b1 => ?_) (fun b1 => ?_)
  · have h2 := h.1 b1
    refine A_iconst (a := (-1)) (by decide +kernel) (by unfold in32; omega) ?_
    refine A_istore (i := 7) (by decide +kernel) (by decide) (fun w h0 hw => by simp at hw; first | (rw [← hw]; decide) | (rw [← hw]; simp)) ?_
    refine A_iconst (a := 0) (by decide +kernel) (by unfold in32; omega) ?_
    refine A_istore (i := 8) (by decide +kernel) (by decide) (fun w h0 hw => by simp at hw; first | (rw [← hw]; decide) | (rw [← hw]; simp)) ?_
    exact A_weak (lsub.drop (lsub.drop (lsub.drop (lsub.drop (lsub.drop (lsub.keep (lsub.keep (lsub.keep (lsub.keep (lsub.drop lsub.nil)))))))))) h2
  · have h3 := h.2 (Int.not_le.mp b1)
    refine A_iload (i := 7) (by decide +kernel) rfl ?_
    refine A_bipush (a := 9) (by decide +kernel) (by unfold in32; omega) (by decide +kernel) ?_
    refine A_idiv (by decide +kernel) (by omega) ?_
    refine A_iconst (a := 1) (by decide +kernel) (by unfold in32; omega) ?_
    refine A_isub (by decide +kernel) ?_
    refine A_iload_n (i := 3) (f := 3) rfl (by decide +kernel) rfl ?_
    refine A_ic_lt (off := 16) (tgt := 70) (by decide +kernel) (by omega) (fun b4 => ?_) (fun b4 => ?_)
    · have h5 := h3.1 b4
      refine A_iconst (a := 1) (by decide +kernel) (by unfold in32; omega) ?_
      refine A_goto (off := 4) (tgt := 75) (by decide +kernel) (by omega) ?_
      refine A_istore (i := 8) (by decide +kernel) (by decide) (fun w h0 hw => by simp at hw; first | (rw [← hw]; decide) | (rw [← hw]; simp)) ?_
      refine A_iload (i := 8) (by decide +kernel) rfl ?_
      refine A_if_eq (off := 30) (tgt := 109) (by decide +kernel) (by omega) (fun hb => absurd hb (by decide)) (fun _ => ?_)
      refine A_aload_n (i := 0) (f := 0) (by omega) rfl (by decide +kernel) rfl ?_
      refine A_iload (i := 7) (by decide +kernel) rfl ?_
      refine A_cVi (q := (RX9, TX9, 3)) (ci := 8) (o := ((39 : Nat) : Int)) (args := [(0, x7)]) (st := []) (by decide +kernel) cv_m9_standByWay rfl rfl in_m9_standByWay se_m9_standByWay lk_9_72 rfl (by omega) (Nat.le_of_ble_eq_true rfl) h5 (fun r7 M8 _ h9 => ?_)
      refine A_if_eq (off := 21) (tgt := 109) (by decide +kernel) (by omega) (fun b10 => ?_) (fun b10 => ?_)
      · have h11 := h9.1 b10
        refine A_iinc (i := 7) (n := 1) (by decide +kernel) (by decide) rfl (fun w h0 hw => by simp at hw; first | (rw [← hw]; decide) | (rw [← hw]; simp)) ?_
        refine A_goto (off := (-73)) (tgt := 39) (by decide +kernel) (by omega) ?_
        exact A_weak (lsub.keep (lsub.keep (lsub.keep (lsub.keep (lsub.keep (lsub.keep (lsub.keep (lsub.keep (lsub.drop (lsub.drop lsub.nil)))))))))) h11
      · have h12 := h9.2 b10
        refine A_iload (i := 6) (by decide +kernel) rfl ?_
        refine A_iload_n (i := 2) (f := 2) rfl (by decide +kernel) rfl ?_
        refine A_aload_n (i := 0) (f := 0) (by omega) rfl (by decide +kernel) rfl ?_
        refine A_aload_n (i := 1) (f := 1) (by omega) rfl (by decide +kernel) rfl ?_
        refine A_cVi (q := (RX9, TX9, 3)) (ci := 8) (o := ((39 : Nat) : Int)) (args := [(10, (p1 : Int))]) (st := [(0, x2), (0, x6)]) (by decide +kernel) cv_m9_rightRow rfl rfl in_m9_rightRow se_m9_rightRow lk_9_76 rfl (by omega) (Nat.le_of_ble_eq_true rfl) h12 (fun r13 M14 _ h15 => ?_)
        refine A_aload_n (i := 1) (f := 1) (by omega) rfl (by decide +kernel) rfl ?_
        refine B_getp (v := (M14 p1 4)) (q := (RX0, TX0, 9)) (ci := 0) (j := 4) (p := 4) (by decide +kernel) rfl (by decide) rfl (Or.inl rfl) fl_9_45 rfl ?_
        refine A_cSi (args := [(0, x2), (0, r13), (0, (M14 p1 4))]) (st := [(0, x6)]) (by decide +kernel) cv_m9_alike st_m9_alike lk_9_80 rfl (by omega) (Nat.le_of_ble_eq_true rfl) h15 (fun r16 M17 _ h18 => ?_)
        refine A_ior (by decide +kernel) ?_
        refine A_istore (i := 6) (by decide +kernel) (by decide) (fun w h0 hw => by simp at hw; first | (rw [← hw]; decide) | (rw [← hw]; simp)) ?_
        refine A_iinc (i := 7) (n := 1) (by decide +kernel) (by decide) rfl (fun w h0 hw => by simp at hw; first | (rw [← hw]; decide) | (rw [← hw]; simp)) ?_
        refine A_goto (off := (-73)) (tgt := 39) (by decide +kernel) (by omega) ?_
        exact A_weak (lsub.keep (lsub.keep (lsub.keep (lsub.keep (lsub.keep (lsub.keep (lsub.keep (lsub.keep (lsub.drop (lsub.drop lsub.nil)))))))))) h18
    · have h6 := h3.2 (Int.not_lt.mp b4)
      refine A_iload (i := 7) (by decide +kernel) rfl ?_
      refine A_iconst (a := 3) (by decide +kernel) (by unfold in32; omega) ?_
      refine A_idiv (by decide +kernel) (by omega) ?_
      refine A_iconst (a := 3) (by decide +kernel) (by unfold in32; omega) ?_
      refine A_irem (by decide +kernel) (by omega) ?_
      refine A_iconst (a := 1) (by decide +kernel) (by unfold in32; omega) ?_
      refine A_isub (by decide +kernel) ?_
      refine A_iload (i := 4) (by decide +kernel) rfl ?_
      refine A_ic_ge (off := 7) (tgt := 74) (by decide +kernel) (by omega) (fun b19 => ?_) (fun b19 => ?_)
      · have h20 := h6.1 b19
        refine A_iconst (a := 0) (by decide +kernel) (by unfold in32; omega) ?_
        refine A_istore (i := 8) (by decide +kernel) (by decide) (fun w h0 hw => by simp at hw; first | (rw [← hw]; decide) | (rw [← hw]; simp)) ?_
        refine A_iload (i := 8) (by decide +kernel) rfl ?_
        refine A_if_eq (off := 30) (tgt := 109) (by decide +kernel) (by omega) (fun _ => ?_) (fun hb => absurd (by decide) hb)
        refine A_iinc (i := 7) (n := 1) (by decide +kernel) (by decide) rfl (fun w h0 hw => by simp at hw; first | (rw [← hw]; decide) | (rw [← hw]; simp)) ?_
        refine A_goto (off := (-73)) (tgt := 39) (by decide +kernel) (by omega) ?_
        exact A_weak (lsub.keep (lsub.keep (lsub.keep (lsub.keep (lsub.keep (lsub.keep (lsub.keep (lsub.keep (lsub.drop (lsub.drop lsub.nil)))))))))) h20
      · have h21 := h6.2 (Int.not_le.mp b19)
        refine A_iconst (a := 1) (by decide +kernel) (by unfold in32; omega) ?_
        refine A_goto (off := 4) (tgt := 75) (by decide +kernel) (by omega) ?_
        refine A_istore (i := 8) (by decide +kernel) (by decide) (fun w h0 hw => by simp at hw; first | (rw [← hw]; decide) | (rw [← hw]; simp)) ?_
        refine A_iload (i := 8) (by decide +kernel) rfl ?_
        refine A_if_eq (off := 30) (tgt := 109) (by decide +kernel) (by omega) (fun hb => absurd hb (by decide)) (fun _ => ?_)
        refine A_aload_n (i := 0) (f := 0) (by omega) rfl (by decide +kernel) rfl ?_
        refine A_iload (i := 7) (by decide +kernel) rfl ?_
        refine A_cVi (q := (RX9, TX9, 3)) (ci := 8) (o := ((39 : Nat) : Int)) (args := [(0, x7)]) (st := []) (by decide +kernel) cv_m9_standByWay rfl rfl in_m9_standByWay se_m9_standByWay lk_9_72 rfl (by omega) (Nat.le_of_ble_eq_true rfl) h21 (fun r22 M23 _ h24 => ?_)
        refine A_if_eq (off := 21) (tgt := 109) (by decide +kernel) (by omega) (fun b25 => ?_) (fun b25 => ?_)
        · have h26 := h24.1 b25
          refine A_iinc (i := 7) (n := 1) (by decide +kernel) (by decide) rfl (fun w h0 hw => by simp at hw; first | (rw [← hw]; decide) | (rw [← hw]; simp)) ?_
          refine A_goto (off := (-73)) (tgt := 39) (by decide +kernel) (by omega) ?_
          exact A_weak (lsub.keep (lsub.keep (lsub.keep (lsub.keep (lsub.keep (lsub.keep (lsub.keep (lsub.keep (lsub.drop (lsub.drop lsub.nil)))))))))) h26
        · have h27 := h24.2 b25
          refine A_iload (i := 6) (by decide +kernel) rfl ?_
          refine A_iload_n (i := 2) (f := 2) rfl (by decide +kernel) rfl ?_
          refine A_aload_n (i := 0) (f := 0) (by omega) rfl (by decide +kernel) rfl ?_
          refine A_aload_n (i := 1) (f := 1) (by omega) rfl (by decide +kernel) rfl ?_
          refine A_cVi (q := (RX9, TX9, 3)) (ci := 8) (o := ((39 : Nat) : Int)) (args := [(10, (p1 : Int))]) (st := [(0, x2), (0, x6)]) (by decide +kernel) cv_m9_rightRow rfl rfl in_m9_rightRow se_m9_rightRow lk_9_76 rfl (by omega) (Nat.le_of_ble_eq_true rfl) h27 (fun r28 M29 _ h30 => ?_)
          refine A_aload_n (i := 1) (f := 1) (by omega) rfl (by decide +kernel) rfl ?_
          refine B_getp (v := (M29 p1 4)) (q := (RX0, TX0, 9)) (ci := 0) (j := 4) (p := 4) (by decide +kernel) rfl (by decide) rfl (Or.inl rfl) fl_9_45 rfl ?_
          refine A_cSi (args := [(0, x2), (0, r28), (0, (M29 p1 4))]) (st := [(0, x6)]) (by decide +kernel) cv_m9_alike st_m9_alike lk_9_80 rfl (by omega) (Nat.le_of_ble_eq_true rfl) h30 (fun r31 M32 _ h33 => ?_)
          refine A_ior (by decide +kernel) ?_
          refine A_istore (i := 6) (by decide +kernel) (by decide) (fun w h0 hw => by simp at hw; first | (rw [← hw]; decide) | (rw [← hw]; simp)) ?_
          refine A_iinc (i := 7) (n := 1) (by decide +kernel) (by decide) rfl (fun w h0 hw => by simp at hw; first | (rw [← hw]; decide) | (rw [← hw]; simp)) ?_
          refine A_goto (off := (-73)) (tgt := 39) (by decide +kernel) (by omega) ?_
          exact A_weak (lsub.keep (lsub.keep (lsub.keep (lsub.keep (lsub.keep (lsub.keep (lsub.keep (lsub.keep (lsub.drop (lsub.drop lsub.nil)))))))))) h33
theorem r_9_fewestLeft_121 {p1 : Nat} {x5 : Int} {x6 : Int} {x7 : Int} {x8 : Int} {M : Mem} {P : Int → Mem → Prop} (h : ((x5 ≤ x8 → (P x7 M)) ∧ (x8 < x5 → ((x7 = (-1) → (((iand (ishr x6 x8) 1) ≠ 0 → A m9_fewestLeft 6 0 121 [(2, 0), (2, 0), (2, 0), (2, 0), (2, 0), (0, x5), (0, x6), (0, x7), (0, (w32 (x8 + 1))), (2, 0)] [] M (Ki P)) ∧ ((iand (ishr x6 x8) 1) = 0 → A m9_fewestLeft 6 0 121 [(2, 0), (2, 0), (2, 0), (2, 0), (2, 0), (0, x5), (0, x6), (0, x8), (0, (w32 (x8 + 1))), (2, 0)] [] M (Ki P)))) ∧ (x7 ≠ (-1) → (CI mJ_bitCount 1 [(0, x8)] M (fun r10 M11 => (CI mJ_bitCount 1 [(0, x7)] M11 (fun r13 M14 => ((r13 ≤ r10 → A m9_fewestLeft 6 0 121 [(2, 0), (2, 0), (2, 0), (2, 0), (2, 0), (0, x5), (0, x6), (0, x7), (0, (w32 (x8 + 1))), (2, 0)] [] M14 (Ki P)) ∧ (r10 < r13 → (((iand (ishr x6 x8) 1) ≠ 0 → A m9_fewestLeft 6 0 121 [(2, 0), (2, 0), (2, 0), (2, 0), (2, 0), (0, x5), (0, x6), (0, x7), (0, (w32 (x8 + 1))), (2, 0)] [] M14 (Ki P)) ∧ ((iand (ishr x6 x8) 1) = 0 → A m9_fewestLeft 6 0 121 [(2, 0), (2, 0), (2, 0), (2, 0), (2, 0), (0, x5), (0, x6), (0, x8), (0, (w32 (x8 + 1))), (2, 0)] [] M14 (Ki P)))))))))))))) : A m9_fewestLeft 6 0 121 [(2, 0), (2, 0), (2, 0), (2, 0), (2, 0), (0, x5), (0, x6), (0, x7), (0, x8), (2, 0)] [] M (Ki P) := by
  refine A_iload (i := 8) (by decide +kernel) rfl ?_
  refine A_iload (i := 5) (by decide +kernel) rfl ?_
  refine A_ic_ge (off := 54) (tgt := 179) (by decide +kernel) (by omega) (fun b1 => ?_) (fun b1 => ?_)
  · have h2 := h.1 b1
    refine A_iload (i := 7) (by decide +kernel) rfl ?_
    exact A_ret ⟨by decide +kernel, Or.inl rfl⟩ ⟨_, rfl, h2⟩
  · have h3 := h.2 (Int.not_le.mp b1)
    refine A_iload (i := 7) (by decide +kernel) rfl ?_
    refine A_iconst (a := (-1)) (by decide +kernel) (by unfold in32; omega) ?_
    refine A_ic_eq (off := 16) (tgt := 147) (by decide +kernel) (by omega) (fun b4 => ?_) (fun b4 => ?_)
    · have h5 := h3.1 b4
      refine A_iconst (a := 1) (by decide +kernel) (by unfold in32; omega) ?_
      refine A_goto (off := 4) (tgt := 152) (by decide +kernel) (by omega) ?_
      refine A_istore (i := 9) (by decide +kernel) (by decide) (fun w h0 hw => by simp at hw; first | (rw [← hw]; decide) | (rw [← hw]; simp)) ?_
      refine A_iload (i := 9) (by decide +kernel) rfl ?_
      refine A_if_eq (off := 17) (tgt := 173) (by decide +kernel) (by omega) (fun hb => absurd hb (by decide)) (fun _ => ?_)
      refine A_iload (i := 6) (by decide +kernel) rfl ?_
      refine A_iload (i := 8) (by decide +kernel) rfl ?_
      refine A_ishr (by decide +kernel) ?_
      refine A_iconst (a := 1) (by decide +kernel) (by unfold in32; omega) ?_
      refine A_iand (by decide +kernel) ?_
      refine A_if_ne (off := 7) (tgt := 173) (by decide +kernel) (by omega) (fun b7 => ?_) (fun b7 => ?_)
      · have h8 := h5.1 b7
        refine A_iinc (i := 8) (n := 1) (by decide +kernel) (by decide) rfl (fun w h0 hw => by simp at hw; first | (rw [← hw]; decide) | (rw [← hw]; simp)) ?_
        refine A_goto (off := (-55)) (tgt := 121) (by decide +kernel) (by omega) ?_
        exact A_weak (lsub.drop (lsub.drop (lsub.drop (lsub.drop (lsub.drop (lsub.keep (lsub.keep (lsub.keep (lsub.keep (lsub.drop lsub.nil)))))))))) h8
      · have h9 := h5.2 (Decidable.not_not.mp b7)
        refine A_iload (i := 8) (by decide +kernel) rfl ?_
        refine A_istore (i := 7) (by decide +kernel) (by decide) (fun w h0 hw => by simp at hw; first | (rw [← hw]; decide) | (rw [← hw]; simp)) ?_
        refine A_iinc (i := 8) (n := 1) (by decide +kernel) (by decide) rfl (fun w h0 hw => by simp at hw; first | (rw [← hw]; decide) | (rw [← hw]; simp)) ?_
        refine A_goto (off := (-55)) (tgt := 121) (by decide +kernel) (by omega) ?_
        exact A_weak (lsub.drop (lsub.drop (lsub.drop (lsub.drop (lsub.drop (lsub.keep (lsub.keep (lsub.keep (lsub.keep (lsub.drop lsub.nil)))))))))) h9
    · have h6 := h3.2 b4
      refine A_iload (i := 8) (by decide +kernel) rfl ?_
      refine A_cSi (args := [(0, x8)]) (st := []) (by decide +kernel) cv_mJ_bitCount st_mJ_bitCount lk_9_84 rfl (by omega) (Nat.le_of_ble_eq_true rfl) h6 (fun r10 M11 _ h12 => ?_)
      refine A_iload (i := 7) (by decide +kernel) rfl ?_
      refine A_cSi (args := [(0, x7)]) (st := [(0, r10)]) (by decide +kernel) cv_mJ_bitCount st_mJ_bitCount lk_9_84 rfl (by omega) (Nat.le_of_ble_eq_true rfl) h12 (fun r13 M14 _ h15 => ?_)
      refine A_ic_ge (off := 7) (tgt := 151) (by decide +kernel) (by omega) (fun b16 => ?_) (fun b16 => ?_)
      · have h17 := h15.1 b16
        refine A_iconst (a := 0) (by decide +kernel) (by unfold in32; omega) ?_
        refine A_istore (i := 9) (by decide +kernel) (by decide) (fun w h0 hw => by simp at hw; first | (rw [← hw]; decide) | (rw [← hw]; simp)) ?_
        refine A_iload (i := 9) (by decide +kernel) rfl ?_
        refine A_if_eq (off := 17) (tgt := 173) (by decide +kernel) (by omega) (fun _ => ?_) (fun hb => absurd (by decide) hb)
        refine A_iinc (i := 8) (n := 1) (by decide +kernel) (by decide) rfl (fun w h0 hw => by simp at hw; first | (rw [← hw]; decide) | (rw [← hw]; simp)) ?_
        refine A_goto (off := (-55)) (tgt := 121) (by decide +kernel) (by omega) ?_
        exact A_weak (lsub.drop (lsub.drop (lsub.drop (lsub.drop (lsub.drop (lsub.keep (lsub.keep (lsub.keep (lsub.keep (lsub.drop lsub.nil)))))))))) h17
      · have h18 := h15.2 (Int.not_le.mp b16)
        refine A_iconst (a := 1) (by decide +kernel) (by unfold in32; omega) ?_
        refine A_goto (off := 4) (tgt := 152) (by decide +kernel) (by omega) ?_
        refine A_istore (i := 9) (by decide +kernel) (by decide) (fun w h0 hw => by simp at hw; first | (rw [← hw]; decide) | (rw [← hw]; simp)) ?_
        refine A_iload (i := 9) (by decide +kernel) rfl ?_
        refine A_if_eq (off := 17) (tgt := 173) (by decide +kernel) (by omega) (fun hb => absurd hb (by decide)) (fun _ => ?_)
        refine A_iload (i := 6) (by decide +kernel) rfl ?_
        refine A_iload (i := 8) (by decide +kernel) rfl ?_
        refine A_ishr (by decide +kernel) ?_
        refine A_iconst (a := 1) (by decide +kernel) (by unfold in32; omega) ?_
        refine A_iand (by decide +kernel) ?_
        refine A_if_ne (off := 7) (tgt := 173) (by decide +kernel) (by omega) (fun b19 => ?_) (fun b19 => ?_)
        · have h20 := h18.1 b19
          refine A_iinc (i := 8) (n := 1) (by decide +kernel) (by decide) rfl (fun w h0 hw => by simp at hw; first | (rw [← hw]; decide) | (rw [← hw]; simp)) ?_
          refine A_goto (off := (-55)) (tgt := 121) (by decide +kernel) (by omega) ?_
          exact A_weak (lsub.drop (lsub.drop (lsub.drop (lsub.drop (lsub.drop (lsub.keep (lsub.keep (lsub.keep (lsub.keep (lsub.drop lsub.nil)))))))))) h20
        · have h21 := h18.2 (Decidable.not_not.mp b19)
          refine A_iload (i := 8) (by decide +kernel) rfl ?_
          refine A_istore (i := 7) (by decide +kernel) (by decide) (fun w h0 hw => by simp at hw; first | (rw [← hw]; decide) | (rw [← hw]; simp)) ?_
          refine A_iinc (i := 8) (n := 1) (by decide +kernel) (by decide) rfl (fun w h0 hw => by simp at hw; first | (rw [← hw]; decide) | (rw [← hw]; simp)) ?_
          refine A_goto (off := (-55)) (tgt := 121) (by decide +kernel) (by omega) ?_
          exact A_weak (lsub.drop (lsub.drop (lsub.drop (lsub.drop (lsub.drop (lsub.keep (lsub.keep (lsub.keep (lsub.keep (lsub.drop lsub.nil)))))))))) h21
theorem q_9_alike {x0 : Int} {x1 : Int} {x2 : Int} {M : Mem} {P : Int → Mem → Prop} (h : A m9_alike 3 0 5 [(0, x0), (0, x1), (0, x2), (0, 0), (0, 0)] [] M (Ki P)) : CI m9_alike 3 [(0, x0), (0, x1), (0, x2)] M P := by
  refine CI_of (by decide +kernel) (Nat.le_of_ble_eq_true rfl) ?_
  show A m9_alike 3 0 0 [(0, x0), (0, x1), (0, x2), (2, 0), (2, 0)] [] M (Ki P)
  refine A_iconst (a := 0) (by decide +kernel) (by unfold in32; omega) ?_
  refine A_istore_n (i := 3) (f := 3) rfl (by decide +kernel) (by decide) (fun w h0 hw => by simp at hw; first | (rw [← hw]; decide) | (rw [← hw]; simp)) ?_
  refine A_iconst (a := 0) (by decide +kernel) (by unfold in32; omega) ?_
  refine A_istore (i := 4) (by decide +kernel) (by decide) (fun w h0 hw => by simp at hw; first | (rw [← hw]; decide) | (rw [← hw]; simp)) ?_
  exact A_weak (lsub.keep (lsub.keep (lsub.keep (lsub.keep (lsub.keep lsub.nil))))) h
theorem r_9_alike_5 {x0 : Int} {x1 : Int} {x2 : Int} {x3 : Int} {x4 : Int} {M : Mem} {P : Int → Mem → Prop} (h : (((ishl 1 x2) ≤ x4 → (P x3 M)) ∧ (x4 < (ishl 1 x2) → (CI m8_left 2 [(0, x0), (0, x4), (0, x2)] M (fun r4 M5 => (CI m8_left 2 [(0, x1), (0, x4), (0, x2)] M5 (fun r7 M8 => ((r4 ≠ r7 → A m9_alike 3 0 5 [(0, x0), (0, x1), (0, x2), (0, x3), (0, (w32 (x4 + 1)))] [] M8 (Ki P)) ∧ (r4 = r7 → A m9_alike 3 0 5 [(0, x0), (0, x1), (0, x2), (0, (ior x3 (ishl 1 x4))), (0, (w32 (x4 + 1)))] [] M8 (Ki P)))))))))) : A m9_alike 3 0 5 [(0, x0), (0, x1), (0, x2), (0, x3), (0, x4)] [] M (Ki P) := by
  refine A_iload (i := 4) (by decide +kernel) rfl ?_
  refine A_iconst (a := 1) (by decide +kernel) (by unfold in32; omega) ?_
  refine A_iload_n (i := 2) (f := 2) rfl (by decide +kernel) rfl ?_
  refine A_ishl (by decide +kernel) ?_
  refine A_ic_ge (off := 33) (tgt := 43) (by decide +kernel) (by omega) (fun b1 => ?_) (fun b1 => ?_)
  · have h2 := h.1 b1
    refine A_iload_n (i := 3) (f := 3) rfl (by decide +kernel) rfl ?_
    exact A_ret ⟨by decide +kernel, Or.inl rfl⟩ ⟨_, rfl, h2⟩
  · have h3 := h.2 (Int.not_le.mp b1)
    refine A_iload_n (i := 0) (f := 0) rfl (by decide +kernel) rfl ?_
    refine A_iload (i := 4) (by decide +kernel) rfl ?_
    refine A_iload_n (i := 2) (f := 2) rfl (by decide +kernel) rfl ?_
    refine A_cSi (args := [(0, x0), (0, x4), (0, x2)]) (st := []) (by decide +kernel) cv_m8_left st_m8_left lk_9_90 rfl (by omega) (Nat.le_of_ble_eq_true rfl) h3 (fun r4 M5 _ h6 => ?_)
    refine A_iload_n (i := 1) (f := 1) rfl (by decide +kernel) rfl ?_
    refine A_iload (i := 4) (by decide +kernel) rfl ?_
    refine A_iload_n (i := 2) (f := 2) rfl (by decide +kernel) rfl ?_
    refine A_cSi (args := [(0, x1), (0, x4), (0, x2)]) (st := [(0, r4)]) (by decide +kernel) cv_m8_left st_m8_left lk_9_90 rfl (by omega) (Nat.le_of_ble_eq_true rfl) h6 (fun r7 M8 _ h9 => ?_)
    refine A_ic_ne (off := 10) (tgt := 37) (by decide +kernel) (by omega) (fun b10 => ?_) (fun b10 => ?_)
    · have h11 := h9.1 b10
      refine A_iinc (i := 4) (n := 1) (by decide +kernel) (by decide) rfl (fun w h0 hw => by simp at hw; first | (rw [← hw]; decide) | (rw [← hw]; simp)) ?_
      refine A_goto (off := (-35)) (tgt := 5) (by decide +kernel) (by omega) ?_
      exact A_weak (lsub.keep (lsub.keep (lsub.keep (lsub.keep (lsub.keep lsub.nil))))) h11
    · have h12 := h9.2 (Decidable.not_not.mp b10)
      refine A_iload_n (i := 3) (f := 3) rfl (by decide +kernel) rfl ?_
      refine A_iconst (a := 1) (by decide +kernel) (by unfold in32; omega) ?_
      refine A_iload (i := 4) (by decide +kernel) rfl ?_
      refine A_ishl (by decide +kernel) ?_
      refine A_ior (by decide +kernel) ?_
      refine A_istore_n (i := 3) (f := 3) rfl (by decide +kernel) (by decide) (fun w h0 hw => by simp at hw; first | (rw [← hw]; decide) | (rw [← hw]; simp)) ?_
      refine A_iinc (i := 4) (n := 1) (by decide +kernel) (by decide) rfl (fun w h0 hw => by simp at hw; first | (rw [← hw]; decide) | (rw [← hw]; simp)) ?_
      refine A_goto (off := (-35)) (tgt := 5) (by decide +kernel) (by omega) ?_
      exact A_weak (lsub.keep (lsub.keep (lsub.keep (lsub.keep (lsub.keep lsub.nil))))) h12
theorem q_9_hearHall {p1 : Nat} {p2 : Nat} {x3 : Int} {x4 : Int} {x5 : Int} {x6 : Int} {M : Mem} {P : Mem → Prop} (h : A m9_hearHall 6 0 3 [(18, ((39 : Nat) : Int)), (15, (p1 : Int)), (10, (p2 : Int)), (0, x3), (0, x4), (0, x5), (0, x6), (0, 0)] [] M (Kd P)) : CD m9_hearHall 6 [(18, ((39 : Nat) : Int)), (15, (p1 : Int)), (10, (p2 : Int)), (0, x3), (0, x4), (0, x5), (0, x6)] M P := by
  refine CD_of (by decide +kernel) (Nat.le_of_ble_eq_true rfl) ?_
  show A m9_hearHall 6 0 0 [(18, ((39 : Nat) : Int)), (15, (p1 : Int)), (10, (p2 : Int)), (0, x3), (0, x4), (0, x5), (0, x6), (2, 0)] [] M (Kd P)
  refine A_iconst (a := 0) (by decide +kernel) (by unfold in32; omega) ?_
  refine A_istore (i := 7) (by decide +kernel) (by decide) (fun w h0 hw => by simp at hw; first | (rw [← hw]; decide) | (rw [← hw]; simp)) ?_
  exact A_weak (lsub.keep (lsub.keep (lsub.keep (lsub.keep (lsub.keep (lsub.keep (lsub.keep (lsub.keep lsub.nil)))))))) h
theorem r_9_hearHall_3 {p1 : Nat} {p2 : Nat} {x3 : Int} {x4 : Int} {x5 : Int} {x6 : Int} {x7 : Int} {M : Mem} {P : Mem → Prop} (h : (((M p2 2) ≤ x7 → (P M)) ∧ (x7 < (M p2 2) → (((iand (ishr x5 x7) 1) ≠ 1 → A m9_hearHall 6 0 3 [(18, ((39 : Nat) : Int)), (15, (p1 : Int)), (10, (p2 : Int)), (0, x3), (0, x4), (0, x5), (0, x6), (0, (w32 (x7 + 1)))] [] M (Kd P)) ∧ ((iand (ishr x5 x7) 1) = 1 → (CD m9_meet 2 [(18, ((39 : Nat) : Int)), (10, (p2 : Int)), (0, x4), (0, x7), (0, x6), (0, x3)] M (fun M8 => (CD m9_standBy 4 [(18, ((39 : Nat) : Int)), (15, (p1 : Int)), (0, x4), (0, x7), (0, x6)] M8 (fun M11 => (CI m9_rightRow 5 [(18, ((39 : Nat) : Int)), (10, (p2 : Int))] M11 (fun r13 M14 => (CD m10_put 1 [(30, ((42 : Nat) : Int)), (0, x7), (0, r13)] M14 (fun M17 => A m9_hearHall 6 0 3 [(18, ((39 : Nat) : Int)), (15, (p1 : Int)), (10, (p2 : Int)), (0, x3), (0, x4), (0, x5), (0, x6), (0, (w32 (x7 + 1)))] [] M17 (Kd P)))))))))))))) : A m9_hearHall 6 0 3 [(18, ((39 : Nat) : Int)), (15, (p1 : Int)), (10, (p2 : Int)), (0, x3), (0, x4), (0, x5), (0, x6), (0, x7)] [] M (Kd P) := by
  refine A_iload (i := 7) (by decide +kernel) rfl ?_
  refine A_aload_n (i := 2) (f := 2) (by omega) rfl (by decide +kernel) rfl ?_
  refine B_getp (v := (M p2 2)) (q := (RX0, TX0, 9)) (ci := 0) (j := 2) (p := 2) (by decide +kernel) rfl (by decide) rfl (Or.inl rfl) fl_9_95 rfl ?_
  refine A_ic_ge (off := 57) (tgt := 66) (by decide +kernel) (by omega) (fun b1 => ?_) (fun b1 => ?_)
  · have h2 := h.1 b1
    exact A_ret ⟨by decide +kernel, rfl⟩ ⟨rfl, h2⟩
  · have h3 := h.2 (Int.not_le.mp b1)
    refine A_iload (i := 5) (by decide +kernel) rfl ?_
    refine A_iload (i := 7) (by decide +kernel) rfl ?_
    refine A_ishr (by decide +kernel) ?_
    refine A_iconst (a := 1) (by decide +kernel) (by unfold in32; omega) ?_
    refine A_iand (by decide +kernel) ?_
    refine A_iconst (a := 1) (by decide +kernel) (by unfold in32; omega) ?_
    refine A_ic_ne (off := 40) (tgt := 60) (by decide +kernel) (by omega) (fun b4 => ?_) (fun b4 => ?_)
    · have h5 := h3.1 b4
      refine A_iinc (i := 7) (n := 1) (by decide +kernel) (by decide) rfl (fun w h0 hw => by simp at hw; first | (rw [← hw]; decide) | (rw [← hw]; simp)) ?_
      refine A_goto (off := (-60)) (tgt := 3) (by decide +kernel) (by omega) ?_
      exact A_weak (lsub.keep (lsub.keep (lsub.keep (lsub.keep (lsub.keep (lsub.keep (lsub.keep (lsub.keep lsub.nil)))))))) h5
    · have h6 := h3.2 (Decidable.not_not.mp b4)
      refine A_aload_n (i := 0) (f := 0) (by omega) rfl (by decide +kernel) rfl ?_
      refine A_aload_n (i := 2) (f := 2) (by omega) rfl (by decide +kernel) rfl ?_
      refine A_iload (i := 4) (by decide +kernel) rfl ?_
      refine A_iload (i := 7) (by decide +kernel) rfl ?_
      refine A_iload (i := 6) (by decide +kernel) rfl ?_
      refine A_iload_n (i := 3) (f := 3) rfl (by decide +kernel) rfl ?_
      refine A_cVd (q := (RX9, TX9, 3)) (ci := 8) (o := ((39 : Nat) : Int)) (args := [(10, (p2 : Int)), (0, x4), (0, x7), (0, x6), (0, x3)]) (st := []) (by decide +kernel) cv_m9_meet rfl rfl in_m9_meet se_m9_meet lk_9_98 rfl (by omega) (Nat.le_of_ble_eq_true rfl) h6 (fun M8 h9 => ?_)
      refine A_aload_n (i := 0) (f := 0) (by omega) rfl (by decide +kernel) rfl ?_
      refine A_aload_n (i := 1) (f := 1) (by omega) rfl (by decide +kernel) rfl ?_
      refine A_iload (i := 4) (by decide +kernel) rfl ?_
      refine A_iload (i := 7) (by decide +kernel) rfl ?_
      refine A_iload (i := 6) (by decide +kernel) rfl ?_
      refine A_cVd (q := (RX9, TX9, 3)) (ci := 8) (o := ((39 : Nat) : Int)) (args := [(15, (p1 : Int)), (0, x4), (0, x7), (0, x6)]) (st := []) (by decide +kernel) cv_m9_standBy rfl rfl in_m9_standBy se_m9_standBy lk_9_102 rfl (by omega) (Nat.le_of_ble_eq_true rfl) h9 (fun M11 h12 => ?_)
      refine A_aload_n (i := 0) (f := 0) (by omega) rfl (by decide +kernel) rfl ?_
      refine B_getr (o' := ((42 : Nat) : Int)) (q := (RX9, TX9, 3)) (ci := 8) (j := 2) (by decide +kernel) rfl (by decide) rfl (by omega) fl_9_19 rfl ?_
      refine A_iload (i := 7) (by decide +kernel) rfl ?_
      refine A_aload_n (i := 0) (f := 0) (by omega) rfl (by decide +kernel) rfl ?_
      refine A_aload_n (i := 2) (f := 2) (by omega) rfl (by decide +kernel) rfl ?_
      refine A_cVi (q := (RX9, TX9, 3)) (ci := 8) (o := ((39 : Nat) : Int)) (args := [(10, (p2 : Int))]) (st := [(0, x7), (30, ((42 : Nat) : Int))]) (by decide +kernel) cv_m9_rightRow rfl rfl in_m9_rightRow se_m9_rightRow lk_9_76 rfl (by omega) (Nat.le_of_ble_eq_true rfl) h12 (fun r13 M14 _ h15 => ?_)
      refine A_cSNd (args := [(30, ((42 : Nat) : Int)), (0, x7), (0, r13)]) (st := []) (by decide +kernel) cv_m10_put st_m10_put lk_9_31 rfl (by omega) (Nat.le_of_ble_eq_true rfl) h15 (fun M17 h18 => ?_)
      refine A_iinc (i := 7) (n := 1) (by decide +kernel) (by decide) rfl (fun w h0 hw => by simp at hw; first | (rw [← hw]; decide) | (rw [← hw]; simp)) ?_
      refine A_goto (off := (-60)) (tgt := 3) (by decide +kernel) (by omega) ?_
      exact A_weak (lsub.keep (lsub.keep (lsub.keep (lsub.keep (lsub.keep (lsub.keep (lsub.keep (lsub.keep lsub.nil)))))))) h18
theorem q_9_hallOffence {x1 : Int} {x2 : Int} {x3 : Int} {M : Mem} {P : Int → Mem → Prop} (h : A m9_hallOffence 4 0 6 [(18, ((39 : Nat) : Int)), (0, x1), (0, x2), (0, x3), (0, 0), (0, 0)] [] M (Ki P)) : CI m9_hallOffence 4 [(18, ((39 : Nat) : Int)), (0, x1), (0, x2), (0, x3)] M P := by
  refine CI_of (by decide +kernel) (Nat.le_of_ble_eq_true rfl) ?_
  show A m9_hallOffence 4 0 0 [(18, ((39 : Nat) : Int)), (0, x1), (0, x2), (0, x3), (2, 0), (2, 0)] [] M (Ki P)
  refine A_iconst (a := 0) (by decide +kernel) (by unfold in32; omega) ?_
  refine A_istore (i := 4) (by decide +kernel) (by decide) (fun w h0 hw => by simp at hw; first | (rw [← hw]; decide) | (rw [← hw]; simp)) ?_
  refine A_iconst (a := 0) (by decide +kernel) (by unfold in32; omega) ?_
  refine A_istore (i := 5) (by decide +kernel) (by decide) (fun w h0 hw => by simp at hw; first | (rw [← hw]; decide) | (rw [← hw]; simp)) ?_
  exact A_weak (lsub.keep (lsub.keep (lsub.keep (lsub.keep (lsub.keep (lsub.keep lsub.nil)))))) h
theorem r_9_hallOffence_6 {x1 : Int} {x2 : Int} {x3 : Int} {x4 : Int} {x5 : Int} {M : Mem} {P : Int → Mem → Prop} (h : ((8 ≤ x5 → (P x4 M)) ∧ (x5 < 8 → (((iand (ishr x1 x5) 1) ≠ 1 → A m9_hallOffence 4 0 6 [(18, ((39 : Nat) : Int)), (0, x1), (0, x2), (0, x3), (0, x4), (0, (w32 (x5 + 1)))] [] M (Ki P)) ∧ ((iand (ishr x1 x5) 1) = 1 → (CI m10_at 1 [(30, ((42 : Nat) : Int)), (0, x5)] M (fun r7 M8 => (CI m8_turned 3 [(0, r7), (0, x2), (0, x3)] M8 (fun r10 M11 => A m9_hallOffence 4 0 6 [(18, ((39 : Nat) : Int)), (0, x1), (0, x2), (0, x3), (0, (w32 (x4 + r10))), (0, (w32 (x5 + 1)))] [] M11 (Ki P)))))))))) : A m9_hallOffence 4 0 6 [(18, ((39 : Nat) : Int)), (0, x1), (0, x2), (0, x3), (0, x4), (0, x5)] [] M (Ki P) := by
  refine A_iload (i := 5) (by decide +kernel) rfl ?_
  refine A_bipush (a := 8) (by decide +kernel) (by unfold in32; omega) (by decide +kernel) ?_
  refine A_ic_ge (off := 38) (tgt := 48) (by decide +kernel) (by omega) (fun b1 => ?_) (fun b1 => ?_)
  · have h2 := h.1 b1
    refine A_iload (i := 4) (by decide +kernel) rfl ?_
    exact A_ret ⟨by decide +kernel, Or.inl rfl⟩ ⟨_, rfl, h2⟩
  · have h3 := h.2 (Int.not_le.mp b1)
    refine A_iload_n (i := 1) (f := 1) rfl (by decide +kernel) rfl ?_
    refine A_iload (i := 5) (by decide +kernel) rfl ?_
    refine A_ishr (by decide +kernel) ?_
    refine A_iconst (a := 1) (by decide +kernel) (by unfold in32; omega) ?_
    refine A_iand (by decide +kernel) ?_
    refine A_iconst (a := 1) (by decide +kernel) (by unfold in32; omega) ?_
    refine A_ic_ne (off := 22) (tgt := 42) (by decide +kernel) (by omega) (fun b4 => ?_) (fun b4 => ?_)
    · have h5 := h3.1 b4
      refine A_iinc (i := 5) (n := 1) (by decide +kernel) (by decide) rfl (fun w h0 hw => by simp at hw; first | (rw [← hw]; decide) | (rw [← hw]; simp)) ?_
      refine A_goto (off := (-39)) (tgt := 6) (by decide +kernel) (by omega) ?_
      exact A_weak (lsub.keep (lsub.keep (lsub.keep (lsub.keep (lsub.keep (lsub.keep lsub.nil)))))) h5
    · have h6 := h3.2 (Decidable.not_not.mp b4)
      refine A_iload (i := 4) (by decide +kernel) rfl ?_
      refine A_aload_n (i := 0) (f := 0) (by omega) rfl (by decide +kernel) rfl ?_
      refine B_getr (o' := ((42 : Nat) : Int)) (q := (RX9, TX9, 3)) (ci := 8) (j := 2) (by decide +kernel) rfl (by decide) rfl (by omega) fl_9_19 rfl ?_
      refine A_iload (i := 5) (by decide +kernel) rfl ?_
      refine A_cSNi (args := [(30, ((42 : Nat) : Int)), (0, x5)]) (st := [(0, x4)]) (by decide +kernel) cv_m10_at st_m10_at lk_9_27 rfl (by omega) (Nat.le_of_ble_eq_true rfl) h6 (fun r7 M8 _ h9 => ?_)
      refine A_iload_n (i := 2) (f := 2) rfl (by decide +kernel) rfl ?_
      refine A_iload_n (i := 3) (f := 3) rfl (by decide +kernel) rfl ?_
      refine A_cSi (args := [(0, r7), (0, x2), (0, x3)]) (st := [(0, x4)]) (by decide +kernel) cv_m8_turned st_m8_turned lk_9_106 rfl (by omega) (Nat.le_of_ble_eq_true rfl) h9 (fun r10 M11 _ h12 => ?_)
      refine A_iadd (by decide +kernel) ?_
      refine A_istore (i := 4) (by decide +kernel) (by decide) (fun w h0 hw => by simp at hw; first | (rw [← hw]; decide) | (rw [← hw]; simp)) ?_
      refine A_iinc (i := 5) (n := 1) (by decide +kernel) (by decide) rfl (fun w h0 hw => by simp at hw; first | (rw [← hw]; decide) | (rw [← hw]; simp)) ?_
      refine A_goto (off := (-39)) (tgt := 6) (by decide +kernel) (by omega) ?_
      exact A_weak (lsub.keep (lsub.keep (lsub.keep (lsub.keep (lsub.keep (lsub.keep lsub.nil)))))) h12
theorem q_9_leastOffence {x1 : Int} {x2 : Int} {M : Mem} {P : Int → Mem → Prop} (h : (CI m8_countAll 1 [(0, x2)] M (fun r1 M2 => (CI m8_numbered 2 [(0, 0), (0, x2)] M2 (fun r4 M5 => (CI m9_hallOffence 4 [(18, ((39 : Nat) : Int)), (0, x1), (0, r4), (0, x2)] M5 (fun r7 M8 => A m9_leastOffence 5 0 25 [(18, ((39 : Nat) : Int)), (0, x1), (0, x2), (0, r1), (0, r4), (0, r7), (0, 1), (2, 0), (2, 0)] [] M8 (Ki P)))))))) : CI m9_leastOffence 5 [(18, ((39 : Nat) : Int)), (0, x1), (0, x2)] M P := by
  refine CI_of (by decide +kernel) (Nat.le_of_ble_eq_true rfl) ?_
  show A m9_leastOffence 5 0 0 [(18, ((39 : Nat) : Int)), (0, x1), (0, x2), (2, 0), (2, 0), (2, 0), (2, 0), (2, 0), (2, 0)] [] M (Ki P)
  refine A_iload_n (i := 2) (f := 2) rfl (by decide +kernel) rfl ?_
  refine A_cSi (args := [(0, x2)]) (st := []) (by decide +kernel) cv_m8_countAll st_m8_countAll lk_9_109 rfl (by omega) (Nat.le_of_ble_eq_true rfl) h (fun r1 M2 _ h3 => ?_)
  refine A_istore_n (i := 3) (f := 3) rfl (by decide +kernel) (by decide) (fun w h0 hw => by simp at hw; first | (rw [← hw]; decide) | (rw [← hw]; simp)) ?_
  refine A_iconst (a := 0) (by decide +kernel) (by unfold in32; omega) ?_
  refine A_iload_n (i := 2) (f := 2) rfl (by decide +kernel) rfl ?_
  refine A_cSi (args := [(0, 0), (0, x2)]) (st := []) (by decide +kernel) cv_m8_numbered st_m8_numbered lk_9_112 rfl (by omega) (Nat.le_of_ble_eq_true rfl) h3 (fun r4 M5 _ h6 => ?_)
  refine A_istore (i := 4) (by decide +kernel) (by decide) (fun w h0 hw => by simp at hw; first | (rw [← hw]; decide) | (rw [← hw]; simp)) ?_
  refine A_aload_n (i := 0) (f := 0) (by omega) rfl (by decide +kernel) rfl ?_
  refine A_iload_n (i := 1) (f := 1) rfl (by decide +kernel) rfl ?_
  refine A_iload (i := 4) (by decide +kernel) rfl ?_
  refine A_iload_n (i := 2) (f := 2) rfl (by decide +kernel) rfl ?_
  refine A_cVi (q := (RX9, TX9, 3)) (ci := 8) (o := ((39 : Nat) : Int)) (args := [(0, x1), (0, r4), (0, x2)]) (st := []) (by decide +kernel) cv_m9_hallOffence rfl rfl in_m9_hallOffence se_m9_hallOffence lk_9_115 rfl (by omega) (Nat.le_of_ble_eq_true rfl) h6 (fun r7 M8 _ h9 => ?_)
  refine A_istore (i := 5) (by decide +kernel) (by decide) (fun w h0 hw => by simp at hw; first | (rw [← hw]; decide) | (rw [← hw]; simp)) ?_
  refine A_iconst (a := 1) (by decide +kernel) (by unfold in32; omega) ?_
  refine A_istore (i := 6) (by decide +kernel) (by decide) (fun w h0 hw => by simp at hw; first | (rw [← hw]; decide) | (rw [← hw]; simp)) ?_
  exact A_weak (lsub.keep (lsub.keep (lsub.keep (lsub.keep (lsub.keep (lsub.keep (lsub.keep (lsub.drop (lsub.drop lsub.nil))))))))) h9
theorem r_9_leastOffence_25 {x1 : Int} {x2 : Int} {x3 : Int} {x4 : Int} {x5 : Int} {x6 : Int} {M : Mem} {P : Int → Mem → Prop} (h : ((x3 ≤ x6 → (P x4 M)) ∧ (x6 < x3 → (CI m8_numbered 2 [(0, x6), (0, x2)] M (fun r4 M5 => (CI m9_hallOffence 4 [(18, ((39 : Nat) : Int)), (0, x1), (0, r4), (0, x2)] M5 (fun r7 M8 => ((x5 ≤ r7 → A m9_leastOffence 5 0 25 [(18, ((39 : Nat) : Int)), (0, x1), (0, x2), (0, x3), (0, x4), (0, x5), (0, (w32 (x6 + 1))), (2, 0), (2, 0)] [] M8 (Ki P)) ∧ (r7 < x5 → A m9_leastOffence 5 0 25 [(18, ((39 : Nat) : Int)), (0, x1), (0, x2), (0, x3), (0, r4), (0, r7), (0, (w32 (x6 + 1))), (2, 0), (2, 0)] [] M8 (Ki P)))))))))) : A m9_leastOffence 5 0 25 [(18, ((39 : Nat) : Int)), (0, x1), (0, x2), (0, x3), (0, x4), (0, x5), (0, x6), (2, 0), (2, 0)] [] M (Ki P) := by
  refine A_iload (i := 6) (by decide +kernel) rfl ?_
  refine A_iload_n (i := 3) (f := 3) rfl (by decide +kernel) rfl ?_
  refine A_ic_ge (off := 42) (tgt := 70) (by decide +kernel) (by omega) (fun b1 => ?_) (fun b1 => ?_)
  · have h2 := h.1 b1
    refine A_iload (i := 4) (by decide +kernel) rfl ?_
    exact A_ret ⟨by decide +kernel, Or.inl rfl⟩ ⟨_, rfl, h2⟩
  · have h3 := h.2 (Int.not_le.mp b1)
    refine A_iload (i := 6) (by decide +kernel) rfl ?_
    refine A_iload_n (i := 2) (f := 2) rfl (by decide +kernel) rfl ?_
    refine A_cSi (args := [(0, x6), (0, x2)]) (st := []) (by decide +kernel) cv_m8_numbered st_m8_numbered lk_9_112 rfl (by omega) (Nat.le_of_ble_eq_true rfl) h3 (fun r4 M5 _ h6 => ?_)
    refine A_istore (i := 7) (by decide +kernel) (by decide) (fun w h0 hw => by simp at hw; first | (rw [← hw]; decide) | (rw [← hw]; simp)) ?_
    refine A_aload_n (i := 0) (f := 0) (by omega) rfl (by decide +kernel) rfl ?_
    refine A_iload_n (i := 1) (f := 1) rfl (by decide +kernel) rfl ?_
    refine A_iload (i := 7) (by decide +kernel) rfl ?_
    refine A_iload_n (i := 2) (f := 2) rfl (by decide +kernel) rfl ?_
    refine A_cVi (q := (RX9, TX9, 3)) (ci := 8) (o := ((39 : Nat) : Int)) (args := [(0, x1), (0, r4), (0, x2)]) (st := []) (by decide +kernel) cv_m9_hallOffence rfl rfl in_m9_hallOffence se_m9_hallOffence lk_9_115 rfl (by omega) (Nat.le_of_ble_eq_true rfl) h6 (fun r7 M8 _ h9 => ?_)
    refine A_istore (i := 8) (by decide +kernel) (by decide) (fun w h0 hw => by simp at hw; first | (rw [← hw]; decide) | (rw [← hw]; simp)) ?_
    refine A_iload (i := 8) (by decide +kernel) rfl ?_
    refine A_iload (i := 5) (by decide +kernel) rfl ?_
    refine A_ic_ge (off := 11) (tgt := 64) (by decide +kernel) (by omega) (fun b10 => ?_) (fun b10 => ?_)
    · have h11 := h9.1 b10
      refine A_iinc (i := 6) (n := 1) (by decide +kernel) (by decide) rfl (fun w h0 hw => by simp at hw; first | (rw [← hw]; decide) | (rw [← hw]; simp)) ?_
      refine A_goto (off := (-42)) (tgt := 25) (by decide +kernel) (by omega) ?_
      exact A_weak (lsub.keep (lsub.keep (lsub.keep (lsub.keep (lsub.keep (lsub.keep (lsub.keep (lsub.drop (lsub.drop lsub.nil))))))))) h11
    · have h12 := h9.2 (Int.not_le.mp b10)
      refine A_iload (i := 8) (by decide +kernel) rfl ?_
      refine A_istore (i := 5) (by decide +kernel) (by decide) (fun w h0 hw => by simp at hw; first | (rw [← hw]; decide) | (rw [← hw]; simp)) ?_
      refine A_iload (i := 7) (by decide +kernel) rfl ?_
      refine A_istore (i := 4) (by decide +kernel) (by decide) (fun w h0 hw => by simp at hw; first | (rw [← hw]; decide) | (rw [← hw]; simp)) ?_
      refine A_iinc (i := 6) (n := 1) (by decide +kernel) (by decide) rfl (fun w h0 hw => by simp at hw; first | (rw [← hw]; decide) | (rw [← hw]; simp)) ?_
      refine A_goto (off := (-42)) (tgt := 25) (by decide +kernel) (by omega) ?_
      exact A_weak (lsub.keep (lsub.keep (lsub.keep (lsub.keep (lsub.keep (lsub.keep (lsub.keep (lsub.drop (lsub.drop lsub.nil))))))))) h12
theorem q_9_clash {x1 : Int} {M : Mem} {P : Int → Mem → Prop} (h : A m9_clash 2 0 2 [(18, ((39 : Nat) : Int)), (0, x1), (0, 0), (2, 0), (2, 0)] [] M (Ki P)) : CI m9_clash 2 [(18, ((39 : Nat) : Int)), (0, x1)] M P := by
  refine CI_of (by decide +kernel) (Nat.le_of_ble_eq_true rfl) ?_
  show A m9_clash 2 0 0 [(18, ((39 : Nat) : Int)), (0, x1), (2, 0), (2, 0), (2, 0)] [] M (Ki P)
  refine A_iconst (a := 0) (by decide +kernel) (by unfold in32; omega) ?_
  refine A_istore_n (i := 2) (f := 2) rfl (by decide +kernel) (by decide) (fun w h0 hw => by simp at hw; first | (rw [← hw]; decide) | (rw [← hw]; simp)) ?_
  exact A_weak (lsub.keep (lsub.keep (lsub.keep (lsub.drop (lsub.drop lsub.nil))))) h
theorem r_9_clash_2 {x1 : Int} {x2 : Int} {M : Mem} {P : Int → Mem → Prop} (h : ((8 ≤ x2 → (P (-1) M)) ∧ (x2 < 8 → A m9_clash 2 0 12 [(18, ((39 : Nat) : Int)), (0, x1), (0, x2), (0, (w32 (x2 + 1))), (2, 0)] [] M (Ki P)))) : A m9_clash 2 0 2 [(18, ((39 : Nat) : Int)), (0, x1), (0, x2), (2, 0), (2, 0)] [] M (Ki P) := by
  refine A_iload_n (i := 2) (f := 2) rfl (by decide +kernel) rfl ?_
  refine A_bipush (a := 8) (by decide +kernel) (by unfold in32; omega) (by decide +kernel) ?_
  refine A_ic_ge (off := 81) (tgt := 86) (by decide +kernel) (by omega) (fun b1 => ?_) (fun b1 => ?_)
  · have h2 := h.1 b1
    refine A_iconst (a := (-1)) (by decide +kernel) (by unfold in32; omega) ?_
    exact A_ret ⟨by decide +kernel, Or.inl rfl⟩ ⟨_, rfl, h2⟩
  · have h3 := h.2 (Int.not_le.mp b1)
    refine A_iload_n (i := 2) (f := 2) rfl (by decide +kernel) rfl ?_
    refine A_iconst (a := 1) (by decide +kernel) (by unfold in32; omega) ?_
    refine A_iadd (by decide +kernel) ?_
    refine A_istore_n (i := 3) (f := 3) rfl (by decide +kernel) (by decide) (fun w h0 hw => by simp at hw; first | (rw [← hw]; decide) | (rw [← hw]; simp)) ?_
    exact A_weak (lsub.keep (lsub.keep (lsub.keep (lsub.keep (lsub.drop lsub.nil))))) h3
theorem r_9_clash_12 {x1 : Int} {x2 : Int} {x3 : Int} {M : Mem} {P : Int → Mem → Prop} (h : ((8 ≤ x3 → A m9_clash 2 0 2 [(18, ((39 : Nat) : Int)), (0, x1), (0, (w32 (x2 + 1))), (2, 0), (2, 0)] [] M (Ki P)) ∧ (x3 < 8 → (((iand (ishr x1 x2) 1) ≠ 1 → A m9_clash 2 0 12 [(18, ((39 : Nat) : Int)), (0, x1), (0, x2), (0, (w32 (x3 + 1))), (2, 0)] [] M (Ki P)) ∧ ((iand (ishr x1 x2) 1) = 1 → (((iand (ishr x1 x3) 1) ≠ 1 → A m9_clash 2 0 12 [(18, ((39 : Nat) : Int)), (0, x1), (0, x2), (0, (w32 (x3 + 1))), (2, 0)] [] M (Ki P)) ∧ ((iand (ishr x1 x3) 1) = 1 → (CI m10_at 1 [(30, ((42 : Nat) : Int)), (0, x2)] M (fun r10 M11 => (CI m10_at 1 [(30, ((42 : Nat) : Int)), (0, x3)] M11 (fun r13 M14 => ((r10 = r13 → A m9_clash 2 0 12 [(18, ((39 : Nat) : Int)), (0, x1), (0, x2), (0, (w32 (x3 + 1))), (2, 0)] [] M14 (Ki P)) ∧ (r10 ≠ r13 → (P (w32 (x2 + (w32 (8 * x3)))) M14)))))))))))))) : A m9_clash 2 0 12 [(18, ((39 : Nat) : Int)), (0, x1), (0, x2), (0, x3), (2, 0)] [] M (Ki P) := by
  refine A_iload_n (i := 3) (f := 3) rfl (by decide +kernel) rfl ?_
  refine A_bipush (a := 8) (by decide +kernel) (by unfold in32; omega) (by decide +kernel) ?_
  refine A_ic_ge (off := 65) (tgt := 80) (by decide +kernel) (by omega) (fun b1 => ?_) (fun b1 => ?_)
  · have h2 := h.1 b1
    refine A_iinc (i := 2) (n := 1) (by decide +kernel) (by decide) rfl (fun w h0 hw => by simp at hw; first | (rw [← hw]; decide) | (rw [← hw]; simp)) ?_
    refine A_goto (off := (-81)) (tgt := 2) (by decide +kernel) (by omega) ?_
    exact A_weak (lsub.keep (lsub.keep (lsub.keep (lsub.drop (lsub.drop lsub.nil))))) h2
  · have h3 := h.2 (Int.not_le.mp b1)
    refine A_iload_n (i := 1) (f := 1) rfl (by decide +kernel) rfl ?_
    refine A_iload_n (i := 2) (f := 2) rfl (by decide +kernel) rfl ?_
    refine A_ishr (by decide +kernel) ?_
    refine A_iconst (a := 1) (by decide +kernel) (by unfold in32; omega) ?_
    refine A_iand (by decide +kernel) ?_
    refine A_iconst (a := 1) (by decide +kernel) (by unfold in32; omega) ?_
    refine A_ic_ne (off := 16) (tgt := 40) (by decide +kernel) (by omega) (fun b4 => ?_) (fun b4 => ?_)
    · have h5 := h3.1 b4
      refine A_iconst (a := 0) (by decide +kernel) (by unfold in32; omega) ?_
      refine A_istore (i := 4) (by decide +kernel) (by decide) (fun w h0 hw => by simp at hw; first | (rw [← hw]; decide) | (rw [← hw]; simp)) ?_
      refine A_iload (i := 4) (by decide +kernel) rfl ?_
      refine A_if_eq (off := 29) (tgt := 74) (by decide +kernel) (by omega) (fun _ => ?_) (fun hb => absurd (by decide) hb)
      refine A_iinc (i := 3) (n := 1) (by decide +kernel) (by decide) rfl (fun w h0 hw => by simp at hw; first | (rw [← hw]; decide) | (rw [← hw]; simp)) ?_
      refine A_goto (off := (-65)) (tgt := 12) (by decide +kernel) (by omega) ?_
      exact A_weak (lsub.keep (lsub.keep (lsub.keep (lsub.keep (lsub.drop lsub.nil))))) h5
    · have h6 := h3.2 (Decidable.not_not.mp b4)
      refine A_iload_n (i := 1) (f := 1) rfl (by decide +kernel) rfl ?_
      refine A_iload_n (i := 3) (f := 3) rfl (by decide +kernel) rfl ?_
      refine A_ishr (by decide +kernel) ?_
      refine A_iconst (a := 1) (by decide +kernel) (by unfold in32; omega) ?_
      refine A_iand (by decide +kernel) ?_
      refine A_iconst (a := 1) (by decide +kernel) (by unfold in32; omega) ?_
      refine A_ic_ne (off := 7) (tgt := 40) (by decide +kernel) (by omega) (fun b7 => ?_) (fun b7 => ?_)
      · have h8 := h6.1 b7
        refine A_iconst (a := 0) (by decide +kernel) (by unfold in32; omega) ?_
        refine A_istore (i := 4) (by decide +kernel) (by decide) (fun w h0 hw => by simp at hw; first | (rw [← hw]; decide) | (rw [← hw]; simp)) ?_
        refine A_iload (i := 4) (by decide +kernel) rfl ?_
        refine A_if_eq (off := 29) (tgt := 74) (by decide +kernel) (by omega) (fun _ => ?_) (fun hb => absurd (by decide) hb)
        refine A_iinc (i := 3) (n := 1) (by decide +kernel) (by decide) rfl (fun w h0 hw => by simp at hw; first | (rw [← hw]; decide) | (rw [← hw]; simp)) ?_
        refine A_goto (off := (-65)) (tgt := 12) (by decide +kernel) (by omega) ?_
        exact A_weak (lsub.keep (lsub.keep (lsub.keep (lsub.keep (lsub.drop lsub.nil))))) h8
      · have h9 := h6.2 (Decidable.not_not.mp b7)
        refine A_iconst (a := 1) (by decide +kernel) (by unfold in32; omega) ?_
        refine A_goto (off := 4) (tgt := 41) (by decide +kernel) (by omega) ?_
        refine A_istore (i := 4) (by decide +kernel) (by decide) (fun w h0 hw => by simp at hw; first | (rw [← hw]; decide) | (rw [← hw]; simp)) ?_
        refine A_iload (i := 4) (by decide +kernel) rfl ?_
        refine A_if_eq (off := 29) (tgt := 74) (by decide +kernel) (by omega) (fun hb => absurd hb (by decide)) (fun _ => ?_)
        refine A_aload_n (i := 0) (f := 0) (by omega) rfl (by decide +kernel) rfl ?_
        refine B_getr (o' := ((42 : Nat) : Int)) (q := (RX9, TX9, 3)) (ci := 8) (j := 2) (by decide +kernel) rfl (by decide) rfl (by omega) fl_9_19 rfl ?_
        refine A_iload_n (i := 2) (f := 2) rfl (by decide +kernel) rfl ?_
        refine A_cSNi (args := [(30, ((42 : Nat) : Int)), (0, x2)]) (st := []) (by decide +kernel) cv_m10_at st_m10_at lk_9_27 rfl (by omega) (Nat.le_of_ble_eq_true rfl) h9 (fun r10 M11 _ h12 => ?_)
        refine A_aload_n (i := 0) (f := 0) (by omega) rfl (by decide +kernel) rfl ?_
        refine B_getr (o' := ((42 : Nat) : Int)) (q := (RX9, TX9, 3)) (ci := 8) (j := 2) (by decide +kernel) rfl (by decide) rfl (by omega) fl_9_19 rfl ?_
        refine A_iload_n (i := 3) (f := 3) rfl (by decide +kernel) rfl ?_
        refine A_cSNi (args := [(30, ((42 : Nat) : Int)), (0, x3)]) (st := [(0, r10)]) (by decide +kernel) cv_m10_at st_m10_at lk_9_27 rfl (by omega) (Nat.le_of_ble_eq_true rfl) h12 (fun r13 M14 _ h15 => ?_)
        refine A_ic_eq (off := 10) (tgt := 74) (by decide +kernel) (by omega) (fun b16 => ?_) (fun b16 => ?_)
        · have h17 := h15.1 b16
          refine A_iinc (i := 3) (n := 1) (by decide +kernel) (by decide) rfl (fun w h0 hw => by simp at hw; first | (rw [← hw]; decide) | (rw [← hw]; simp)) ?_
          refine A_goto (off := (-65)) (tgt := 12) (by decide +kernel) (by omega) ?_
          exact A_weak (lsub.keep (lsub.keep (lsub.keep (lsub.keep (lsub.drop lsub.nil))))) h17
        · have h18 := h15.2 b16
          refine A_iload_n (i := 2) (f := 2) rfl (by decide +kernel) rfl ?_
          refine A_bipush (a := 8) (by decide +kernel) (by unfold in32; omega) (by decide +kernel) ?_
          refine A_iload_n (i := 3) (f := 3) rfl (by decide +kernel) rfl ?_
          refine A_imul (by decide +kernel) ?_
          refine A_iadd (by decide +kernel) ?_
          exact A_ret ⟨by decide +kernel, Or.inl rfl⟩ ⟨_, rfl, h18⟩
