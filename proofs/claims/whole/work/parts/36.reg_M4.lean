/-! methods that call themselves, and their callers: regions (made by wip/whole/gall.py) -/
theorem q_11_conjunction {d : Nat} (hd : 10 ≤ d)  {M : Mem} {P : Mem → Prop} (h : (CD m11_negation d [(20, ((59 : Nat) : Int))] M (fun M2 => A m11_conjunction (d + 1) 0 4 [(20, ((59 : Nat) : Int))] [] M2 (Kd P)))) : CD m11_conjunction (d + 1) [(20, ((59 : Nat) : Int))] M P := by
  refine CD_of (by decide +kernel) (Nat.le_of_ble_eq_true rfl) ?_
  show A m11_conjunction (d + 1) 0 0 [(20, ((59 : Nat) : Int))] [] M (Kd P)
  refine A_aload_n (i := 0) (f := 0) (by omega) rfl (by decide +kernel) rfl ?_
  refine A_cVd (q := (RX11, TX11, 59)) (ci := 10) (o := ((59 : Nat) : Int)) (args := []) (st := []) (by decide +kernel) cv_m11_negation rfl rfl in_m11_negation se_m11_negation lk_11_265 rfl (by omega) (Nat.le_of_ble_eq_true rfl) h (fun M2 h3 => ?_)
  exact A_weak (lsub.keep lsub.nil) h3
theorem r_11_conjunction_4 {d : Nat} (hd : 10 ≤ d)  {M : Mem} {P : Mem → Prop} (h : (CI m11_isWord 1 [(20, ((59 : Nat) : Int)), (0, 8)] M (fun r1 M2 => ((r1 = 0 → (P M2)) ∧ (r1 ≠ 0 → (CD m11_knot 3 [(20, ((59 : Nat) : Int))] M2 (fun M8 => (CD m11_goOn 4 [(20, ((59 : Nat) : Int))] M8 (fun M11 => (CD m11_negation d [(20, ((59 : Nat) : Int))] M11 (fun M14 => (CD m11_puts 2 [(20, ((59 : Nat) : Int)), (0, 2), (0, 261)] M14 (fun M17 => A m11_conjunction (d + 1) 0 4 [(20, ((59 : Nat) : Int))] [] M17 (Kd P)))))))))))))) : A m11_conjunction (d + 1) 0 4 [(20, ((59 : Nat) : Int))] [] M (Kd P) := by
  refine A_aload_n (i := 0) (f := 0) (by omega) rfl (by decide +kernel) rfl ?_
  refine A_bipush (a := 8) (by decide +kernel) (by unfold in32; omega) (by decide +kernel) ?_
  refine A_cVi (q := (RX11, TX11, 59)) (ci := 10) (o := ((59 : Nat) : Int)) (args := [(0, 8)]) (st := []) (by decide +kernel) cv_m11_isWord rfl rfl in_m11_isWord se_m11_isWord lk_11_227 rfl (by omega) (Nat.le_of_ble_eq_true rfl) h (fun r1 M2 _ h3 => ?_)
  refine A_if_eq (off := 26) (tgt := 36) (by decide +kernel) (by omega) (fun b4 => ?_) (fun b4 => ?_)
  · have h5 := h3.1 b4
    exact A_ret ⟨by decide +kernel, rfl⟩ ⟨rfl, h5⟩
  · have h6 := h3.2 b4
    refine A_aload_n (i := 0) (f := 0) (by omega) rfl (by decide +kernel) rfl ?_
    refine A_cVd (q := (RX11, TX11, 59)) (ci := 10) (o := ((59 : Nat) : Int)) (args := []) (st := []) (by decide +kernel) cv_m11_knot rfl rfl in_m11_knot se_m11_knot lk_11_259 rfl (by omega) (Nat.le_of_ble_eq_true rfl) h6 (fun M8 h9 => ?_)
    refine A_aload_n (i := 0) (f := 0) (by omega) rfl (by decide +kernel) rfl ?_
    refine A_cVd (q := (RX11, TX11, 59)) (ci := 10) (o := ((59 : Nat) : Int)) (args := []) (st := []) (by decide +kernel) cv_m11_goOn rfl rfl in_m11_goOn se_m11_goOn lk_11_224 rfl (by omega) (Nat.le_of_ble_eq_true rfl) h9 (fun M11 h12 => ?_)
    refine A_aload_n (i := 0) (f := 0) (by omega) rfl (by decide +kernel) rfl ?_
    refine A_cVd (q := (RX11, TX11, 59)) (ci := 10) (o := ((59 : Nat) : Int)) (args := []) (st := []) (by decide +kernel) cv_m11_negation rfl rfl in_m11_negation se_m11_negation lk_11_265 rfl (by omega) (Nat.le_of_ble_eq_true rfl) h12 (fun M14 h15 => ?_)
    refine A_aload_n (i := 0) (f := 0) (by omega) rfl (by decide +kernel) rfl ?_
    refine A_iconst (a := 2) (by decide +kernel) (by unfold in32; omega) ?_
    refine A_sipush (a := 261) (by decide +kernel) (by unfold in32; omega) (by decide +kernel) ?_
    refine A_cVd (q := (RX11, TX11, 59)) (ci := 10) (o := ((59 : Nat) : Int)) (args := [(0, 2), (0, 261)]) (st := []) (by decide +kernel) cv_m11_puts rfl rfl in_m11_puts se_m11_puts lk_11_262 rfl (by omega) (Nat.le_of_ble_eq_true rfl) h15 (fun M17 h18 => ?_)
    refine A_goto (off := (-29)) (tgt := 4) (by decide +kernel) (by omega) ?_
    exact A_weak (lsub.keep lsub.nil) h18
theorem q_11_expression {d : Nat} (hd : 10 ≤ d)  {M : Mem} {P : Mem → Prop} (h : (CD m11_conjunction d [(20, ((59 : Nat) : Int))] M (fun M2 => A m11_expression (d + 1) 0 4 [(20, ((59 : Nat) : Int))] [] M2 (Kd P)))) : CD m11_expression (d + 1) [(20, ((59 : Nat) : Int))] M P := by
  refine CD_of (by decide +kernel) (Nat.le_of_ble_eq_true rfl) ?_
  show A m11_expression (d + 1) 0 0 [(20, ((59 : Nat) : Int))] [] M (Kd P)
  refine A_aload_n (i := 0) (f := 0) (by omega) rfl (by decide +kernel) rfl ?_
  refine A_cVd (q := (RX11, TX11, 59)) (ci := 10) (o := ((59 : Nat) : Int)) (args := []) (st := []) (by decide +kernel) cv_m11_conjunction rfl rfl in_m11_conjunction se_m11_conjunction lk_11_256 rfl (by omega) (Nat.le_of_ble_eq_true rfl) h (fun M2 h3 => ?_)
  exact A_weak (lsub.keep lsub.nil) h3
theorem r_11_expression_4 {d : Nat} (hd : 10 ≤ d)  {M : Mem} {P : Mem → Prop} (h : (CI m11_isWord 1 [(20, ((59 : Nat) : Int)), (0, 7)] M (fun r1 M2 => ((r1 = 0 → (P M2)) ∧ (r1 ≠ 0 → (CD m11_knot 3 [(20, ((59 : Nat) : Int))] M2 (fun M8 => (CD m11_goOn 4 [(20, ((59 : Nat) : Int))] M8 (fun M11 => (CD m11_conjunction d [(20, ((59 : Nat) : Int))] M11 (fun M14 => (CD m11_puts 2 [(20, ((59 : Nat) : Int)), (0, 2), (0, 262)] M14 (fun M17 => A m11_expression (d + 1) 0 4 [(20, ((59 : Nat) : Int))] [] M17 (Kd P)))))))))))))) : A m11_expression (d + 1) 0 4 [(20, ((59 : Nat) : Int))] [] M (Kd P) := by
  refine A_aload_n (i := 0) (f := 0) (by omega) rfl (by decide +kernel) rfl ?_
  refine A_bipush (a := 7) (by decide +kernel) (by unfold in32; omega) (by decide +kernel) ?_
  refine A_cVi (q := (RX11, TX11, 59)) (ci := 10) (o := ((59 : Nat) : Int)) (args := [(0, 7)]) (st := []) (by decide +kernel) cv_m11_isWord rfl rfl in_m11_isWord se_m11_isWord lk_11_227 rfl (by omega) (Nat.le_of_ble_eq_true rfl) h (fun r1 M2 _ h3 => ?_)
  refine A_if_eq (off := 26) (tgt := 36) (by decide +kernel) (by omega) (fun b4 => ?_) (fun b4 => ?_)
  · have h5 := h3.1 b4
    exact A_ret ⟨by decide +kernel, rfl⟩ ⟨rfl, h5⟩
  · have h6 := h3.2 b4
    refine A_aload_n (i := 0) (f := 0) (by omega) rfl (by decide +kernel) rfl ?_
    refine A_cVd (q := (RX11, TX11, 59)) (ci := 10) (o := ((59 : Nat) : Int)) (args := []) (st := []) (by decide +kernel) cv_m11_knot rfl rfl in_m11_knot se_m11_knot lk_11_259 rfl (by omega) (Nat.le_of_ble_eq_true rfl) h6 (fun M8 h9 => ?_)
    refine A_aload_n (i := 0) (f := 0) (by omega) rfl (by decide +kernel) rfl ?_
    refine A_cVd (q := (RX11, TX11, 59)) (ci := 10) (o := ((59 : Nat) : Int)) (args := []) (st := []) (by decide +kernel) cv_m11_goOn rfl rfl in_m11_goOn se_m11_goOn lk_11_224 rfl (by omega) (Nat.le_of_ble_eq_true rfl) h9 (fun M11 h12 => ?_)
    refine A_aload_n (i := 0) (f := 0) (by omega) rfl (by decide +kernel) rfl ?_
    refine A_cVd (q := (RX11, TX11, 59)) (ci := 10) (o := ((59 : Nat) : Int)) (args := []) (st := []) (by decide +kernel) cv_m11_conjunction rfl rfl in_m11_conjunction se_m11_conjunction lk_11_256 rfl (by omega) (Nat.le_of_ble_eq_true rfl) h12 (fun M14 h15 => ?_)
    refine A_aload_n (i := 0) (f := 0) (by omega) rfl (by decide +kernel) rfl ?_
    refine A_iconst (a := 2) (by decide +kernel) (by unfold in32; omega) ?_
    refine A_sipush (a := 262) (by decide +kernel) (by unfold in32; omega) (by decide +kernel) ?_
    refine A_cVd (q := (RX11, TX11, 59)) (ci := 10) (o := ((59 : Nat) : Int)) (args := [(0, 2), (0, 262)]) (st := []) (by decide +kernel) cv_m11_puts rfl rfl in_m11_puts se_m11_puts lk_11_262 rfl (by omega) (Nat.le_of_ble_eq_true rfl) h15 (fun M17 h18 => ?_)
    refine A_goto (off := (-29)) (tgt := 4) (by decide +kernel) (by omega) ?_
    exact A_weak (lsub.keep lsub.nil) h18
theorem q_11_negation {d : Nat} (hd : 10 ≤ d)  {M : Mem} {P : Mem → Prop} (h : (CI m11_isWord 1 [(20, ((59 : Nat) : Int)), (0, 9)] M (fun r1 M2 => ((r1 = 0 → (CD m11_sum d [(20, ((59 : Nat) : Int))] M2 (fun M8 => (((M8 59 23) ≠ 0 → (P M8)) ∧ ((M8 59 23) = 0 → (((M8 59 21) ≠ 3 → (P M8)) ∧ ((M8 59 21) = 3 → (((M8 59 22) = 60 → (CD m11_knot 3 [(20, ((59 : Nat) : Int))] M8 (fun M20 => (CD m11_goOn 4 [(20, ((59 : Nat) : Int))] M20 (fun M23 => (CD m11_sum d [(20, ((59 : Nat) : Int))] M23 (fun M26 => (CD m11_puts 2 [(20, ((59 : Nat) : Int)), (0, 2), (0, (M8 59 22))] M26 (fun M29 => (P M29)))))))))) ∧ ((M8 59 22) ≠ 60 → (((M8 59 22) = 62 → (CD m11_knot 3 [(20, ((59 : Nat) : Int))] M8 (fun M35 => (CD m11_goOn 4 [(20, ((59 : Nat) : Int))] M35 (fun M38 => (CD m11_sum d [(20, ((59 : Nat) : Int))] M38 (fun M41 => (CD m11_puts 2 [(20, ((59 : Nat) : Int)), (0, 2), (0, (M8 59 22))] M41 (fun M44 => (P M44)))))))))) ∧ ((M8 59 22) ≠ 62 → (((M8 59 22) = 61 → (CD m11_knot 3 [(20, ((59 : Nat) : Int))] M8 (fun M50 => (CD m11_goOn 4 [(20, ((59 : Nat) : Int))] M50 (fun M53 => (CD m11_sum d [(20, ((59 : Nat) : Int))] M53 (fun M56 => (CD m11_puts 2 [(20, ((59 : Nat) : Int)), (0, 2), (0, (M8 59 22))] M56 (fun M59 => (P M59)))))))))) ∧ ((M8 59 22) ≠ 61 → ((256 ≤ (M8 59 22) → (CD m11_knot 3 [(20, ((59 : Nat) : Int))] M8 (fun M65 => (CD m11_goOn 4 [(20, ((59 : Nat) : Int))] M65 (fun M68 => (CD m11_sum d [(20, ((59 : Nat) : Int))] M68 (fun M71 => (CD m11_puts 2 [(20, ((59 : Nat) : Int)), (0, 2), (0, (M8 59 22))] M71 (fun M74 => (P M74)))))))))) ∧ ((M8 59 22) < 256 → (P M8)))))))))))))))) ∧ (r1 ≠ 0 → (CD m11_knot 3 [(20, ((59 : Nat) : Int))] M2 (fun M77 => (CD m11_goOn 4 [(20, ((59 : Nat) : Int))] M77 (fun M80 => (CD m11_negation d [(20, ((59 : Nat) : Int))] M80 (fun M83 => (CD m11_puts 2 [(20, ((59 : Nat) : Int)), (0, 2), (0, 260)] M83 (fun M86 => (P M86)))))))))))))) : CD m11_negation (d + 1) [(20, ((59 : Nat) : Int))] M P := by
  refine CD_of (by decide +kernel) (Nat.le_of_ble_eq_true rfl) ?_
  show A m11_negation (d + 1) 0 0 [(20, ((59 : Nat) : Int)), (2, 0)] [] M (Kd P)
  refine A_aload_n (i := 0) (f := 0) (by omega) rfl (by decide +kernel) rfl ?_
  refine A_bipush (a := 9) (by decide +kernel) (by unfold in32; omega) (by decide +kernel) ?_
  refine A_cVi (q := (RX11, TX11, 59)) (ci := 10) (o := ((59 : Nat) : Int)) (args := [(0, 9)]) (st := []) (by decide +kernel) cv_m11_isWord rfl rfl in_m11_isWord se_m11_isWord lk_11_227 rfl (by omega) (Nat.le_of_ble_eq_true rfl) h (fun r1 M2 _ h3 => ?_)
  refine A_if_eq (off := 24) (tgt := 30) (by decide +kernel) (by omega) (fun b4 => ?_) (fun b4 => ?_)
  · have h5 := h3.1 b4
    refine A_aload_n (i := 0) (f := 0) (by omega) rfl (by decide +kernel) rfl ?_
    refine A_cVd (q := (RX11, TX11, 59)) (ci := 10) (o := ((59 : Nat) : Int)) (args := []) (st := []) (by decide +kernel) cv_m11_sum rfl rfl in_m11_sum se_m11_sum lk_11_268 rfl (by omega) (Nat.le_of_ble_eq_true rfl) h5 (fun M8 h9 => ?_)
    refine A_aload_n (i := 0) (f := 0) (by omega) rfl (by decide +kernel) rfl ?_
    refine B_getp (v := (M8 59 23)) (q := (RX11, TX11, 59)) (ci := 10) (j := 23) (p := 23) (by decide +kernel) rfl (by decide) rfl (Or.inl rfl) fl_11_175 rfl ?_
    refine A_if_ne (off := 48) (tgt := 86) (by decide +kernel) (by omega) (fun b10 => ?_) (fun b10 => ?_)
    · have h11 := h9.1 b10
      exact A_ret ⟨by decide +kernel, rfl⟩ ⟨rfl, h11⟩
    · have h12 := h9.2 (Decidable.not_not.mp b10)
      refine A_aload_n (i := 0) (f := 0) (by omega) rfl (by decide +kernel) rfl ?_
      refine B_getp (v := (M8 59 21)) (q := (RX11, TX11, 59)) (ci := 10) (j := 21) (p := 21) (by decide +kernel) rfl (by decide) rfl (Or.inl rfl) fl_11_137 rfl ?_
      refine A_iconst (a := 3) (by decide +kernel) (by unfold in32; omega) ?_
      refine A_ic_ne (off := 40) (tgt := 86) (by decide +kernel) (by omega) (fun b13 => ?_) (fun b13 => ?_)
      · have h14 := h12.1 b13
        exact A_ret ⟨by decide +kernel, rfl⟩ ⟨rfl, h14⟩
      · have h15 := h12.2 (Decidable.not_not.mp b13)
        refine A_aload_n (i := 0) (f := 0) (by omega) rfl (by decide +kernel) rfl ?_
        refine B_getp (v := (M8 59 22)) (q := (RX11, TX11, 59)) (ci := 10) (j := 22) (p := 22) (by decide +kernel) rfl (by decide) rfl (Or.inl rfl) fl_11_147 rfl ?_
        refine A_bipush (a := 60) (by decide +kernel) (by unfold in32; omega) (by decide +kernel) ?_
        refine A_ic_eq (off := 32) (tgt := 87) (by decide +kernel) (by omega) (fun b16 => ?_) (fun b16 => ?_)
        · have h17 := h15.1 b16
          refine A_aload_n (i := 0) (f := 0) (by omega) rfl (by decide +kernel) rfl ?_
          refine B_getp (v := (M8 59 22)) (q := (RX11, TX11, 59)) (ci := 10) (j := 22) (p := 22) (by decide +kernel) rfl (by decide) rfl (Or.inl rfl) fl_11_147 rfl ?_
          refine A_istore_n (i := 1) (f := 1) rfl (by decide +kernel) (by decide) (fun w h0 hw => by simp at hw; first | (rw [← hw]; decide) | (rw [← hw]; simp)) ?_
          refine A_aload_n (i := 0) (f := 0) (by omega) rfl (by decide +kernel) rfl ?_
          refine A_cVd (q := (RX11, TX11, 59)) (ci := 10) (o := ((59 : Nat) : Int)) (args := []) (st := []) (by decide +kernel) cv_m11_knot rfl rfl in_m11_knot se_m11_knot lk_11_259 rfl (by omega) (Nat.le_of_ble_eq_true rfl) h17 (fun M20 h21 => ?_)
          refine A_aload_n (i := 0) (f := 0) (by omega) rfl (by decide +kernel) rfl ?_
          refine A_cVd (q := (RX11, TX11, 59)) (ci := 10) (o := ((59 : Nat) : Int)) (args := []) (st := []) (by decide +kernel) cv_m11_goOn rfl rfl in_m11_goOn se_m11_goOn lk_11_224 rfl (by omega) (Nat.le_of_ble_eq_true rfl) h21 (fun M23 h24 => ?_)
          refine A_aload_n (i := 0) (f := 0) (by omega) rfl (by decide +kernel) rfl ?_
          refine A_cVd (q := (RX11, TX11, 59)) (ci := 10) (o := ((59 : Nat) : Int)) (args := []) (st := []) (by decide +kernel) cv_m11_sum rfl rfl in_m11_sum se_m11_sum lk_11_268 rfl (by omega) (Nat.le_of_ble_eq_true rfl) h24 (fun M26 h27 => ?_)
          refine A_aload_n (i := 0) (f := 0) (by omega) rfl (by decide +kernel) rfl ?_
          refine A_iconst (a := 2) (by decide +kernel) (by unfold in32; omega) ?_
          refine A_iload_n (i := 1) (f := 1) rfl (by decide +kernel) rfl ?_
          refine A_cVd (q := (RX11, TX11, 59)) (ci := 10) (o := ((59 : Nat) : Int)) (args := [(0, 2), (0, (M8 59 22))]) (st := []) (by decide +kernel) cv_m11_puts rfl rfl in_m11_puts se_m11_puts lk_11_262 rfl (by omega) (Nat.le_of_ble_eq_true rfl) h27 (fun M29 h30 => ?_)
          exact A_ret ⟨by decide +kernel, rfl⟩ ⟨rfl, h30⟩
        · have h18 := h15.2 b16
          refine A_aload_n (i := 0) (f := 0) (by omega) rfl (by decide +kernel) rfl ?_
          refine B_getp (v := (M8 59 22)) (q := (RX11, TX11, 59)) (ci := 10) (j := 22) (p := 22) (by decide +kernel) rfl (by decide) rfl (Or.inl rfl) fl_11_147 rfl ?_
          refine A_bipush (a := 62) (by decide +kernel) (by unfold in32; omega) (by decide +kernel) ?_
          refine A_ic_eq (off := 23) (tgt := 87) (by decide +kernel) (by omega) (fun b31 => ?_) (fun b31 => ?_)
          · have h32 := h18.1 b31
            refine A_aload_n (i := 0) (f := 0) (by omega) rfl (by decide +kernel) rfl ?_
            refine B_getp (v := (M8 59 22)) (q := (RX11, TX11, 59)) (ci := 10) (j := 22) (p := 22) (by decide +kernel) rfl (by decide) rfl (Or.inl rfl) fl_11_147 rfl ?_
            refine A_istore_n (i := 1) (f := 1) rfl (by decide +kernel) (by decide) (fun w h0 hw => by simp at hw; first | (rw [← hw]; decide) | (rw [← hw]; simp)) ?_
            refine A_aload_n (i := 0) (f := 0) (by omega) rfl (by decide +kernel) rfl ?_
            refine A_cVd (q := (RX11, TX11, 59)) (ci := 10) (o := ((59 : Nat) : Int)) (args := []) (st := []) (by decide +kernel) cv_m11_knot rfl rfl in_m11_knot se_m11_knot lk_11_259 rfl (by omega) (Nat.le_of_ble_eq_true rfl) h32 (fun M35 h36 => ?_)
            refine A_aload_n (i := 0) (f := 0) (by omega) rfl (by decide +kernel) rfl ?_
            refine A_cVd (q := (RX11, TX11, 59)) (ci := 10) (o := ((59 : Nat) : Int)) (args := []) (st := []) (by decide +kernel) cv_m11_goOn rfl rfl in_m11_goOn se_m11_goOn lk_11_224 rfl (by omega) (Nat.le_of_ble_eq_true rfl) h36 (fun M38 h39 => ?_)
            refine A_aload_n (i := 0) (f := 0) (by omega) rfl (by decide +kernel) rfl ?_
            refine A_cVd (q := (RX11, TX11, 59)) (ci := 10) (o := ((59 : Nat) : Int)) (args := []) (st := []) (by decide +kernel) cv_m11_sum rfl rfl in_m11_sum se_m11_sum lk_11_268 rfl (by omega) (Nat.le_of_ble_eq_true rfl) h39 (fun M41 h42 => ?_)
            refine A_aload_n (i := 0) (f := 0) (by omega) rfl (by decide +kernel) rfl ?_
            refine A_iconst (a := 2) (by decide +kernel) (by unfold in32; omega) ?_
            refine A_iload_n (i := 1) (f := 1) rfl (by decide +kernel) rfl ?_
            refine A_cVd (q := (RX11, TX11, 59)) (ci := 10) (o := ((59 : Nat) : Int)) (args := [(0, 2), (0, (M8 59 22))]) (st := []) (by decide +kernel) cv_m11_puts rfl rfl in_m11_puts se_m11_puts lk_11_262 rfl (by omega) (Nat.le_of_ble_eq_true rfl) h42 (fun M44 h45 => ?_)
            exact A_ret ⟨by decide +kernel, rfl⟩ ⟨rfl, h45⟩
          · have h33 := h18.2 b31
            refine A_aload_n (i := 0) (f := 0) (by omega) rfl (by decide +kernel) rfl ?_
            refine B_getp (v := (M8 59 22)) (q := (RX11, TX11, 59)) (ci := 10) (j := 22) (p := 22) (by decide +kernel) rfl (by decide) rfl (Or.inl rfl) fl_11_147 rfl ?_
            refine A_bipush (a := 61) (by decide +kernel) (by unfold in32; omega) (by decide +kernel) ?_
            refine A_ic_eq (off := 14) (tgt := 87) (by decide +kernel) (by omega) (fun b46 => ?_) (fun b46 => ?_)
            · have h47 := h33.1 b46
              refine A_aload_n (i := 0) (f := 0) (by omega) rfl (by decide +kernel) rfl ?_
              refine B_getp (v := (M8 59 22)) (q := (RX11, TX11, 59)) (ci := 10) (j := 22) (p := 22) (by decide +kernel) rfl (by decide) rfl (Or.inl rfl) fl_11_147 rfl ?_
              refine A_istore_n (i := 1) (f := 1) rfl (by decide +kernel) (by decide) (fun w h0 hw => by simp at hw; first | (rw [← hw]; decide) | (rw [← hw]; simp)) ?_
              refine A_aload_n (i := 0) (f := 0) (by omega) rfl (by decide +kernel) rfl ?_
              refine A_cVd (q := (RX11, TX11, 59)) (ci := 10) (o := ((59 : Nat) : Int)) (args := []) (st := []) (by decide +kernel) cv_m11_knot rfl rfl in_m11_knot se_m11_knot lk_11_259 rfl (by omega) (Nat.le_of_ble_eq_true rfl) h47 (fun M50 h51 => ?_)
              refine A_aload_n (i := 0) (f := 0) (by omega) rfl (by decide +kernel) rfl ?_
              refine A_cVd (q := (RX11, TX11, 59)) (ci := 10) (o := ((59 : Nat) : Int)) (args := []) (st := []) (by decide +kernel) cv_m11_goOn rfl rfl in_m11_goOn se_m11_goOn lk_11_224 rfl (by omega) (Nat.le_of_ble_eq_true rfl) h51 (fun M53 h54 => ?_)
              refine A_aload_n (i := 0) (f := 0) (by omega) rfl (by decide +kernel) rfl ?_
              refine A_cVd (q := (RX11, TX11, 59)) (ci := 10) (o := ((59 : Nat) : Int)) (args := []) (st := []) (by decide +kernel) cv_m11_sum rfl rfl in_m11_sum se_m11_sum lk_11_268 rfl (by omega) (Nat.le_of_ble_eq_true rfl) h54 (fun M56 h57 => ?_)
              refine A_aload_n (i := 0) (f := 0) (by omega) rfl (by decide +kernel) rfl ?_
              refine A_iconst (a := 2) (by decide +kernel) (by unfold in32; omega) ?_
              refine A_iload_n (i := 1) (f := 1) rfl (by decide +kernel) rfl ?_
              refine A_cVd (q := (RX11, TX11, 59)) (ci := 10) (o := ((59 : Nat) : Int)) (args := [(0, 2), (0, (M8 59 22))]) (st := []) (by decide +kernel) cv_m11_puts rfl rfl in_m11_puts se_m11_puts lk_11_262 rfl (by omega) (Nat.le_of_ble_eq_true rfl) h57 (fun M59 h60 => ?_)
              exact A_ret ⟨by decide +kernel, rfl⟩ ⟨rfl, h60⟩
            · have h48 := h33.2 b46
              refine A_aload_n (i := 0) (f := 0) (by omega) rfl (by decide +kernel) rfl ?_
              refine B_getp (v := (M8 59 22)) (q := (RX11, TX11, 59)) (ci := 10) (j := 22) (p := 22) (by decide +kernel) rfl (by decide) rfl (Or.inl rfl) fl_11_147 rfl ?_
              refine A_sipush (a := 256) (by decide +kernel) (by unfold in32; omega) (by decide +kernel) ?_
              refine A_ic_ge (off := 4) (tgt := 87) (by decide +kernel) (by omega) (fun b61 => ?_) (fun b61 => ?_)
              · have h62 := h48.1 b61
                refine A_aload_n (i := 0) (f := 0) (by omega) rfl (by decide +kernel) rfl ?_
                refine B_getp (v := (M8 59 22)) (q := (RX11, TX11, 59)) (ci := 10) (j := 22) (p := 22) (by decide +kernel) rfl (by decide) rfl (Or.inl rfl) fl_11_147 rfl ?_
                refine A_istore_n (i := 1) (f := 1) rfl (by decide +kernel) (by decide) (fun w h0 hw => by simp at hw; first | (rw [← hw]; decide) | (rw [← hw]; simp)) ?_
                refine A_aload_n (i := 0) (f := 0) (by omega) rfl (by decide +kernel) rfl ?_
                refine A_cVd (q := (RX11, TX11, 59)) (ci := 10) (o := ((59 : Nat) : Int)) (args := []) (st := []) (by decide +kernel) cv_m11_knot rfl rfl in_m11_knot se_m11_knot lk_11_259 rfl (by omega) (Nat.le_of_ble_eq_true rfl) h62 (fun M65 h66 => ?_)
                refine A_aload_n (i := 0) (f := 0) (by omega) rfl (by decide +kernel) rfl ?_
                refine A_cVd (q := (RX11, TX11, 59)) (ci := 10) (o := ((59 : Nat) : Int)) (args := []) (st := []) (by decide +kernel) cv_m11_goOn rfl rfl in_m11_goOn se_m11_goOn lk_11_224 rfl (by omega) (Nat.le_of_ble_eq_true rfl) h66 (fun M68 h69 => ?_)
                refine A_aload_n (i := 0) (f := 0) (by omega) rfl (by decide +kernel) rfl ?_
                refine A_cVd (q := (RX11, TX11, 59)) (ci := 10) (o := ((59 : Nat) : Int)) (args := []) (st := []) (by decide +kernel) cv_m11_sum rfl rfl in_m11_sum se_m11_sum lk_11_268 rfl (by omega) (Nat.le_of_ble_eq_true rfl) h69 (fun M71 h72 => ?_)
                refine A_aload_n (i := 0) (f := 0) (by omega) rfl (by decide +kernel) rfl ?_
                refine A_iconst (a := 2) (by decide +kernel) (by unfold in32; omega) ?_
                refine A_iload_n (i := 1) (f := 1) rfl (by decide +kernel) rfl ?_
                refine A_cVd (q := (RX11, TX11, 59)) (ci := 10) (o := ((59 : Nat) : Int)) (args := [(0, 2), (0, (M8 59 22))]) (st := []) (by decide +kernel) cv_m11_puts rfl rfl in_m11_puts se_m11_puts lk_11_262 rfl (by omega) (Nat.le_of_ble_eq_true rfl) h72 (fun M74 h75 => ?_)
                exact A_ret ⟨by decide +kernel, rfl⟩ ⟨rfl, h75⟩
              · have h63 := h48.2 (Int.not_le.mp b61)
                exact A_ret ⟨by decide +kernel, rfl⟩ ⟨rfl, h63⟩
  · have h6 := h3.2 b4
    refine A_aload_n (i := 0) (f := 0) (by omega) rfl (by decide +kernel) rfl ?_
    refine A_cVd (q := (RX11, TX11, 59)) (ci := 10) (o := ((59 : Nat) : Int)) (args := []) (st := []) (by decide +kernel) cv_m11_knot rfl rfl in_m11_knot se_m11_knot lk_11_259 rfl (by omega) (Nat.le_of_ble_eq_true rfl) h6 (fun M77 h78 => ?_)
    refine A_aload_n (i := 0) (f := 0) (by omega) rfl (by decide +kernel) rfl ?_
    refine A_cVd (q := (RX11, TX11, 59)) (ci := 10) (o := ((59 : Nat) : Int)) (args := []) (st := []) (by decide +kernel) cv_m11_goOn rfl rfl in_m11_goOn se_m11_goOn lk_11_224 rfl (by omega) (Nat.le_of_ble_eq_true rfl) h78 (fun M80 h81 => ?_)
    refine A_aload_n (i := 0) (f := 0) (by omega) rfl (by decide +kernel) rfl ?_
    refine A_cVd (q := (RX11, TX11, 59)) (ci := 10) (o := ((59 : Nat) : Int)) (args := []) (st := []) (by decide +kernel) cv_m11_negation rfl rfl in_m11_negation se_m11_negation lk_11_265 rfl (by omega) (Nat.le_of_ble_eq_true rfl) h81 (fun M83 h84 => ?_)
    refine A_aload_n (i := 0) (f := 0) (by omega) rfl (by decide +kernel) rfl ?_
    refine A_iconst (a := 2) (by decide +kernel) (by unfold in32; omega) ?_
    refine A_sipush (a := 260) (by decide +kernel) (by unfold in32; omega) (by decide +kernel) ?_
    refine A_cVd (q := (RX11, TX11, 59)) (ci := 10) (o := ((59 : Nat) : Int)) (args := [(0, 2), (0, 260)]) (st := []) (by decide +kernel) cv_m11_puts rfl rfl in_m11_puts se_m11_puts lk_11_262 rfl (by omega) (Nat.le_of_ble_eq_true rfl) h84 (fun M86 h87 => ?_)
    exact A_ret ⟨by decide +kernel, rfl⟩ ⟨rfl, h87⟩
theorem q_11_primary {d : Nat} (hd : 10 ≤ d)  {M : Mem} {P : Mem → Prop} (h : (((M 59 23) = 0 → (CI m11_isSign 1 [(20, ((59 : Nat) : Int)), (0, 40)] M (fun r4 M5 => ((r4 = 0 → (((M5 59 21) ≠ 2 → (((M5 59 21) ≠ 0 → (CD m11_wrong 2 [(20, ((59 : Nat) : Int)), (0, 1)] M5 (fun M17 => (CD m11_knot 3 [(20, ((59 : Nat) : Int))] M17 (fun M20 => (CD m11_puts 2 [(20, ((59 : Nat) : Int)), (0, 1), (0, (w32 ((M20 59 22) - 10)))] M20 (fun M23 => (CD m11_goOn 4 [(20, ((59 : Nat) : Int))] M23 (fun M26 => (P M26)))))))))) ∧ ((M5 59 21) = 0 → ((10 ≤ (M5 59 22) → (CD m11_knot 3 [(20, ((59 : Nat) : Int))] M5 (fun M32 => (CD m11_puts 2 [(20, ((59 : Nat) : Int)), (0, 1), (0, (w32 ((M32 59 22) - 10)))] M32 (fun M35 => (CD m11_goOn 4 [(20, ((59 : Nat) : Int))] M35 (fun M38 => (P M38)))))))) ∧ ((M5 59 22) < 10 → (CD m11_wrong 2 [(20, ((59 : Nat) : Int)), (0, 1)] M5 (fun M41 => (CD m11_knot 3 [(20, ((59 : Nat) : Int))] M41 (fun M44 => (CD m11_puts 2 [(20, ((59 : Nat) : Int)), (0, 1), (0, (w32 ((M44 59 22) - 10)))] M44 (fun M47 => (CD m11_goOn 4 [(20, ((59 : Nat) : Int))] M47 (fun M50 => (P M50)))))))))))))) ∧ ((M5 59 21) = 2 → (((M5 59 22) ≤ 9999 → (CD m11_knot 3 [(20, ((59 : Nat) : Int))] M5 (fun M56 => (CD m11_puts 2 [(20, ((59 : Nat) : Int)), (0, 0), (0, (M56 59 22))] M56 (fun M59 => (CD m11_goOn 4 [(20, ((59 : Nat) : Int))] M59 (fun M62 => (P M62)))))))) ∧ (9999 < (M5 59 22) → (CD m11_wrong 2 [(20, ((59 : Nat) : Int)), (0, 2)] M5 (fun M65 => (CD m11_knot 3 [(20, ((59 : Nat) : Int))] M65 (fun M68 => (CD m11_puts 2 [(20, ((59 : Nat) : Int)), (0, 0), (0, (M68 59 22))] M68 (fun M71 => (CD m11_goOn 4 [(20, ((59 : Nat) : Int))] M71 (fun M74 => (P M74)))))))))))))) ∧ (r4 ≠ 0 → (((M5 59 27) ≠ 8 → (((M5 59 23) = 0 → (CD m11_token 3 [(20, ((59 : Nat) : Int))] (mset M5 59 27 (w32 ((M5 59 27) + 1))) (fun M83 => (CD m11_expression d [(20, ((59 : Nat) : Int))] M83 (fun M86 => (((M86 59 23) ≠ 0 → (((M86 59 23) = 0 → (CD m11_token 3 [(20, ((59 : Nat) : Int))] (mset M86 59 27 (w32 ((M86 59 27) - 1))) (fun M95 => (P M95)))) ∧ ((M86 59 23) ≠ 0 → (P M86)))) ∧ ((M86 59 23) = 0 → (CI m11_isSign 1 [(20, ((59 : Nat) : Int)), (0, 41)] M86 (fun r97 M98 => ((r97 ≠ 0 → (((M98 59 23) = 0 → (CD m11_token 3 [(20, ((59 : Nat) : Int))] (mset M98 59 27 (w32 ((M98 59 27) - 1))) (fun M107 => (P M107)))) ∧ ((M98 59 23) ≠ 0 → (P M98)))) ∧ (r97 = 0 → (CD m11_wrong 2 [(20, ((59 : Nat) : Int)), (0, 1)] M98 (fun M110 => (((M110 59 23) = 0 → (CD m11_token 3 [(20, ((59 : Nat) : Int))] (mset M110 59 27 (w32 ((M110 59 27) - 1))) (fun M116 => (P M116)))) ∧ ((M110 59 23) ≠ 0 → (P M110)))))))))))))))) ∧ ((M5 59 23) ≠ 0 → (P M5)))) ∧ ((M5 59 27) = 8 → (CD m11_wrong 2 [(20, ((59 : Nat) : Int)), (0, 2)] M5 (fun M119 => (((M119 59 23) = 0 → (CD m11_token 3 [(20, ((59 : Nat) : Int))] (mset M119 59 27 (w32 ((M119 59 27) + 1))) (fun M125 => (CD m11_expression d [(20, ((59 : Nat) : Int))] M125 (fun M128 => (((M128 59 23) ≠ 0 → (((M128 59 23) = 0 → (CD m11_token 3 [(20, ((59 : Nat) : Int))] (mset M128 59 27 (w32 ((M128 59 27) - 1))) (fun M137 => (P M137)))) ∧ ((M128 59 23) ≠ 0 → (P M128)))) ∧ ((M128 59 23) = 0 → (CI m11_isSign 1 [(20, ((59 : Nat) : Int)), (0, 41)] M128 (fun r139 M140 => ((r139 ≠ 0 → (((M140 59 23) = 0 → (CD m11_token 3 [(20, ((59 : Nat) : Int))] (mset M140 59 27 (w32 ((M140 59 27) - 1))) (fun M149 => (P M149)))) ∧ ((M140 59 23) ≠ 0 → (P M140)))) ∧ (r139 = 0 → (CD m11_wrong 2 [(20, ((59 : Nat) : Int)), (0, 1)] M140 (fun M152 => (((M152 59 23) = 0 → (CD m11_token 3 [(20, ((59 : Nat) : Int))] (mset M152 59 27 (w32 ((M152 59 27) - 1))) (fun M158 => (P M158)))) ∧ ((M152 59 23) ≠ 0 → (P M152)))))))))))))))) ∧ ((M119 59 23) ≠ 0 → (P M119)))))))))))) ∧ ((M 59 23) ≠ 0 → (P M)))) : CD m11_primary (d + 1) [(20, ((59 : Nat) : Int))] M P := by
  refine CD_of (by decide +kernel) (Nat.le_of_ble_eq_true rfl) ?_
  show A m11_primary (d + 1) 0 0 [(20, ((59 : Nat) : Int)), (2, 0)] [] M (Kd P)
  refine A_aload_n (i := 0) (f := 0) (by omega) rfl (by decide +kernel) rfl ?_
  refine B_getp (v := (M 59 23)) (q := (RX11, TX11, 59)) (ci := 10) (j := 23) (p := 23) (by decide +kernel) rfl (by decide) rfl (Or.inl rfl) fl_11_175 rfl ?_
  refine A_if_eq (off := 4) (tgt := 8) (by decide +kernel) (by omega) (fun b1 => ?_) (fun b1 => ?_)
  · have h2 := h.1 b1
    refine A_aload_n (i := 0) (f := 0) (by omega) rfl (by decide +kernel) rfl ?_
    refine A_bipush (a := 40) (by decide +kernel) (by unfold in32; omega) (by decide +kernel) ?_
    refine A_cVi (q := (RX11, TX11, 59)) (ci := 10) (o := ((59 : Nat) : Int)) (args := [(0, 40)]) (st := []) (by decide +kernel) cv_m11_isSign rfl rfl in_m11_isSign se_m11_isSign lk_11_215 rfl (by omega) (Nat.le_of_ble_eq_true rfl) h2 (fun r4 M5 _ h6 => ?_)
    refine A_if_eq (off := 87) (tgt := 101) (by decide +kernel) (by omega) (fun b7 => ?_) (fun b7 => ?_)
    · have h8 := h6.1 b7
      refine A_aload_n (i := 0) (f := 0) (by omega) rfl (by decide +kernel) rfl ?_
      refine B_getp (v := (M5 59 21)) (q := (RX11, TX11, 59)) (ci := 10) (j := 21) (p := 21) (by decide +kernel) rfl (by decide) rfl (Or.inl rfl) fl_11_137 rfl ?_
      refine A_iconst (a := 2) (by decide +kernel) (by unfold in32; omega) ?_
      refine A_ic_ne (off := 7) (tgt := 113) (by decide +kernel) (by omega) (fun b10 => ?_) (fun b10 => ?_)
      · have h11 := h8.1 b10
        refine A_iconst (a := 0) (by decide +kernel) (by unfold in32; omega) ?_
        refine A_istore_n (i := 1) (f := 1) rfl (by decide +kernel) (by decide) (fun w h0 hw => by simp at hw; first | (rw [← hw]; decide) | (rw [← hw]; simp)) ?_
        refine A_iload_n (i := 1) (f := 1) rfl (by decide +kernel) rfl ?_
        refine A_if_eq (off := 21) (tgt := 137) (by decide +kernel) (by omega) (fun _ => ?_) (fun hb => absurd (by decide) hb)
        refine A_iload_n (i := 1) (f := 1) rfl (by decide +kernel) rfl ?_
        refine A_if_ne (off := 24) (tgt := 162) (by decide +kernel) (by omega) (fun hb => absurd hb (by decide)) (fun _ => ?_)
        refine A_aload_n (i := 0) (f := 0) (by omega) rfl (by decide +kernel) rfl ?_
        refine B_getp (v := (M5 59 21)) (q := (RX11, TX11, 59)) (ci := 10) (j := 21) (p := 21) (by decide +kernel) rfl (by decide) rfl (Or.inl rfl) fl_11_137 rfl ?_
        refine A_if_ne (off := 12) (tgt := 157) (by decide +kernel) (by omega) (fun b13 => ?_) (fun b13 => ?_)
        · have h14 := h11.1 b13
          refine A_aload_n (i := 0) (f := 0) (by omega) rfl (by decide +kernel) rfl ?_
          refine A_iconst (a := 1) (by decide +kernel) (by unfold in32; omega) ?_
          refine A_cVd (q := (RX11, TX11, 59)) (ci := 10) (o := ((59 : Nat) : Int)) (args := [(0, 1)]) (st := []) (by decide +kernel) cv_m11_wrong rfl rfl in_m11_wrong se_m11_wrong lk_11_184 rfl (by omega) (Nat.le_of_ble_eq_true rfl) h14 (fun M17 h18 => ?_)
          refine A_aload_n (i := 0) (f := 0) (by omega) rfl (by decide +kernel) rfl ?_
          refine A_cVd (q := (RX11, TX11, 59)) (ci := 10) (o := ((59 : Nat) : Int)) (args := []) (st := []) (by decide +kernel) cv_m11_knot rfl rfl in_m11_knot se_m11_knot lk_11_259 rfl (by omega) (Nat.le_of_ble_eq_true rfl) h18 (fun M20 h21 => ?_)
          refine A_aload_n (i := 0) (f := 0) (by omega) rfl (by decide +kernel) rfl ?_
          refine A_iload_n (i := 1) (f := 1) rfl (by decide +kernel) rfl ?_
          refine A_if_eq (off := 7) (tgt := 175) (by decide +kernel) (by omega) (fun _ => ?_) (fun hb => absurd (by decide) hb)
          refine A_iconst (a := 1) (by decide +kernel) (by unfold in32; omega) ?_
          refine A_iload_n (i := 1) (f := 1) rfl (by decide +kernel) rfl ?_
          refine A_if_eq (off := 10) (tgt := 187) (by decide +kernel) (by omega) (fun _ => ?_) (fun hb => absurd (by decide) hb)
          refine A_aload_n (i := 0) (f := 0) (by omega) rfl (by decide +kernel) rfl ?_
          refine B_getp (v := (M20 59 22)) (q := (RX11, TX11, 59)) (ci := 10) (j := 22) (p := 22) (by decide +kernel) rfl (by decide) rfl (Or.inl rfl) fl_11_147 rfl ?_
          refine A_bipush (a := 10) (by decide +kernel) (by unfold in32; omega) (by decide +kernel) ?_
          refine A_isub (by decide +kernel) ?_
          refine A_cVd (q := (RX11, TX11, 59)) (ci := 10) (o := ((59 : Nat) : Int)) (args := [(0, 1), (0, (w32 ((M20 59 22) - 10)))]) (st := []) (by decide +kernel) cv_m11_puts rfl rfl in_m11_puts se_m11_puts lk_11_262 rfl (by omega) (Nat.le_of_ble_eq_true rfl) h21 (fun M23 h24 => ?_)
          refine A_aload_n (i := 0) (f := 0) (by omega) rfl (by decide +kernel) rfl ?_
          refine A_cVd (q := (RX11, TX11, 59)) (ci := 10) (o := ((59 : Nat) : Int)) (args := []) (st := []) (by decide +kernel) cv_m11_goOn rfl rfl in_m11_goOn se_m11_goOn lk_11_224 rfl (by omega) (Nat.le_of_ble_eq_true rfl) h24 (fun M26 h27 => ?_)
          exact A_ret ⟨by decide +kernel, rfl⟩ ⟨rfl, h27⟩
        · have h15 := h11.2 (Decidable.not_not.mp b13)
          refine A_aload_n (i := 0) (f := 0) (by omega) rfl (by decide +kernel) rfl ?_
          refine B_getp (v := (M5 59 22)) (q := (RX11, TX11, 59)) (ci := 10) (j := 22) (p := 22) (by decide +kernel) rfl (by decide) rfl (Or.inl rfl) fl_11_147 rfl ?_
          refine A_bipush (a := 10) (by decide +kernel) (by unfold in32; omega) (by decide +kernel) ?_
          refine A_ic_ge (off := 8) (tgt := 162) (by decide +kernel) (by omega) (fun b28 => ?_) (fun b28 => ?_)
          · have h29 := h15.1 b28
            refine A_aload_n (i := 0) (f := 0) (by omega) rfl (by decide +kernel) rfl ?_
            refine A_cVd (q := (RX11, TX11, 59)) (ci := 10) (o := ((59 : Nat) : Int)) (args := []) (st := []) (by decide +kernel) cv_m11_knot rfl rfl in_m11_knot se_m11_knot lk_11_259 rfl (by omega) (Nat.le_of_ble_eq_true rfl) h29 (fun M32 h33 => ?_)
            refine A_aload_n (i := 0) (f := 0) (by omega) rfl (by decide +kernel) rfl ?_
            refine A_iload_n (i := 1) (f := 1) rfl (by decide +kernel) rfl ?_
            refine A_if_eq (off := 7) (tgt := 175) (by decide +kernel) (by omega) (fun _ => ?_) (fun hb => absurd (by decide) hb)
            refine A_iconst (a := 1) (by decide +kernel) (by unfold in32; omega) ?_
            refine A_iload_n (i := 1) (f := 1) rfl (by decide +kernel) rfl ?_
            refine A_if_eq (off := 10) (tgt := 187) (by decide +kernel) (by omega) (fun _ => ?_) (fun hb => absurd (by decide) hb)
            refine A_aload_n (i := 0) (f := 0) (by omega) rfl (by decide +kernel) rfl ?_
            refine B_getp (v := (M32 59 22)) (q := (RX11, TX11, 59)) (ci := 10) (j := 22) (p := 22) (by decide +kernel) rfl (by decide) rfl (Or.inl rfl) fl_11_147 rfl ?_
            refine A_bipush (a := 10) (by decide +kernel) (by unfold in32; omega) (by decide +kernel) ?_
            refine A_isub (by decide +kernel) ?_
            refine A_cVd (q := (RX11, TX11, 59)) (ci := 10) (o := ((59 : Nat) : Int)) (args := [(0, 1), (0, (w32 ((M32 59 22) - 10)))]) (st := []) (by decide +kernel) cv_m11_puts rfl rfl in_m11_puts se_m11_puts lk_11_262 rfl (by omega) (Nat.le_of_ble_eq_true rfl) h33 (fun M35 h36 => ?_)
            refine A_aload_n (i := 0) (f := 0) (by omega) rfl (by decide +kernel) rfl ?_
            refine A_cVd (q := (RX11, TX11, 59)) (ci := 10) (o := ((59 : Nat) : Int)) (args := []) (st := []) (by decide +kernel) cv_m11_goOn rfl rfl in_m11_goOn se_m11_goOn lk_11_224 rfl (by omega) (Nat.le_of_ble_eq_true rfl) h36 (fun M38 h39 => ?_)
            exact A_ret ⟨by decide +kernel, rfl⟩ ⟨rfl, h39⟩
          · have h30 := h15.2 (Int.not_le.mp b28)
            refine A_aload_n (i := 0) (f := 0) (by omega) rfl (by decide +kernel) rfl ?_
            refine A_iconst (a := 1) (by decide +kernel) (by unfold in32; omega) ?_
            refine A_cVd (q := (RX11, TX11, 59)) (ci := 10) (o := ((59 : Nat) : Int)) (args := [(0, 1)]) (st := []) (by decide +kernel) cv_m11_wrong rfl rfl in_m11_wrong se_m11_wrong lk_11_184 rfl (by omega) (Nat.le_of_ble_eq_true rfl) h30 (fun M41 h42 => ?_)
            refine A_aload_n (i := 0) (f := 0) (by omega) rfl (by decide +kernel) rfl ?_
            refine A_cVd (q := (RX11, TX11, 59)) (ci := 10) (o := ((59 : Nat) : Int)) (args := []) (st := []) (by decide +kernel) cv_m11_knot rfl rfl in_m11_knot se_m11_knot lk_11_259 rfl (by omega) (Nat.le_of_ble_eq_true rfl) h42 (fun M44 h45 => ?_)
            refine A_aload_n (i := 0) (f := 0) (by omega) rfl (by decide +kernel) rfl ?_
            refine A_iload_n (i := 1) (f := 1) rfl (by decide +kernel) rfl ?_
            refine A_if_eq (off := 7) (tgt := 175) (by decide +kernel) (by omega) (fun _ => ?_) (fun hb => absurd (by decide) hb)
            refine A_iconst (a := 1) (by decide +kernel) (by unfold in32; omega) ?_
            refine A_iload_n (i := 1) (f := 1) rfl (by decide +kernel) rfl ?_
            refine A_if_eq (off := 10) (tgt := 187) (by decide +kernel) (by omega) (fun _ => ?_) (fun hb => absurd (by decide) hb)
            refine A_aload_n (i := 0) (f := 0) (by omega) rfl (by decide +kernel) rfl ?_
            refine B_getp (v := (M44 59 22)) (q := (RX11, TX11, 59)) (ci := 10) (j := 22) (p := 22) (by decide +kernel) rfl (by decide) rfl (Or.inl rfl) fl_11_147 rfl ?_
            refine A_bipush (a := 10) (by decide +kernel) (by unfold in32; omega) (by decide +kernel) ?_
            refine A_isub (by decide +kernel) ?_
            refine A_cVd (q := (RX11, TX11, 59)) (ci := 10) (o := ((59 : Nat) : Int)) (args := [(0, 1), (0, (w32 ((M44 59 22) - 10)))]) (st := []) (by decide +kernel) cv_m11_puts rfl rfl in_m11_puts se_m11_puts lk_11_262 rfl (by omega) (Nat.le_of_ble_eq_true rfl) h45 (fun M47 h48 => ?_)
            refine A_aload_n (i := 0) (f := 0) (by omega) rfl (by decide +kernel) rfl ?_
            refine A_cVd (q := (RX11, TX11, 59)) (ci := 10) (o := ((59 : Nat) : Int)) (args := []) (st := []) (by decide +kernel) cv_m11_goOn rfl rfl in_m11_goOn se_m11_goOn lk_11_224 rfl (by omega) (Nat.le_of_ble_eq_true rfl) h48 (fun M50 h51 => ?_)
            exact A_ret ⟨by decide +kernel, rfl⟩ ⟨rfl, h51⟩
      · have h12 := h8.2 (Decidable.not_not.mp b10)
        refine A_iconst (a := 1) (by decide +kernel) (by unfold in32; omega) ?_
        refine A_goto (off := 4) (tgt := 114) (by decide +kernel) (by omega) ?_
        refine A_istore_n (i := 1) (f := 1) rfl (by decide +kernel) (by decide) (fun w h0 hw => by simp at hw; first | (rw [← hw]; decide) | (rw [← hw]; simp)) ?_
        refine A_iload_n (i := 1) (f := 1) rfl (by decide +kernel) rfl ?_
        refine A_if_eq (off := 21) (tgt := 137) (by decide +kernel) (by omega) (fun hb => absurd hb (by decide)) (fun _ => ?_)
        refine A_aload_n (i := 0) (f := 0) (by omega) rfl (by decide +kernel) rfl ?_
        refine B_getp (v := (M5 59 22)) (q := (RX11, TX11, 59)) (ci := 10) (j := 22) (p := 22) (by decide +kernel) rfl (by decide) rfl (Or.inl rfl) fl_11_147 rfl ?_
        refine A_sipush (a := 9999) (by decide +kernel) (by unfold in32; omega) (by decide +kernel) ?_
        refine A_ic_le (off := 11) (tgt := 137) (by decide +kernel) (by omega) (fun b52 => ?_) (fun b52 => ?_)
        · have h53 := h12.1 b52
          refine A_iload_n (i := 1) (f := 1) rfl (by decide +kernel) rfl ?_
          refine A_if_ne (off := 24) (tgt := 162) (by decide +kernel) (by omega) (fun _ => ?_) (fun hb => absurd (by decide) hb)
          refine A_aload_n (i := 0) (f := 0) (by omega) rfl (by decide +kernel) rfl ?_
          refine A_cVd (q := (RX11, TX11, 59)) (ci := 10) (o := ((59 : Nat) : Int)) (args := []) (st := []) (by decide +kernel) cv_m11_knot rfl rfl in_m11_knot se_m11_knot lk_11_259 rfl (by omega) (Nat.le_of_ble_eq_true rfl) h53 (fun M56 h57 => ?_)
          refine A_aload_n (i := 0) (f := 0) (by omega) rfl (by decide +kernel) rfl ?_
          refine A_iload_n (i := 1) (f := 1) rfl (by decide +kernel) rfl ?_
          refine A_if_eq (off := 7) (tgt := 175) (by decide +kernel) (by omega) (fun hb => absurd hb (by decide)) (fun _ => ?_)
          refine A_iconst (a := 0) (by decide +kernel) (by unfold in32; omega) ?_
          refine A_goto (off := 4) (tgt := 176) (by decide +kernel) (by omega) ?_
          refine A_iload_n (i := 1) (f := 1) rfl (by decide +kernel) rfl ?_
          refine A_if_eq (off := 10) (tgt := 187) (by decide +kernel) (by omega) (fun hb => absurd hb (by decide)) (fun _ => ?_)
          refine A_aload_n (i := 0) (f := 0) (by omega) rfl (by decide +kernel) rfl ?_
          refine B_getp (v := (M56 59 22)) (q := (RX11, TX11, 59)) (ci := 10) (j := 22) (p := 22) (by decide +kernel) rfl (by decide) rfl (Or.inl rfl) fl_11_147 rfl ?_
          refine A_goto (off := 10) (tgt := 194) (by decide +kernel) (by omega) ?_
          refine A_cVd (q := (RX11, TX11, 59)) (ci := 10) (o := ((59 : Nat) : Int)) (args := [(0, 0), (0, (M56 59 22))]) (st := []) (by decide +kernel) cv_m11_puts rfl rfl in_m11_puts se_m11_puts lk_11_262 rfl (by omega) (Nat.le_of_ble_eq_true rfl) h57 (fun M59 h60 => ?_)
          refine A_aload_n (i := 0) (f := 0) (by omega) rfl (by decide +kernel) rfl ?_
          refine A_cVd (q := (RX11, TX11, 59)) (ci := 10) (o := ((59 : Nat) : Int)) (args := []) (st := []) (by decide +kernel) cv_m11_goOn rfl rfl in_m11_goOn se_m11_goOn lk_11_224 rfl (by omega) (Nat.le_of_ble_eq_true rfl) h60 (fun M62 h63 => ?_)
          exact A_ret ⟨by decide +kernel, rfl⟩ ⟨rfl, h63⟩
        · have h54 := h12.2 (Int.not_le.mp b52)
          refine A_aload_n (i := 0) (f := 0) (by omega) rfl (by decide +kernel) rfl ?_
          refine A_iconst (a := 2) (by decide +kernel) (by unfold in32; omega) ?_
          refine A_cVd (q := (RX11, TX11, 59)) (ci := 10) (o := ((59 : Nat) : Int)) (args := [(0, 2)]) (st := []) (by decide +kernel) cv_m11_wrong rfl rfl in_m11_wrong se_m11_wrong lk_11_184 rfl (by omega) (Nat.le_of_ble_eq_true rfl) h54 (fun M65 h66 => ?_)
          refine A_goto (off := 28) (tgt := 162) (by decide +kernel) (by omega) ?_
          refine A_aload_n (i := 0) (f := 0) (by omega) rfl (by decide +kernel) rfl ?_
          refine A_cVd (q := (RX11, TX11, 59)) (ci := 10) (o := ((59 : Nat) : Int)) (args := []) (st := []) (by decide +kernel) cv_m11_knot rfl rfl in_m11_knot se_m11_knot lk_11_259 rfl (by omega) (Nat.le_of_ble_eq_true rfl) h66 (fun M68 h69 => ?_)
          refine A_aload_n (i := 0) (f := 0) (by omega) rfl (by decide +kernel) rfl ?_
          refine A_iload_n (i := 1) (f := 1) rfl (by decide +kernel) rfl ?_
          refine A_if_eq (off := 7) (tgt := 175) (by decide +kernel) (by omega) (fun hb => absurd hb (by decide)) (fun _ => ?_)
          refine A_iconst (a := 0) (by decide +kernel) (by unfold in32; omega) ?_
          refine A_goto (off := 4) (tgt := 176) (by decide +kernel) (by omega) ?_
          refine A_iload_n (i := 1) (f := 1) rfl (by decide +kernel) rfl ?_
          refine A_if_eq (off := 10) (tgt := 187) (by decide +kernel) (by omega) (fun hb => absurd hb (by decide)) (fun _ => ?_)
          refine A_aload_n (i := 0) (f := 0) (by omega) rfl (by decide +kernel) rfl ?_
          refine B_getp (v := (M68 59 22)) (q := (RX11, TX11, 59)) (ci := 10) (j := 22) (p := 22) (by decide +kernel) rfl (by decide) rfl (Or.inl rfl) fl_11_147 rfl ?_
          refine A_goto (off := 10) (tgt := 194) (by decide +kernel) (by omega) ?_
          refine A_cVd (q := (RX11, TX11, 59)) (ci := 10) (o := ((59 : Nat) : Int)) (args := [(0, 0), (0, (M68 59 22))]) (st := []) (by decide +kernel) cv_m11_puts rfl rfl in_m11_puts se_m11_puts lk_11_262 rfl (by omega) (Nat.le_of_ble_eq_true rfl) h69 (fun M71 h72 => ?_)
          refine A_aload_n (i := 0) (f := 0) (by omega) rfl (by decide +kernel) rfl ?_
          refine A_cVd (q := (RX11, TX11, 59)) (ci := 10) (o := ((59 : Nat) : Int)) (args := []) (st := []) (by decide +kernel) cv_m11_goOn rfl rfl in_m11_goOn se_m11_goOn lk_11_224 rfl (by omega) (Nat.le_of_ble_eq_true rfl) h72 (fun M74 h75 => ?_)
          exact A_ret ⟨by decide +kernel, rfl⟩ ⟨rfl, h75⟩
    · have h9 := h6.2 b7
      refine A_aload_n (i := 0) (f := 0) (by omega) rfl (by decide +kernel) rfl ?_
      refine B_getp (v := (M5 59 27)) (q := (RX11, TX11, 59)) (ci := 10) (j := 27) (p := 27) (by decide +kernel) rfl (by decide) rfl (Or.inl rfl) fl_11_277 rfl ?_
      refine A_bipush (a := 8) (by decide +kernel) (by unfold in32; omega) (by decide +kernel) ?_
      refine A_ic_ne (off := 8) (tgt := 31) (by decide +kernel) (by omega) (fun b76 => ?_) (fun b76 => ?_)
      · have h77 := h9.1 b76
        refine A_aload_n (i := 0) (f := 0) (by omega) rfl (by decide +kernel) rfl ?_
        refine B_getp (v := (M5 59 23)) (q := (RX11, TX11, 59)) (ci := 10) (j := 23) (p := 23) (by decide +kernel) rfl (by decide) rfl (Or.inl rfl) fl_11_175 rfl ?_
        refine A_if_eq (off := 4) (tgt := 39) (by decide +kernel) (by omega) (fun b79 => ?_) (fun b79 => ?_)
        · have h80 := h77.1 b79
          refine A_aload_n (i := 0) (f := 0) (by omega) rfl (by decide +kernel) rfl ?_
          refine A_dup (by decide +kernel) (by simp) ?_
          refine B_getp (v := (M5 59 27)) (q := (RX11, TX11, 59)) (ci := 10) (j := 27) (p := 27) (by decide +kernel) rfl (by decide) rfl (Or.inl rfl) fl_11_277 rfl ?_
          refine A_iconst (a := 1) (by decide +kernel) (by unfold in32; omega) ?_
          refine A_iadd (by decide +kernel) ?_
          refine B_putp (M' := (mset M5 59 27 (w32 ((M5 59 27) + 1)))) (q := (RX11, TX11, 59)) (ci := 10) (j := 27) (p := 27) (by decide +kernel) rfl (by decide) rfl (Or.inl ⟨rfl, rfl⟩) rfl fl_11_277 rfl ?_
          refine A_aload_n (i := 0) (f := 0) (by omega) rfl (by decide +kernel) rfl ?_
          refine A_cVd (q := (RX11, TX11, 59)) (ci := 10) (o := ((59 : Nat) : Int)) (args := []) (st := []) (by decide +kernel) cv_m11_token rfl rfl in_m11_token se_m11_token lk_11_181 rfl (by omega) (Nat.le_of_ble_eq_true rfl) h80 (fun M83 h84 => ?_)
          refine A_aload_n (i := 0) (f := 0) (by omega) rfl (by decide +kernel) rfl ?_
          refine A_cVd (q := (RX11, TX11, 59)) (ci := 10) (o := ((59 : Nat) : Int)) (args := []) (st := []) (by decide +kernel) cv_m11_expression rfl rfl in_m11_expression se_m11_expression lk_11_212 rfl (by omega) (Nat.le_of_ble_eq_true rfl) h84 (fun M86 h87 => ?_)
          refine A_aload_n (i := 0) (f := 0) (by omega) rfl (by decide +kernel) rfl ?_
          refine B_getp (v := (M86 59 23)) (q := (RX11, TX11, 59)) (ci := 10) (j := 23) (p := 23) (by decide +kernel) rfl (by decide) rfl (Or.inl rfl) fl_11_175 rfl ?_
          refine A_if_ne (off := 17) (tgt := 78) (by decide +kernel) (by omega) (fun b88 => ?_) (fun b88 => ?_)
          · have h89 := h87.1 b88
            refine A_aload_n (i := 0) (f := 0) (by omega) rfl (by decide +kernel) rfl ?_
            refine B_getp (v := (M86 59 23)) (q := (RX11, TX11, 59)) (ci := 10) (j := 23) (p := 23) (by decide +kernel) rfl (by decide) rfl (Or.inl rfl) fl_11_175 rfl ?_
            refine A_if_eq (off := 4) (tgt := 86) (by decide +kernel) (by omega) (fun b91 => ?_) (fun b91 => ?_)
            · have h92 := h89.1 b91
              refine A_aload_n (i := 0) (f := 0) (by omega) rfl (by decide +kernel) rfl ?_
              refine A_dup (by decide +kernel) (by simp) ?_
              refine B_getp (v := (M86 59 27)) (q := (RX11, TX11, 59)) (ci := 10) (j := 27) (p := 27) (by decide +kernel) rfl (by decide) rfl (Or.inl rfl) fl_11_277 rfl ?_
              refine A_iconst (a := 1) (by decide +kernel) (by unfold in32; omega) ?_
              refine A_isub (by decide +kernel) ?_
              refine B_putp (M' := (mset M86 59 27 (w32 ((M86 59 27) - 1)))) (q := (RX11, TX11, 59)) (ci := 10) (j := 27) (p := 27) (by decide +kernel) rfl (by decide) rfl (Or.inl ⟨rfl, rfl⟩) rfl fl_11_277 rfl ?_
              refine A_aload_n (i := 0) (f := 0) (by omega) rfl (by decide +kernel) rfl ?_
              refine A_cVd (q := (RX11, TX11, 59)) (ci := 10) (o := ((59 : Nat) : Int)) (args := []) (st := []) (by decide +kernel) cv_m11_token rfl rfl in_m11_token se_m11_token lk_11_181 rfl (by omega) (Nat.le_of_ble_eq_true rfl) h92 (fun M95 h96 => ?_)
              exact A_ret ⟨by decide +kernel, rfl⟩ ⟨rfl, h96⟩
            · have h93 := h89.2 b91
              exact A_ret ⟨by decide +kernel, rfl⟩ ⟨rfl, h93⟩
          · have h90 := h87.2 (Decidable.not_not.mp b88)
            refine A_aload_n (i := 0) (f := 0) (by omega) rfl (by decide +kernel) rfl ?_
            refine A_bipush (a := 41) (by decide +kernel) (by unfold in32; omega) (by decide +kernel) ?_
            refine A_cVi (q := (RX11, TX11, 59)) (ci := 10) (o := ((59 : Nat) : Int)) (args := [(0, 41)]) (st := []) (by decide +kernel) cv_m11_isSign rfl rfl in_m11_isSign se_m11_isSign lk_11_215 rfl (by omega) (Nat.le_of_ble_eq_true rfl) h90 (fun r97 M98 _ h99 => ?_)
            refine A_if_ne (off := 8) (tgt := 78) (by decide +kernel) (by omega) (fun b100 => ?_) (fun b100 => ?_)
            · have h101 := h99.1 b100
              refine A_aload_n (i := 0) (f := 0) (by omega) rfl (by decide +kernel) rfl ?_
              refine B_getp (v := (M98 59 23)) (q := (RX11, TX11, 59)) (ci := 10) (j := 23) (p := 23) (by decide +kernel) rfl (by decide) rfl (Or.inl rfl) fl_11_175 rfl ?_
              refine A_if_eq (off := 4) (tgt := 86) (by decide +kernel) (by omega) (fun b103 => ?_) (fun b103 => ?_)
              · have h104 := h101.1 b103
                refine A_aload_n (i := 0) (f := 0) (by omega) rfl (by decide +kernel) rfl ?_
                refine A_dup (by decide +kernel) (by simp) ?_
                refine B_getp (v := (M98 59 27)) (q := (RX11, TX11, 59)) (ci := 10) (j := 27) (p := 27) (by decide +kernel) rfl (by decide) rfl (Or.inl rfl) fl_11_277 rfl ?_
                refine A_iconst (a := 1) (by decide +kernel) (by unfold in32; omega) ?_
                refine A_isub (by decide +kernel) ?_
                refine B_putp (M' := (mset M98 59 27 (w32 ((M98 59 27) - 1)))) (q := (RX11, TX11, 59)) (ci := 10) (j := 27) (p := 27) (by decide +kernel) rfl (by decide) rfl (Or.inl ⟨rfl, rfl⟩) rfl fl_11_277 rfl ?_
                refine A_aload_n (i := 0) (f := 0) (by omega) rfl (by decide +kernel) rfl ?_
                refine A_cVd (q := (RX11, TX11, 59)) (ci := 10) (o := ((59 : Nat) : Int)) (args := []) (st := []) (by decide +kernel) cv_m11_token rfl rfl in_m11_token se_m11_token lk_11_181 rfl (by omega) (Nat.le_of_ble_eq_true rfl) h104 (fun M107 h108 => ?_)
                exact A_ret ⟨by decide +kernel, rfl⟩ ⟨rfl, h108⟩
              · have h105 := h101.2 b103
                exact A_ret ⟨by decide +kernel, rfl⟩ ⟨rfl, h105⟩
            · have h102 := h99.2 (Decidable.not_not.mp b100)
              refine A_aload_n (i := 0) (f := 0) (by omega) rfl (by decide +kernel) rfl ?_
              refine A_iconst (a := 1) (by decide +kernel) (by unfold in32; omega) ?_
              refine A_cVd (q := (RX11, TX11, 59)) (ci := 10) (o := ((59 : Nat) : Int)) (args := [(0, 1)]) (st := []) (by decide +kernel) cv_m11_wrong rfl rfl in_m11_wrong se_m11_wrong lk_11_184 rfl (by omega) (Nat.le_of_ble_eq_true rfl) h102 (fun M110 h111 => ?_)
              refine A_aload_n (i := 0) (f := 0) (by omega) rfl (by decide +kernel) rfl ?_
              refine B_getp (v := (M110 59 23)) (q := (RX11, TX11, 59)) (ci := 10) (j := 23) (p := 23) (by decide +kernel) rfl (by decide) rfl (Or.inl rfl) fl_11_175 rfl ?_
              refine A_if_eq (off := 4) (tgt := 86) (by decide +kernel) (by omega) (fun b112 => ?_) (fun b112 => ?_)
              · have h113 := h111.1 b112
                refine A_aload_n (i := 0) (f := 0) (by omega) rfl (by decide +kernel) rfl ?_
                refine A_dup (by decide +kernel) (by simp) ?_
                refine B_getp (v := (M110 59 27)) (q := (RX11, TX11, 59)) (ci := 10) (j := 27) (p := 27) (by decide +kernel) rfl (by decide) rfl (Or.inl rfl) fl_11_277 rfl ?_
                refine A_iconst (a := 1) (by decide +kernel) (by unfold in32; omega) ?_
                refine A_isub (by decide +kernel) ?_
                refine B_putp (M' := (mset M110 59 27 (w32 ((M110 59 27) - 1)))) (q := (RX11, TX11, 59)) (ci := 10) (j := 27) (p := 27) (by decide +kernel) rfl (by decide) rfl (Or.inl ⟨rfl, rfl⟩) rfl fl_11_277 rfl ?_
                refine A_aload_n (i := 0) (f := 0) (by omega) rfl (by decide +kernel) rfl ?_
                refine A_cVd (q := (RX11, TX11, 59)) (ci := 10) (o := ((59 : Nat) : Int)) (args := []) (st := []) (by decide +kernel) cv_m11_token rfl rfl in_m11_token se_m11_token lk_11_181 rfl (by omega) (Nat.le_of_ble_eq_true rfl) h113 (fun M116 h117 => ?_)
                exact A_ret ⟨by decide +kernel, rfl⟩ ⟨rfl, h117⟩
              · have h114 := h111.2 b112
                exact A_ret ⟨by decide +kernel, rfl⟩ ⟨rfl, h114⟩
        · have h81 := h77.2 b79
          exact A_ret ⟨by decide +kernel, rfl⟩ ⟨rfl, h81⟩
      · have h78 := h9.2 (Decidable.not_not.mp b76)
        refine A_aload_n (i := 0) (f := 0) (by omega) rfl (by decide +kernel) rfl ?_
        refine A_iconst (a := 2) (by decide +kernel) (by unfold in32; omega) ?_
        refine A_cVd (q := (RX11, TX11, 59)) (ci := 10) (o := ((59 : Nat) : Int)) (args := [(0, 2)]) (st := []) (by decide +kernel) cv_m11_wrong rfl rfl in_m11_wrong se_m11_wrong lk_11_184 rfl (by omega) (Nat.le_of_ble_eq_true rfl) h78 (fun M119 h120 => ?_)
        refine A_aload_n (i := 0) (f := 0) (by omega) rfl (by decide +kernel) rfl ?_
        refine B_getp (v := (M119 59 23)) (q := (RX11, TX11, 59)) (ci := 10) (j := 23) (p := 23) (by decide +kernel) rfl (by decide) rfl (Or.inl rfl) fl_11_175 rfl ?_
        refine A_if_eq (off := 4) (tgt := 39) (by decide +kernel) (by omega) (fun b121 => ?_) (fun b121 => ?_)
        · have h122 := h120.1 b121
          refine A_aload_n (i := 0) (f := 0) (by omega) rfl (by decide +kernel) rfl ?_
          refine A_dup (by decide +kernel) (by simp) ?_
          refine B_getp (v := (M119 59 27)) (q := (RX11, TX11, 59)) (ci := 10) (j := 27) (p := 27) (by decide +kernel) rfl (by decide) rfl (Or.inl rfl) fl_11_277 rfl ?_
          refine A_iconst (a := 1) (by decide +kernel) (by unfold in32; omega) ?_
          refine A_iadd (by decide +kernel) ?_
          refine B_putp (M' := (mset M119 59 27 (w32 ((M119 59 27) + 1)))) (q := (RX11, TX11, 59)) (ci := 10) (j := 27) (p := 27) (by decide +kernel) rfl (by decide) rfl (Or.inl ⟨rfl, rfl⟩) rfl fl_11_277 rfl ?_
          refine A_aload_n (i := 0) (f := 0) (by omega) rfl (by decide +kernel) rfl ?_
          refine A_cVd (q := (RX11, TX11, 59)) (ci := 10) (o := ((59 : Nat) : Int)) (args := []) (st := []) (by decide +kernel) cv_m11_token rfl rfl in_m11_token se_m11_token lk_11_181 rfl (by omega) (Nat.le_of_ble_eq_true rfl) h122 (fun M125 h126 => ?_)
          refine A_aload_n (i := 0) (f := 0) (by omega) rfl (by decide +kernel) rfl ?_
          refine A_cVd (q := (RX11, TX11, 59)) (ci := 10) (o := ((59 : Nat) : Int)) (args := []) (st := []) (by decide +kernel) cv_m11_expression rfl rfl in_m11_expression se_m11_expression lk_11_212 rfl (by omega) (Nat.le_of_ble_eq_true rfl) h126 (fun M128 h129 => ?_)
          refine A_aload_n (i := 0) (f := 0) (by omega) rfl (by decide +kernel) rfl ?_
          refine B_getp (v := (M128 59 23)) (q := (RX11, TX11, 59)) (ci := 10) (j := 23) (p := 23) (by decide +kernel) rfl (by decide) rfl (Or.inl rfl) fl_11_175 rfl ?_
          refine A_if_ne (off := 17) (tgt := 78) (by decide +kernel) (by omega) (fun b130 => ?_) (fun b130 => ?_)
          · have h131 := h129.1 b130
            refine A_aload_n (i := 0) (f := 0) (by omega) rfl (by decide +kernel) rfl ?_
            refine B_getp (v := (M128 59 23)) (q := (RX11, TX11, 59)) (ci := 10) (j := 23) (p := 23) (by decide +kernel) rfl (by decide) rfl (Or.inl rfl) fl_11_175 rfl ?_
            refine A_if_eq (off := 4) (tgt := 86) (by decide +kernel) (by omega) (fun b133 => ?_) (fun b133 => ?_)
            · have h134 := h131.1 b133
              refine A_aload_n (i := 0) (f := 0) (by omega) rfl (by decide +kernel) rfl ?_
              refine A_dup (by decide +kernel) (by simp) ?_
              refine B_getp (v := (M128 59 27)) (q := (RX11, TX11, 59)) (ci := 10) (j := 27) (p := 27) (by decide +kernel) rfl (by decide) rfl (Or.inl rfl) fl_11_277 rfl ?_
              refine A_iconst (a := 1) (by decide +kernel) (by unfold in32; omega) ?_
              refine A_isub (by decide +kernel) ?_
              refine B_putp (M' := (mset M128 59 27 (w32 ((M128 59 27) - 1)))) (q := (RX11, TX11, 59)) (ci := 10) (j := 27) (p := 27) (by decide +kernel) rfl (by decide) rfl (Or.inl ⟨rfl, rfl⟩) rfl fl_11_277 rfl ?_
              refine A_aload_n (i := 0) (f := 0) (by omega) rfl (by decide +kernel) rfl ?_
              refine A_cVd (q := (RX11, TX11, 59)) (ci := 10) (o := ((59 : Nat) : Int)) (args := []) (st := []) (by decide +kernel) cv_m11_token rfl rfl in_m11_token se_m11_token lk_11_181 rfl (by omega) (Nat.le_of_ble_eq_true rfl) h134 (fun M137 h138 => ?_)
              exact A_ret ⟨by decide +kernel, rfl⟩ ⟨rfl, h138⟩
            · have h135 := h131.2 b133
              exact A_ret ⟨by decide +kernel, rfl⟩ ⟨rfl, h135⟩
          · have h132 := h129.2 (Decidable.not_not.mp b130)
            refine A_aload_n (i := 0) (f := 0) (by omega) rfl (by decide +kernel) rfl ?_
            refine A_bipush (a := 41) (by decide +kernel) (by unfold in32; omega) (by decide +kernel) ?_
            refine A_cVi (q := (RX11, TX11, 59)) (ci := 10) (o := ((59 : Nat) : Int)) (args := [(0, 41)]) (st := []) (by decide +kernel) cv_m11_isSign rfl rfl in_m11_isSign se_m11_isSign lk_11_215 rfl (by omega) (Nat.le_of_ble_eq_true rfl) h132 (fun r139 M140 _ h141 => ?_)
            refine A_if_ne (off := 8) (tgt := 78) (by decide +kernel) (by omega) (fun b142 => ?_) (fun b142 => ?_)
            · have h143 := h141.1 b142
              refine A_aload_n (i := 0) (f := 0) (by omega) rfl (by decide +kernel) rfl ?_
              refine B_getp (v := (M140 59 23)) (q := (RX11, TX11, 59)) (ci := 10) (j := 23) (p := 23) (by decide +kernel) rfl (by decide) rfl (Or.inl rfl) fl_11_175 rfl ?_
              refine A_if_eq (off := 4) (tgt := 86) (by decide +kernel) (by omega) (fun b145 => ?_) (fun b145 => ?_)
              · have h146 := h143.1 b145
                refine A_aload_n (i := 0) (f := 0) (by omega) rfl (by decide +kernel) rfl ?_
                refine A_dup (by decide +kernel) (by simp) ?_
                refine B_getp (v := (M140 59 27)) (q := (RX11, TX11, 59)) (ci := 10) (j := 27) (p := 27) (by decide +kernel) rfl (by decide) rfl (Or.inl rfl) fl_11_277 rfl ?_
                refine A_iconst (a := 1) (by decide +kernel) (by unfold in32; omega) ?_
                refine A_isub (by decide +kernel) ?_
                refine B_putp (M' := (mset M140 59 27 (w32 ((M140 59 27) - 1)))) (q := (RX11, TX11, 59)) (ci := 10) (j := 27) (p := 27) (by decide +kernel) rfl (by decide) rfl (Or.inl ⟨rfl, rfl⟩) rfl fl_11_277 rfl ?_
                refine A_aload_n (i := 0) (f := 0) (by omega) rfl (by decide +kernel) rfl ?_
                refine A_cVd (q := (RX11, TX11, 59)) (ci := 10) (o := ((59 : Nat) : Int)) (args := []) (st := []) (by decide +kernel) cv_m11_token rfl rfl in_m11_token se_m11_token lk_11_181 rfl (by omega) (Nat.le_of_ble_eq_true rfl) h146 (fun M149 h150 => ?_)
                exact A_ret ⟨by decide +kernel, rfl⟩ ⟨rfl, h150⟩
              · have h147 := h143.2 b145
                exact A_ret ⟨by decide +kernel, rfl⟩ ⟨rfl, h147⟩
            · have h144 := h141.2 (Decidable.not_not.mp b142)
              refine A_aload_n (i := 0) (f := 0) (by omega) rfl (by decide +kernel) rfl ?_
              refine A_iconst (a := 1) (by decide +kernel) (by unfold in32; omega) ?_
              refine A_cVd (q := (RX11, TX11, 59)) (ci := 10) (o := ((59 : Nat) : Int)) (args := [(0, 1)]) (st := []) (by decide +kernel) cv_m11_wrong rfl rfl in_m11_wrong se_m11_wrong lk_11_184 rfl (by omega) (Nat.le_of_ble_eq_true rfl) h144 (fun M152 h153 => ?_)
              refine A_aload_n (i := 0) (f := 0) (by omega) rfl (by decide +kernel) rfl ?_
              refine B_getp (v := (M152 59 23)) (q := (RX11, TX11, 59)) (ci := 10) (j := 23) (p := 23) (by decide +kernel) rfl (by decide) rfl (Or.inl rfl) fl_11_175 rfl ?_
              refine A_if_eq (off := 4) (tgt := 86) (by decide +kernel) (by omega) (fun b154 => ?_) (fun b154 => ?_)
              · have h155 := h153.1 b154
                refine A_aload_n (i := 0) (f := 0) (by omega) rfl (by decide +kernel) rfl ?_
                refine A_dup (by decide +kernel) (by simp) ?_
                refine B_getp (v := (M152 59 27)) (q := (RX11, TX11, 59)) (ci := 10) (j := 27) (p := 27) (by decide +kernel) rfl (by decide) rfl (Or.inl rfl) fl_11_277 rfl ?_
                refine A_iconst (a := 1) (by decide +kernel) (by unfold in32; omega) ?_
                refine A_isub (by decide +kernel) ?_
                refine B_putp (M' := (mset M152 59 27 (w32 ((M152 59 27) - 1)))) (q := (RX11, TX11, 59)) (ci := 10) (j := 27) (p := 27) (by decide +kernel) rfl (by decide) rfl (Or.inl ⟨rfl, rfl⟩) rfl fl_11_277 rfl ?_
                refine A_aload_n (i := 0) (f := 0) (by omega) rfl (by decide +kernel) rfl ?_
                refine A_cVd (q := (RX11, TX11, 59)) (ci := 10) (o := ((59 : Nat) : Int)) (args := []) (st := []) (by decide +kernel) cv_m11_token rfl rfl in_m11_token se_m11_token lk_11_181 rfl (by omega) (Nat.le_of_ble_eq_true rfl) h155 (fun M158 h159 => ?_)
                exact A_ret ⟨by decide +kernel, rfl⟩ ⟨rfl, h159⟩
              · have h156 := h153.2 b154
                exact A_ret ⟨by decide +kernel, rfl⟩ ⟨rfl, h156⟩
        · have h123 := h120.2 b121
          exact A_ret ⟨by decide +kernel, rfl⟩ ⟨rfl, h123⟩
  · have h3 := h.2 b1
    exact A_ret ⟨by decide +kernel, rfl⟩ ⟨rfl, h3⟩
theorem q_11_product {d : Nat} (hd : 10 ≤ d)  {M : Mem} {P : Mem → Prop} (h : (CD m11_primary d [(20, ((59 : Nat) : Int))] M (fun M2 => A m11_product (d + 1) 0 4 [(20, ((59 : Nat) : Int)), (2, 0)] [] M2 (Kd P)))) : CD m11_product (d + 1) [(20, ((59 : Nat) : Int))] M P := by
  refine CD_of (by decide +kernel) (Nat.le_of_ble_eq_true rfl) ?_
  show A m11_product (d + 1) 0 0 [(20, ((59 : Nat) : Int)), (2, 0)] [] M (Kd P)
  refine A_aload_n (i := 0) (f := 0) (by omega) rfl (by decide +kernel) rfl ?_
  refine A_cVd (q := (RX11, TX11, 59)) (ci := 10) (o := ((59 : Nat) : Int)) (args := []) (st := []) (by decide +kernel) cv_m11_primary rfl rfl in_m11_primary se_m11_primary lk_11_274 rfl (by omega) (Nat.le_of_ble_eq_true rfl) h (fun M2 h3 => ?_)
  exact A_weak (lsub.keep (lsub.drop lsub.nil)) h3
theorem r_11_product_4 {d : Nat} (hd : 10 ≤ d)  {M : Mem} {P : Mem → Prop} (h : (CI m11_isSign 1 [(20, ((59 : Nat) : Int)), (0, 42)] M (fun r1 M2 => ((r1 ≠ 0 → (CD m11_knot 3 [(20, ((59 : Nat) : Int))] M2 (fun M8 => (CD m11_goOn 4 [(20, ((59 : Nat) : Int))] M8 (fun M11 => (CD m11_primary d [(20, ((59 : Nat) : Int))] M11 (fun M14 => (CD m11_puts 2 [(20, ((59 : Nat) : Int)), (0, 2), (0, (M2 59 22))] M14 (fun M17 => A m11_product (d + 1) 0 4 [(20, ((59 : Nat) : Int)), (2, 0)] [] M17 (Kd P)))))))))) ∧ (r1 = 0 → (CI m11_isSign 1 [(20, ((59 : Nat) : Int)), (0, 47)] M2 (fun r19 M20 => ((r19 = 0 → (P M20)) ∧ (r19 ≠ 0 → (CD m11_knot 3 [(20, ((59 : Nat) : Int))] M20 (fun M26 => (CD m11_goOn 4 [(20, ((59 : Nat) : Int))] M26 (fun M29 => (CD m11_primary d [(20, ((59 : Nat) : Int))] M29 (fun M32 => (CD m11_puts 2 [(20, ((59 : Nat) : Int)), (0, 2), (0, (M20 59 22))] M32 (fun M35 => A m11_product (d + 1) 0 4 [(20, ((59 : Nat) : Int)), (2, 0)] [] M35 (Kd P)))))))))))))))))) : A m11_product (d + 1) 0 4 [(20, ((59 : Nat) : Int)), (2, 0)] [] M (Kd P) := by
  refine A_aload_n (i := 0) (f := 0) (by omega) rfl (by decide +kernel) rfl ?_
  refine A_bipush (a := 42) (by decide +kernel) (by unfold in32; omega) (by decide +kernel) ?_
  refine A_cVi (q := (RX11, TX11, 59)) (ci := 10) (o := ((59 : Nat) : Int)) (args := [(0, 42)]) (st := []) (by decide +kernel) cv_m11_isSign rfl rfl in_m11_isSign se_m11_isSign lk_11_215 rfl (by omega) (Nat.le_of_ble_eq_true rfl) h (fun r1 M2 _ h3 => ?_)
  refine A_if_ne (off := 12) (tgt := 22) (by decide +kernel) (by omega) (fun b4 => ?_) (fun b4 => ?_)
  · have h5 := h3.1 b4
    refine A_aload_n (i := 0) (f := 0) (by omega) rfl (by decide +kernel) rfl ?_
    refine B_getp (v := (M2 59 22)) (q := (RX11, TX11, 59)) (ci := 10) (j := 22) (p := 22) (by decide +kernel) rfl (by decide) rfl (Or.inl rfl) fl_11_147 rfl ?_
    refine A_istore_n (i := 1) (f := 1) rfl (by decide +kernel) (by decide) (fun w h0 hw => by simp at hw; first | (rw [← hw]; decide) | (rw [← hw]; simp)) ?_
    refine A_aload_n (i := 0) (f := 0) (by omega) rfl (by decide +kernel) rfl ?_
    refine A_cVd (q := (RX11, TX11, 59)) (ci := 10) (o := ((59 : Nat) : Int)) (args := []) (st := []) (by decide +kernel) cv_m11_knot rfl rfl in_m11_knot se_m11_knot lk_11_259 rfl (by omega) (Nat.le_of_ble_eq_true rfl) h5 (fun M8 h9 => ?_)
    refine A_aload_n (i := 0) (f := 0) (by omega) rfl (by decide +kernel) rfl ?_
    refine A_cVd (q := (RX11, TX11, 59)) (ci := 10) (o := ((59 : Nat) : Int)) (args := []) (st := []) (by decide +kernel) cv_m11_goOn rfl rfl in_m11_goOn se_m11_goOn lk_11_224 rfl (by omega) (Nat.le_of_ble_eq_true rfl) h9 (fun M11 h12 => ?_)
    refine A_aload_n (i := 0) (f := 0) (by omega) rfl (by decide +kernel) rfl ?_
    refine A_cVd (q := (RX11, TX11, 59)) (ci := 10) (o := ((59 : Nat) : Int)) (args := []) (st := []) (by decide +kernel) cv_m11_primary rfl rfl in_m11_primary se_m11_primary lk_11_274 rfl (by omega) (Nat.le_of_ble_eq_true rfl) h12 (fun M14 h15 => ?_)
    refine A_aload_n (i := 0) (f := 0) (by omega) rfl (by decide +kernel) rfl ?_
    refine A_iconst (a := 2) (by decide +kernel) (by unfold in32; omega) ?_
    refine A_iload_n (i := 1) (f := 1) rfl (by decide +kernel) rfl ?_
    refine A_cVd (q := (RX11, TX11, 59)) (ci := 10) (o := ((59 : Nat) : Int)) (args := [(0, 2), (0, (M2 59 22))]) (st := []) (by decide +kernel) cv_m11_puts rfl rfl in_m11_puts se_m11_puts lk_11_262 rfl (by omega) (Nat.le_of_ble_eq_true rfl) h15 (fun M17 h18 => ?_)
    refine A_goto (off := (-41)) (tgt := 4) (by decide +kernel) (by omega) ?_
    exact A_weak (lsub.keep (lsub.drop lsub.nil)) h18
  · have h6 := h3.2 (Decidable.not_not.mp b4)
    refine A_aload_n (i := 0) (f := 0) (by omega) rfl (by decide +kernel) rfl ?_
    refine A_bipush (a := 47) (by decide +kernel) (by unfold in32; omega) (by decide +kernel) ?_
    refine A_cVi (q := (RX11, TX11, 59)) (ci := 10) (o := ((59 : Nat) : Int)) (args := [(0, 47)]) (st := []) (by decide +kernel) cv_m11_isSign rfl rfl in_m11_isSign se_m11_isSign lk_11_215 rfl (by omega) (Nat.le_of_ble_eq_true rfl) h6 (fun r19 M20 _ h21 => ?_)
    refine A_if_eq (off := 29) (tgt := 48) (by decide +kernel) (by omega) (fun b22 => ?_) (fun b22 => ?_)
    · have h23 := h21.1 b22
      exact A_ret ⟨by decide +kernel, rfl⟩ ⟨rfl, h23⟩
    · have h24 := h21.2 b22
      refine A_aload_n (i := 0) (f := 0) (by omega) rfl (by decide +kernel) rfl ?_
      refine B_getp (v := (M20 59 22)) (q := (RX11, TX11, 59)) (ci := 10) (j := 22) (p := 22) (by decide +kernel) rfl (by decide) rfl (Or.inl rfl) fl_11_147 rfl ?_
      refine A_istore_n (i := 1) (f := 1) rfl (by decide +kernel) (by decide) (fun w h0 hw => by simp at hw; first | (rw [← hw]; decide) | (rw [← hw]; simp)) ?_
      refine A_aload_n (i := 0) (f := 0) (by omega) rfl (by decide +kernel) rfl ?_
      refine A_cVd (q := (RX11, TX11, 59)) (ci := 10) (o := ((59 : Nat) : Int)) (args := []) (st := []) (by decide +kernel) cv_m11_knot rfl rfl in_m11_knot se_m11_knot lk_11_259 rfl (by omega) (Nat.le_of_ble_eq_true rfl) h24 (fun M26 h27 => ?_)
      refine A_aload_n (i := 0) (f := 0) (by omega) rfl (by decide +kernel) rfl ?_
      refine A_cVd (q := (RX11, TX11, 59)) (ci := 10) (o := ((59 : Nat) : Int)) (args := []) (st := []) (by decide +kernel) cv_m11_goOn rfl rfl in_m11_goOn se_m11_goOn lk_11_224 rfl (by omega) (Nat.le_of_ble_eq_true rfl) h27 (fun M29 h30 => ?_)
      refine A_aload_n (i := 0) (f := 0) (by omega) rfl (by decide +kernel) rfl ?_
      refine A_cVd (q := (RX11, TX11, 59)) (ci := 10) (o := ((59 : Nat) : Int)) (args := []) (st := []) (by decide +kernel) cv_m11_primary rfl rfl in_m11_primary se_m11_primary lk_11_274 rfl (by omega) (Nat.le_of_ble_eq_true rfl) h30 (fun M32 h33 => ?_)
      refine A_aload_n (i := 0) (f := 0) (by omega) rfl (by decide +kernel) rfl ?_
      refine A_iconst (a := 2) (by decide +kernel) (by unfold in32; omega) ?_
      refine A_iload_n (i := 1) (f := 1) rfl (by decide +kernel) rfl ?_
      refine A_cVd (q := (RX11, TX11, 59)) (ci := 10) (o := ((59 : Nat) : Int)) (args := [(0, 2), (0, (M20 59 22))]) (st := []) (by decide +kernel) cv_m11_puts rfl rfl in_m11_puts se_m11_puts lk_11_262 rfl (by omega) (Nat.le_of_ble_eq_true rfl) h33 (fun M35 h36 => ?_)
      refine A_goto (off := (-41)) (tgt := 4) (by decide +kernel) (by omega) ?_
      exact A_weak (lsub.keep (lsub.drop lsub.nil)) h36
theorem q_11_sum {d : Nat} (hd : 10 ≤ d)  {M : Mem} {P : Mem → Prop} (h : (CD m11_product d [(20, ((59 : Nat) : Int))] M (fun M2 => A m11_sum (d + 1) 0 4 [(20, ((59 : Nat) : Int)), (2, 0)] [] M2 (Kd P)))) : CD m11_sum (d + 1) [(20, ((59 : Nat) : Int))] M P := by
  refine CD_of (by decide +kernel) (Nat.le_of_ble_eq_true rfl) ?_
  show A m11_sum (d + 1) 0 0 [(20, ((59 : Nat) : Int)), (2, 0)] [] M (Kd P)
  refine A_aload_n (i := 0) (f := 0) (by omega) rfl (by decide +kernel) rfl ?_
  refine A_cVd (q := (RX11, TX11, 59)) (ci := 10) (o := ((59 : Nat) : Int)) (args := []) (st := []) (by decide +kernel) cv_m11_product rfl rfl in_m11_product se_m11_product lk_11_271 rfl (by omega) (Nat.le_of_ble_eq_true rfl) h (fun M2 h3 => ?_)
  exact A_weak (lsub.keep (lsub.drop lsub.nil)) h3
theorem r_11_sum_4 {d : Nat} (hd : 10 ≤ d)  {M : Mem} {P : Mem → Prop} (h : (CI m11_isSign 1 [(20, ((59 : Nat) : Int)), (0, 43)] M (fun r1 M2 => ((r1 ≠ 0 → (CD m11_knot 3 [(20, ((59 : Nat) : Int))] M2 (fun M8 => (CD m11_goOn 4 [(20, ((59 : Nat) : Int))] M8 (fun M11 => (CD m11_product d [(20, ((59 : Nat) : Int))] M11 (fun M14 => (CD m11_puts 2 [(20, ((59 : Nat) : Int)), (0, 2), (0, (M2 59 22))] M14 (fun M17 => A m11_sum (d + 1) 0 4 [(20, ((59 : Nat) : Int)), (2, 0)] [] M17 (Kd P)))))))))) ∧ (r1 = 0 → (CI m11_isSign 1 [(20, ((59 : Nat) : Int)), (0, 45)] M2 (fun r19 M20 => ((r19 = 0 → (P M20)) ∧ (r19 ≠ 0 → (CD m11_knot 3 [(20, ((59 : Nat) : Int))] M20 (fun M26 => (CD m11_goOn 4 [(20, ((59 : Nat) : Int))] M26 (fun M29 => (CD m11_product d [(20, ((59 : Nat) : Int))] M29 (fun M32 => (CD m11_puts 2 [(20, ((59 : Nat) : Int)), (0, 2), (0, (M20 59 22))] M32 (fun M35 => A m11_sum (d + 1) 0 4 [(20, ((59 : Nat) : Int)), (2, 0)] [] M35 (Kd P)))))))))))))))))) : A m11_sum (d + 1) 0 4 [(20, ((59 : Nat) : Int)), (2, 0)] [] M (Kd P) := by
  refine A_aload_n (i := 0) (f := 0) (by omega) rfl (by decide +kernel) rfl ?_
  refine A_bipush (a := 43) (by decide +kernel) (by unfold in32; omega) (by decide +kernel) ?_
  refine A_cVi (q := (RX11, TX11, 59)) (ci := 10) (o := ((59 : Nat) : Int)) (args := [(0, 43)]) (st := []) (by decide +kernel) cv_m11_isSign rfl rfl in_m11_isSign se_m11_isSign lk_11_215 rfl (by omega) (Nat.le_of_ble_eq_true rfl) h (fun r1 M2 _ h3 => ?_)
  refine A_if_ne (off := 12) (tgt := 22) (by decide +kernel) (by omega) (fun b4 => ?_) (fun b4 => ?_)
  · have h5 := h3.1 b4
    refine A_aload_n (i := 0) (f := 0) (by omega) rfl (by decide +kernel) rfl ?_
    refine B_getp (v := (M2 59 22)) (q := (RX11, TX11, 59)) (ci := 10) (j := 22) (p := 22) (by decide +kernel) rfl (by decide) rfl (Or.inl rfl) fl_11_147 rfl ?_
    refine A_istore_n (i := 1) (f := 1) rfl (by decide +kernel) (by decide) (fun w h0 hw => by simp at hw; first | (rw [← hw]; decide) | (rw [← hw]; simp)) ?_
    refine A_aload_n (i := 0) (f := 0) (by omega) rfl (by decide +kernel) rfl ?_
    refine A_cVd (q := (RX11, TX11, 59)) (ci := 10) (o := ((59 : Nat) : Int)) (args := []) (st := []) (by decide +kernel) cv_m11_knot rfl rfl in_m11_knot se_m11_knot lk_11_259 rfl (by omega) (Nat.le_of_ble_eq_true rfl) h5 (fun M8 h9 => ?_)
    refine A_aload_n (i := 0) (f := 0) (by omega) rfl (by decide +kernel) rfl ?_
    refine A_cVd (q := (RX11, TX11, 59)) (ci := 10) (o := ((59 : Nat) : Int)) (args := []) (st := []) (by decide +kernel) cv_m11_goOn rfl rfl in_m11_goOn se_m11_goOn lk_11_224 rfl (by omega) (Nat.le_of_ble_eq_true rfl) h9 (fun M11 h12 => ?_)
    refine A_aload_n (i := 0) (f := 0) (by omega) rfl (by decide +kernel) rfl ?_
    refine A_cVd (q := (RX11, TX11, 59)) (ci := 10) (o := ((59 : Nat) : Int)) (args := []) (st := []) (by decide +kernel) cv_m11_product rfl rfl in_m11_product se_m11_product lk_11_271 rfl (by omega) (Nat.le_of_ble_eq_true rfl) h12 (fun M14 h15 => ?_)
    refine A_aload_n (i := 0) (f := 0) (by omega) rfl (by decide +kernel) rfl ?_
    refine A_iconst (a := 2) (by decide +kernel) (by unfold in32; omega) ?_
    refine A_iload_n (i := 1) (f := 1) rfl (by decide +kernel) rfl ?_
    refine A_cVd (q := (RX11, TX11, 59)) (ci := 10) (o := ((59 : Nat) : Int)) (args := [(0, 2), (0, (M2 59 22))]) (st := []) (by decide +kernel) cv_m11_puts rfl rfl in_m11_puts se_m11_puts lk_11_262 rfl (by omega) (Nat.le_of_ble_eq_true rfl) h15 (fun M17 h18 => ?_)
    refine A_goto (off := (-41)) (tgt := 4) (by decide +kernel) (by omega) ?_
    exact A_weak (lsub.keep (lsub.drop lsub.nil)) h18
  · have h6 := h3.2 (Decidable.not_not.mp b4)
    refine A_aload_n (i := 0) (f := 0) (by omega) rfl (by decide +kernel) rfl ?_
    refine A_bipush (a := 45) (by decide +kernel) (by unfold in32; omega) (by decide +kernel) ?_
    refine A_cVi (q := (RX11, TX11, 59)) (ci := 10) (o := ((59 : Nat) : Int)) (args := [(0, 45)]) (st := []) (by decide +kernel) cv_m11_isSign rfl rfl in_m11_isSign se_m11_isSign lk_11_215 rfl (by omega) (Nat.le_of_ble_eq_true rfl) h6 (fun r19 M20 _ h21 => ?_)
    refine A_if_eq (off := 29) (tgt := 48) (by decide +kernel) (by omega) (fun b22 => ?_) (fun b22 => ?_)
    · have h23 := h21.1 b22
      exact A_ret ⟨by decide +kernel, rfl⟩ ⟨rfl, h23⟩
    · have h24 := h21.2 b22
      refine A_aload_n (i := 0) (f := 0) (by omega) rfl (by decide +kernel) rfl ?_
      refine B_getp (v := (M20 59 22)) (q := (RX11, TX11, 59)) (ci := 10) (j := 22) (p := 22) (by decide +kernel) rfl (by decide) rfl (Or.inl rfl) fl_11_147 rfl ?_
      refine A_istore_n (i := 1) (f := 1) rfl (by decide +kernel) (by decide) (fun w h0 hw => by simp at hw; first | (rw [← hw]; decide) | (rw [← hw]; simp)) ?_
      refine A_aload_n (i := 0) (f := 0) (by omega) rfl (by decide +kernel) rfl ?_
      refine A_cVd (q := (RX11, TX11, 59)) (ci := 10) (o := ((59 : Nat) : Int)) (args := []) (st := []) (by decide +kernel) cv_m11_knot rfl rfl in_m11_knot se_m11_knot lk_11_259 rfl (by omega) (Nat.le_of_ble_eq_true rfl) h24 (fun M26 h27 => ?_)
      refine A_aload_n (i := 0) (f := 0) (by omega) rfl (by decide +kernel) rfl ?_
      refine A_cVd (q := (RX11, TX11, 59)) (ci := 10) (o := ((59 : Nat) : Int)) (args := []) (st := []) (by decide +kernel) cv_m11_goOn rfl rfl in_m11_goOn se_m11_goOn lk_11_224 rfl (by omega) (Nat.le_of_ble_eq_true rfl) h27 (fun M29 h30 => ?_)
      refine A_aload_n (i := 0) (f := 0) (by omega) rfl (by decide +kernel) rfl ?_
      refine A_cVd (q := (RX11, TX11, 59)) (ci := 10) (o := ((59 : Nat) : Int)) (args := []) (st := []) (by decide +kernel) cv_m11_product rfl rfl in_m11_product se_m11_product lk_11_271 rfl (by omega) (Nat.le_of_ble_eq_true rfl) h30 (fun M32 h33 => ?_)
      refine A_aload_n (i := 0) (f := 0) (by omega) rfl (by decide +kernel) rfl ?_
      refine A_iconst (a := 2) (by decide +kernel) (by unfold in32; omega) ?_
      refine A_iload_n (i := 1) (f := 1) rfl (by decide +kernel) rfl ?_
      refine A_cVd (q := (RX11, TX11, 59)) (ci := 10) (o := ((59 : Nat) : Int)) (args := [(0, 2), (0, (M20 59 22))]) (st := []) (by decide +kernel) cv_m11_puts rfl rfl in_m11_puts se_m11_puts lk_11_262 rfl (by omega) (Nat.le_of_ble_eq_true rfl) h33 (fun M35 h36 => ?_)
      refine A_goto (off := (-41)) (tgt := 4) (by decide +kernel) (by omega) ?_
      exact A_weak (lsub.keep (lsub.drop lsub.nil)) h36
theorem q_11_halls {d : Nat} (hd : 10 ≤ d) {x1 : Int} {x2 : Int} {x3 : Int} {M : Mem} {P : Mem → Prop} (h : ((x1 ≠ (M 61 2) → A m11_halls (d + 1) 0 95 [(20, ((59 : Nat) : Int)), (0, x1), (0, x2), (0, x3), (0, 0), (2, 0)] [] M (Kd P)) ∧ (x1 = (M 61 2) → A m11_halls (d + 1) 0 16 [(20, ((59 : Nat) : Int)), (2, 0), (2, 0), (0, x3), (0, 0), (0, 0)] [] M (Kd P)))) : CD m11_halls (d + 1) [(20, ((59 : Nat) : Int)), (0, x1), (0, x2), (0, x3)] M P := by
  refine CD_of (by decide +kernel) (Nat.le_of_ble_eq_true rfl) ?_
  show A m11_halls (d + 1) 0 0 [(20, ((59 : Nat) : Int)), (0, x1), (0, x2), (0, x3), (2, 0), (2, 0)] [] M (Kd P)
  refine A_iload_n (i := 1) (f := 1) rfl (by decide +kernel) rfl ?_
  refine A_aload_n (i := 0) (f := 0) (by omega) rfl (by decide +kernel) rfl ?_
  refine B_getr (o' := ((61 : Nat) : Int)) (q := (RX11, TX11, 59)) (ci := 10) (j := 3) (by decide +kernel) rfl (by decide) rfl (by omega) fl_11_13 rfl ?_
  refine A_iconst (a := 2) (by decide +kernel) (by unfold in32; omega) ?_
  refine B_iald (v := (M 61 2)) (by decide +kernel) (by decide) rfl ?_
  refine A_ic_ne (off := 85) (tgt := 92) (by decide +kernel) (by omega) (fun b1 => ?_) (fun b1 => ?_)
  · have h2 := h.1 b1
    refine A_iconst (a := 0) (by decide +kernel) (by unfold in32; omega) ?_
    refine A_istore (i := 4) (by decide +kernel) (by decide) (fun w h0 hw => by simp at hw; first | (rw [← hw]; decide) | (rw [← hw]; simp)) ?_
    exact A_weak (lsub.keep (lsub.keep (lsub.keep (lsub.keep (lsub.keep (lsub.drop lsub.nil)))))) h2
  · have h3 := h.2 (Decidable.not_not.mp b1)
    refine A_iconst (a := 0) (by decide +kernel) (by unfold in32; omega) ?_
    refine A_istore (i := 4) (by decide +kernel) (by decide) (fun w h0 hw => by simp at hw; first | (rw [← hw]; decide) | (rw [← hw]; simp)) ?_
    refine A_iconst (a := 0) (by decide +kernel) (by unfold in32; omega) ?_
    refine A_istore (i := 5) (by decide +kernel) (by decide) (fun w h0 hw => by simp at hw; first | (rw [← hw]; decide) | (rw [← hw]; simp)) ?_
    exact A_weak (lsub.keep (lsub.drop (lsub.drop (lsub.keep (lsub.keep (lsub.keep lsub.nil)))))) h3
theorem r_11_halls_16 {d : Nat} (hd : 10 ≤ d) {x3 : Int} {x4 : Int} {x5 : Int} {M : Mem} {P : Mem → Prop} (h : ((5 ≤ x5 → (((M 59 44) = (-1) → (P (mset (mset M 59 44 x4) 59 43 x3))) ∧ ((M 59 44) ≠ (-1) → ((x4 < (M 59 44) → (P (mset (mset M 59 44 x4) 59 43 x3))) ∧ ((M 59 44) ≤ x4 → (P M)))))) ∧ (x5 < 5 → (((iand (ishr (M 59 45) x5) 1) ≠ 1 → A m11_halls (d + 1) 0 16 [(20, ((59 : Nat) : Int)), (2, 0), (2, 0), (0, x3), (0, (w32 (x4 + 0))), (0, (w32 (x5 + 1)))] [] M (Kd P)) ∧ ((iand (ishr (M 59 45) x5) 1) = 1 → ((0 ≤ x5 ∧ x5 < 5) ∧ (CI m11_turned 3 [(20, ((59 : Nat) : Int)), (0, x3), (0, (M 81 (x5).toNat))] M (fun r14 M15 => A m11_halls (d + 1) 0 16 [(20, ((59 : Nat) : Int)), (2, 0), (2, 0), (0, x3), (0, (w32 (x4 + r14))), (0, (w32 (x5 + 1)))] [] M15 (Kd P))))))))) : A m11_halls (d + 1) 0 16 [(20, ((59 : Nat) : Int)), (2, 0), (2, 0), (0, x3), (0, x4), (0, x5)] [] M (Kd P) := by
  refine A_iload (i := 5) (by decide +kernel) rfl ?_
  refine A_iconst (a := 5) (by decide +kernel) (by unfold in32; omega) ?_
  refine A_ic_ge (off := 43) (tgt := 62) (by decide +kernel) (by omega) (fun b1 => ?_) (fun b1 => ?_)
  · have h2 := h.1 b1
    refine A_aload_n (i := 0) (f := 0) (by omega) rfl (by decide +kernel) rfl ?_
    refine B_getp (v := (M 59 44)) (q := (RX11, TX11, 59)) (ci := 10) (j := 44) (p := 44) (by decide +kernel) rfl (by decide) rfl (Or.inl rfl) fl_11_405 rfl ?_
    refine A_iconst (a := (-1)) (by decide +kernel) (by unfold in32; omega) ?_
    refine A_ic_eq (off := 13) (tgt := 80) (by decide +kernel) (by omega) (fun b4 => ?_) (fun b4 => ?_)
    · have h5 := h2.1 b4
      refine A_aload_n (i := 0) (f := 0) (by omega) rfl (by decide +kernel) rfl ?_
      refine A_iload (i := 4) (by decide +kernel) rfl ?_
      refine B_putp (M' := (mset M 59 44 x4)) (q := (RX11, TX11, 59)) (ci := 10) (j := 44) (p := 44) (by decide +kernel) rfl (by decide) rfl (Or.inl ⟨rfl, rfl⟩) rfl fl_11_405 rfl ?_
      refine A_aload_n (i := 0) (f := 0) (by omega) rfl (by decide +kernel) rfl ?_
      refine A_iload_n (i := 3) (f := 3) rfl (by decide +kernel) rfl ?_
      refine B_putp (M' := (mset (mset M 59 44 x4) 59 43 x3)) (q := (RX11, TX11, 59)) (ci := 10) (j := 43) (p := 43) (by decide +kernel) rfl (by decide) rfl (Or.inl ⟨rfl, rfl⟩) rfl fl_11_408 rfl ?_
      exact A_ret ⟨by decide +kernel, rfl⟩ ⟨rfl, h5⟩
    · have h6 := h2.2 b4
      refine A_iload (i := 4) (by decide +kernel) rfl ?_
      refine A_aload_n (i := 0) (f := 0) (by omega) rfl (by decide +kernel) rfl ?_
      refine B_getp (v := (M 59 44)) (q := (RX11, TX11, 59)) (ci := 10) (j := 44) (p := 44) (by decide +kernel) rfl (by decide) rfl (Or.inl rfl) fl_11_405 rfl ?_
      refine A_ic_lt (off := 4) (tgt := 80) (by decide +kernel) (by omega) (fun b7 => ?_) (fun b7 => ?_)
      · have h8 := h6.1 b7
        refine A_aload_n (i := 0) (f := 0) (by omega) rfl (by decide +kernel) rfl ?_
        refine A_iload (i := 4) (by decide +kernel) rfl ?_
        refine B_putp (M' := (mset M 59 44 x4)) (q := (RX11, TX11, 59)) (ci := 10) (j := 44) (p := 44) (by decide +kernel) rfl (by decide) rfl (Or.inl ⟨rfl, rfl⟩) rfl fl_11_405 rfl ?_
        refine A_aload_n (i := 0) (f := 0) (by omega) rfl (by decide +kernel) rfl ?_
        refine A_iload_n (i := 3) (f := 3) rfl (by decide +kernel) rfl ?_
        refine B_putp (M' := (mset (mset M 59 44 x4) 59 43 x3)) (q := (RX11, TX11, 59)) (ci := 10) (j := 43) (p := 43) (by decide +kernel) rfl (by decide) rfl (Or.inl ⟨rfl, rfl⟩) rfl fl_11_408 rfl ?_
        exact A_ret ⟨by decide +kernel, rfl⟩ ⟨rfl, h8⟩
      · have h9 := h6.2 (Int.not_lt.mp b7)
        exact A_ret ⟨by decide +kernel, rfl⟩ ⟨rfl, h9⟩
  · have h3 := h.2 (Int.not_le.mp b1)
    refine A_iload (i := 4) (by decide +kernel) rfl ?_
    refine A_aload_n (i := 0) (f := 0) (by omega) rfl (by decide +kernel) rfl ?_
    refine B_getp (v := (M 59 45)) (q := (RX11, TX11, 59)) (ci := 10) (j := 45) (p := 45) (by decide +kernel) rfl (by decide) rfl (Or.inl rfl) fl_11_402 rfl ?_
    refine A_iload (i := 5) (by decide +kernel) rfl ?_
    refine A_ishr (by decide +kernel) ?_
    refine A_iconst (a := 1) (by decide +kernel) (by unfold in32; omega) ?_
    refine A_iand (by decide +kernel) ?_
    refine A_iconst (a := 1) (by decide +kernel) (by unfold in32; omega) ?_
    refine A_ic_ne (off := 18) (tgt := 52) (by decide +kernel) (by omega) (fun b10 => ?_) (fun b10 => ?_)
    · have h11 := h3.1 b10
      refine A_iconst (a := 0) (by decide +kernel) (by unfold in32; omega) ?_
      refine A_iadd (by decide +kernel) ?_
      refine A_istore (i := 4) (by decide +kernel) (by decide) (fun w h0 hw => by simp at hw; first | (rw [← hw]; decide) | (rw [← hw]; simp)) ?_
      refine A_iinc (i := 5) (n := 1) (by decide +kernel) (by decide) rfl (fun w h0 hw => by simp at hw; first | (rw [← hw]; decide) | (rw [← hw]; simp)) ?_
      refine A_goto (off := (-43)) (tgt := 16) (by decide +kernel) (by omega) ?_
      exact A_weak (lsub.keep (lsub.drop (lsub.drop (lsub.keep (lsub.keep (lsub.keep lsub.nil)))))) h11
    · have h12 := h3.2 (Decidable.not_not.mp b10)
      refine A_aload_n (i := 0) (f := 0) (by omega) rfl (by decide +kernel) rfl ?_
      refine A_iload_n (i := 3) (f := 3) rfl (by decide +kernel) rfl ?_
      refine A_aload_n (i := 0) (f := 0) (by omega) rfl (by decide +kernel) rfl ?_
      refine B_getr (o' := ((81 : Nat) : Int)) (q := (RX11, TX11, 59)) (ci := 10) (j := 42) (by decide +kernel) rfl (by decide) rfl (by omega) fl_11_79 rfl ?_
      refine A_iload (i := 5) (by decide +kernel) rfl ?_
      refine B_iald (v := (M 81 (x5).toNat)) (by decide +kernel) h12.1 rfl ?_
      have h13 := h12.2
      refine A_cVi (q := (RX11, TX11, 59)) (ci := 10) (o := ((59 : Nat) : Int)) (args := [(0, x3), (0, (M 81 (x5).toNat))]) (st := [(0, x4)]) (by decide +kernel) cv_m11_turned rfl rfl in_m11_turned se_m11_turned lk_11_390 rfl (by omega) (Nat.le_of_ble_eq_true rfl) h13 (fun r14 M15 _ h16 => ?_)
      refine A_goto (off := 4) (tgt := 53) (by decide +kernel) (by omega) ?_
      refine A_iadd (by decide +kernel) ?_
      refine A_istore (i := 4) (by decide +kernel) (by decide) (fun w h0 hw => by simp at hw; first | (rw [← hw]; decide) | (rw [← hw]; simp)) ?_
      refine A_iinc (i := 5) (n := 1) (by decide +kernel) (by decide) rfl (fun w h0 hw => by simp at hw; first | (rw [← hw]; decide) | (rw [← hw]; simp)) ?_
      refine A_goto (off := (-43)) (tgt := 16) (by decide +kernel) (by omega) ?_
      exact A_weak (lsub.keep (lsub.drop (lsub.drop (lsub.keep (lsub.keep (lsub.keep lsub.nil)))))) h16
theorem r_11_halls_95 {d : Nat} (hd : 10 ≤ d) {x1 : Int} {x2 : Int} {x3 : Int} {x4 : Int} {M : Mem} {P : Mem → Prop} (h : (((M 61 2) ≤ x4 → (P M)) ∧ (x4 < (M 61 2) → (((iand (ishr x2 x4) 1) ≠ 0 → A m11_halls (d + 1) 0 95 [(20, ((59 : Nat) : Int)), (0, x1), (0, x2), (0, x3), (0, (w32 (x4 + 1))), (2, 0)] [] M (Kd P)) ∧ ((iand (ishr x2 x4) 1) = 0 → (CD m11_halls d [(20, ((59 : Nat) : Int)), (0, (w32 (x1 + 1))), (0, (ior x2 (ishl 1 x4))), (0, (ior x3 (ishl x4 (w32 (3 * x1)))))] M (fun M8 => A m11_halls (d + 1) 0 95 [(20, ((59 : Nat) : Int)), (0, x1), (0, x2), (0, x3), (0, (w32 (x4 + 1))), (2, 0)] [] M8 (Kd P)))))))) : A m11_halls (d + 1) 0 95 [(20, ((59 : Nat) : Int)), (0, x1), (0, x2), (0, x3), (0, x4), (2, 0)] [] M (Kd P) := by
  refine A_iload (i := 4) (by decide +kernel) rfl ?_
  refine A_aload_n (i := 0) (f := 0) (by omega) rfl (by decide +kernel) rfl ?_
  refine B_getr (o' := ((61 : Nat) : Int)) (q := (RX11, TX11, 59)) (ci := 10) (j := 3) (by decide +kernel) rfl (by decide) rfl (by omega) fl_11_13 rfl ?_
  refine A_iconst (a := 2) (by decide +kernel) (by unfold in32; omega) ?_
  refine B_iald (v := (M 61 2)) (by decide +kernel) (by decide) rfl ?_
  refine A_ic_ge (off := 39) (tgt := 142) (by decide +kernel) (by omega) (fun b1 => ?_) (fun b1 => ?_)
  · have h2 := h.1 b1
    exact A_ret ⟨by decide +kernel, rfl⟩ ⟨rfl, h2⟩
  · have h3 := h.2 (Int.not_le.mp b1)
    refine A_iload_n (i := 2) (f := 2) rfl (by decide +kernel) rfl ?_
    refine A_iload (i := 4) (by decide +kernel) rfl ?_
    refine A_ishr (by decide +kernel) ?_
    refine A_iconst (a := 1) (by decide +kernel) (by unfold in32; omega) ?_
    refine A_iand (by decide +kernel) ?_
    refine A_if_ne (off := 24) (tgt := 136) (by decide +kernel) (by omega) (fun b4 => ?_) (fun b4 => ?_)
    · have h5 := h3.1 b4
      refine A_iinc (i := 4) (n := 1) (by decide +kernel) (by decide) rfl (fun w h0 hw => by simp at hw; first | (rw [← hw]; decide) | (rw [← hw]; simp)) ?_
      refine A_goto (off := (-44)) (tgt := 95) (by decide +kernel) (by omega) ?_
      exact A_weak (lsub.keep (lsub.keep (lsub.keep (lsub.keep (lsub.keep (lsub.drop lsub.nil)))))) h5
    · have h6 := h3.2 (Decidable.not_not.mp b4)
      refine A_aload_n (i := 0) (f := 0) (by omega) rfl (by decide +kernel) rfl ?_
      refine A_iload_n (i := 1) (f := 1) rfl (by decide +kernel) rfl ?_
      refine A_iconst (a := 1) (by decide +kernel) (by unfold in32; omega) ?_
      refine A_iadd (by decide +kernel) ?_
      refine A_iload_n (i := 2) (f := 2) rfl (by decide +kernel) rfl ?_
      refine A_iconst (a := 1) (by decide +kernel) (by unfold in32; omega) ?_
      refine A_iload (i := 4) (by decide +kernel) rfl ?_
      refine A_ishl (by decide +kernel) ?_
      refine A_ior (by decide +kernel) ?_
      refine A_iload_n (i := 3) (f := 3) rfl (by decide +kernel) rfl ?_
      refine A_iload (i := 4) (by decide +kernel) rfl ?_
      refine A_iconst (a := 3) (by decide +kernel) (by unfold in32; omega) ?_
      refine A_iload_n (i := 1) (f := 1) rfl (by decide +kernel) rfl ?_
      refine A_imul (by decide +kernel) ?_
      refine A_ishl (by decide +kernel) ?_
      refine A_ior (by decide +kernel) ?_
      refine A_cVd (q := (RX11, TX11, 59)) (ci := 10) (o := ((59 : Nat) : Int)) (args := [(0, (w32 (x1 + 1))), (0, (ior x2 (ishl 1 x4))), (0, (ior x3 (ishl x4 (w32 (3 * x1)))))]) (st := []) (by decide +kernel) cv_m11_halls rfl rfl in_m11_halls se_m11_halls lk_11_411 rfl (by omega) (Nat.le_of_ble_eq_true rfl) h6 (fun M8 h9 => ?_)
      refine A_iinc (i := 4) (n := 1) (by decide +kernel) (by decide) rfl (fun w h0 hw => by simp at hw; first | (rw [← hw]; decide) | (rw [← hw]; simp)) ?_
      refine A_goto (off := (-44)) (tgt := 95) (by decide +kernel) (by omega) ?_
      exact A_weak (lsub.keep (lsub.keep (lsub.keep (lsub.keep (lsub.keep (lsub.drop lsub.nil)))))) h9
theorem q_11_line  {M : Mem} {P : Mem → Prop} (h : (((M 59 21) ≠ 0 → A m11_line 901 0 15 [(20, ((59 : Nat) : Int)), (2, 0), (2, 0), (2, 0)] [] M (Kd P)) ∧ ((M 59 21) = 0 → (((M 59 22) ≤ 5 → (((M 59 22) = 1 → A m11_line 901 0 36 [(20, ((59 : Nat) : Int)), (0, (M 59 22)), (2, 0), (2, 0)] [] M (Kd P)) ∧ ((M 59 22) ≠ 1 → (((M 59 22) ≠ 2 → (((M 59 22) ≠ 0 → A m11_line 901 0 55 [(20, ((59 : Nat) : Int)), (0, (M 59 22)), (0, 0), (2, 0)] [] M (Kd P)) ∧ ((M 59 22) = 0 → (CI m11_fresher 1 [(20, ((59 : Nat) : Int)), (0, 0)] M (fun r16 M17 => ((r16 = 5 → A m11_line 901 0 83 [(20, ((59 : Nat) : Int)), (0, (M 59 22)), (2, 0), (2, 0)] [] M17 (Kd P)) ∧ (r16 ≠ 5 → A m11_line 901 0 55 [(20, ((59 : Nat) : Int)), (0, (M 59 22)), (0, 0), (2, 0)] [] M17 (Kd P)))))))) ∧ ((M 59 22) = 2 → A m11_line 901 0 36 [(20, ((59 : Nat) : Int)), (0, (M 59 22)), (2, 0), (2, 0)] [] M (Kd P)))))) ∧ (5 < (M 59 22) → A m11_line 901 0 15 [(20, ((59 : Nat) : Int)), (2, 0), (2, 0), (2, 0)] [] M (Kd P)))))) : CD m11_line 901 [(20, ((59 : Nat) : Int))] M P := by
  refine CD_of (by decide +kernel) (Nat.le_of_ble_eq_true rfl) ?_
  show A m11_line 901 0 0 [(20, ((59 : Nat) : Int)), (2, 0), (2, 0), (2, 0)] [] M (Kd P)
  refine A_aload_n (i := 0) (f := 0) (by omega) rfl (by decide +kernel) rfl ?_
  refine B_getp (v := (M 59 21)) (q := (RX11, TX11, 59)) (ci := 10) (j := 21) (p := 21) (by decide +kernel) rfl (by decide) rfl (Or.inl rfl) fl_11_137 rfl ?_
  refine A_if_ne (off := 11) (tgt := 15) (by decide +kernel) (by omega) (fun b1 => ?_) (fun b1 => ?_)
  · have h2 := h.1 b1
    exact A_weak (lsub.keep (lsub.drop (lsub.drop (lsub.drop lsub.nil)))) h2
  · have h3 := h.2 (Decidable.not_not.mp b1)
    refine A_aload_n (i := 0) (f := 0) (by omega) rfl (by decide +kernel) rfl ?_
    refine B_getp (v := (M 59 22)) (q := (RX11, TX11, 59)) (ci := 10) (j := 22) (p := 22) (by decide +kernel) rfl (by decide) rfl (Or.inl rfl) fl_11_147 rfl ?_
    refine A_iconst (a := 5) (by decide +kernel) (by unfold in32; omega) ?_
    refine A_ic_le (off := 9) (tgt := 21) (by decide +kernel) (by omega) (fun b4 => ?_) (fun b4 => ?_)
    · have h5 := h3.1 b4
      refine A_aload_n (i := 0) (f := 0) (by omega) rfl (by decide +kernel) rfl ?_
      refine B_getp (v := (M 59 22)) (q := (RX11, TX11, 59)) (ci := 10) (j := 22) (p := 22) (by decide +kernel) rfl (by decide) rfl (Or.inl rfl) fl_11_147 rfl ?_
      refine A_istore_n (i := 1) (f := 1) rfl (by decide +kernel) (by decide) (fun w h0 hw => by simp at hw; first | (rw [← hw]; decide) | (rw [← hw]; simp)) ?_
      refine A_iload_n (i := 1) (f := 1) rfl (by decide +kernel) rfl ?_
      refine A_iconst (a := 1) (by decide +kernel) (by unfold in32; omega) ?_
      refine A_ic_eq (off := 8) (tgt := 36) (by decide +kernel) (by omega) (fun b7 => ?_) (fun b7 => ?_)
      · have h8 := h5.1 b7
        exact A_weak (lsub.keep (lsub.keep (lsub.drop (lsub.drop lsub.nil)))) h8
      · have h9 := h5.2 b7
        refine A_iload_n (i := 1) (f := 1) rfl (by decide +kernel) rfl ?_
        refine A_iconst (a := 2) (by decide +kernel) (by unfold in32; omega) ?_
        refine A_ic_ne (off := 7) (tgt := 40) (by decide +kernel) (by omega) (fun b10 => ?_) (fun b10 => ?_)
        · have h11 := h9.1 b10
          refine A_iconst (a := 0) (by decide +kernel) (by unfold in32; omega) ?_
          refine A_istore_n (i := 2) (f := 2) rfl (by decide +kernel) (by decide) (fun w h0 hw => by simp at hw; first | (rw [← hw]; decide) | (rw [← hw]; simp)) ?_
          refine A_iload_n (i := 1) (f := 1) rfl (by decide +kernel) rfl ?_
          refine A_if_ne (off := 12) (tgt := 55) (by decide +kernel) (by omega) (fun b13 => ?_) (fun b13 => ?_)
          · have h14 := h11.1 b13
            exact A_weak (lsub.keep (lsub.keep (lsub.keep (lsub.drop lsub.nil)))) h14
          · have h15 := h11.2 (Decidable.not_not.mp b13)
            refine A_aload_n (i := 0) (f := 0) (by omega) rfl (by decide +kernel) rfl ?_
            refine A_iconst (a := 0) (by decide +kernel) (by unfold in32; omega) ?_
            refine A_cVi (q := (RX11, TX11, 59)) (ci := 10) (o := ((59 : Nat) : Int)) (args := [(0, 0)]) (st := []) (by decide +kernel) cv_m11_fresher rfl rfl in_m11_fresher se_m11_fresher lk_11_191 rfl (by omega) (Nat.le_of_ble_eq_true rfl) h15 (fun r16 M17 _ h18 => ?_)
            refine A_iconst (a := 5) (by decide +kernel) (by unfold in32; omega) ?_
            refine A_ic_eq (off := 31) (tgt := 83) (by decide +kernel) (by omega) (fun b19 => ?_) (fun b19 => ?_)
            · have h20 := h18.1 b19
              exact A_weak (lsub.keep (lsub.keep (lsub.drop (lsub.drop lsub.nil)))) h20
            · have h21 := h18.2 b19
              exact A_weak (lsub.keep (lsub.keep (lsub.keep (lsub.drop lsub.nil)))) h21
        · have h12 := h9.2 (Decidable.not_not.mp b10)
          exact A_weak (lsub.keep (lsub.keep (lsub.drop (lsub.drop lsub.nil)))) h12
    · have h6 := h3.2 (Int.not_le.mp b4)
      exact A_weak (lsub.keep (lsub.drop (lsub.drop (lsub.drop lsub.nil)))) h6
theorem r_11_line_15  {M : Mem} {P : Mem → Prop} (h : (CD m11_wrong 2 [(20, ((59 : Nat) : Int)), (0, 1)] M (fun M2 => (P M2)))) : A m11_line 901 0 15 [(20, ((59 : Nat) : Int)), (2, 0), (2, 0), (2, 0)] [] M (Kd P) := by
  refine A_aload_n (i := 0) (f := 0) (by omega) rfl (by decide +kernel) rfl ?_
  refine A_iconst (a := 1) (by decide +kernel) (by unfold in32; omega) ?_
  refine A_cVd (q := (RX11, TX11, 59)) (ci := 10) (o := ((59 : Nat) : Int)) (args := [(0, 1)]) (st := []) (by decide +kernel) cv_m11_wrong rfl rfl in_m11_wrong se_m11_wrong lk_11_184 rfl (by omega) (Nat.le_of_ble_eq_true rfl) h (fun M2 h3 => ?_)
  exact A_ret ⟨by decide +kernel, rfl⟩ ⟨rfl, h3⟩
theorem r_11_line_36 {x1 : Int} {M : Mem} {P : Mem → Prop} (h : ((x1 ≠ 0 → A m11_line 901 0 55 [(20, ((59 : Nat) : Int)), (0, x1), (0, 1), (2, 0)] [] M (Kd P)) ∧ (x1 = 0 → (CI m11_fresher 1 [(20, ((59 : Nat) : Int)), (0, 0)] M (fun r4 M5 => ((r4 = 5 → A m11_line 901 0 83 [(20, ((59 : Nat) : Int)), (0, x1), (2, 0), (2, 0)] [] M5 (Kd P)) ∧ (r4 ≠ 5 → A m11_line 901 0 55 [(20, ((59 : Nat) : Int)), (0, x1), (0, 1), (2, 0)] [] M5 (Kd P)))))))) : A m11_line 901 0 36 [(20, ((59 : Nat) : Int)), (0, x1), (2, 0), (2, 0)] [] M (Kd P) := by
  refine A_iconst (a := 1) (by decide +kernel) (by unfold in32; omega) ?_
  refine A_goto (off := 4) (tgt := 41) (by decide +kernel) (by omega) ?_
  refine A_istore_n (i := 2) (f := 2) rfl (by decide +kernel) (by decide) (fun w h0 hw => by simp at hw; first | (rw [← hw]; decide) | (rw [← hw]; simp)) ?_
  refine A_iload_n (i := 1) (f := 1) rfl (by decide +kernel) rfl ?_
  refine A_if_ne (off := 12) (tgt := 55) (by decide +kernel) (by omega) (fun b1 => ?_) (fun b1 => ?_)
  · have h2 := h.1 b1
    exact A_weak (lsub.keep (lsub.keep (lsub.keep (lsub.drop lsub.nil)))) h2
  · have h3 := h.2 (Decidable.not_not.mp b1)
    refine A_aload_n (i := 0) (f := 0) (by omega) rfl (by decide +kernel) rfl ?_
    refine A_iconst (a := 0) (by decide +kernel) (by unfold in32; omega) ?_
    refine A_cVi (q := (RX11, TX11, 59)) (ci := 10) (o := ((59 : Nat) : Int)) (args := [(0, 0)]) (st := []) (by decide +kernel) cv_m11_fresher rfl rfl in_m11_fresher se_m11_fresher lk_11_191 rfl (by omega) (Nat.le_of_ble_eq_true rfl) h3 (fun r4 M5 _ h6 => ?_)
    refine A_iconst (a := 5) (by decide +kernel) (by unfold in32; omega) ?_
    refine A_ic_eq (off := 31) (tgt := 83) (by decide +kernel) (by omega) (fun b7 => ?_) (fun b7 => ?_)
    · have h8 := h6.1 b7
      exact A_weak (lsub.keep (lsub.keep (lsub.drop (lsub.drop lsub.nil)))) h8
    · have h9 := h6.2 b7
      exact A_weak (lsub.keep (lsub.keep (lsub.keep (lsub.drop lsub.nil)))) h9
theorem r_11_line_55 {x1 : Int} {x2 : Int} {M : Mem} {P : Mem → Prop} (h : ((x1 ≠ 3 → A m11_line 901 0 69 [(20, ((59 : Nat) : Int)), (0, x1), (0, x2), (2, 0)] [] M (Kd P)) ∧ (x1 = 3 → (CI m11_fresher 1 [(20, ((59 : Nat) : Int)), (0, 2)] M (fun r4 M5 => ((r4 = 5 → A m11_line 901 0 83 [(20, ((59 : Nat) : Int)), (0, x1), (2, 0), (2, 0)] [] M5 (Kd P)) ∧ (r4 ≠ 5 → A m11_line 901 0 69 [(20, ((59 : Nat) : Int)), (0, x1), (0, x2), (2, 0)] [] M5 (Kd P)))))))) : A m11_line 901 0 55 [(20, ((59 : Nat) : Int)), (0, x1), (0, x2), (2, 0)] [] M (Kd P) := by
  refine A_iload_n (i := 1) (f := 1) rfl (by decide +kernel) rfl ?_
  refine A_iconst (a := 3) (by decide +kernel) (by unfold in32; omega) ?_
  refine A_ic_ne (off := 12) (tgt := 69) (by decide +kernel) (by omega) (fun b1 => ?_) (fun b1 => ?_)
  · have h2 := h.1 b1
    exact A_weak (lsub.keep (lsub.keep (lsub.keep (lsub.drop lsub.nil)))) h2
  · have h3 := h.2 (Decidable.not_not.mp b1)
    refine A_aload_n (i := 0) (f := 0) (by omega) rfl (by decide +kernel) rfl ?_
    refine A_iconst (a := 2) (by decide +kernel) (by unfold in32; omega) ?_
    refine A_cVi (q := (RX11, TX11, 59)) (ci := 10) (o := ((59 : Nat) : Int)) (args := [(0, 2)]) (st := []) (by decide +kernel) cv_m11_fresher rfl rfl in_m11_fresher se_m11_fresher lk_11_191 rfl (by omega) (Nat.le_of_ble_eq_true rfl) h3 (fun r4 M5 _ h6 => ?_)
    refine A_iconst (a := 5) (by decide +kernel) (by unfold in32; omega) ?_
    refine A_ic_eq (off := 17) (tgt := 83) (by decide +kernel) (by omega) (fun b7 => ?_) (fun b7 => ?_)
    · have h8 := h6.1 b7
      exact A_weak (lsub.keep (lsub.keep (lsub.drop (lsub.drop lsub.nil)))) h8
    · have h9 := h6.2 b7
      exact A_weak (lsub.keep (lsub.keep (lsub.keep (lsub.drop lsub.nil)))) h9
theorem r_11_line_69 {x1 : Int} {x2 : Int} {M : Mem} {P : Mem → Prop} (h : ((x2 = 0 → A m11_line 901 0 91 [(20, ((59 : Nat) : Int)), (0, x1), (2, 0), (2, 0)] [] M (Kd P)) ∧ (x2 ≠ 0 → (CI m11_fresher 1 [(20, ((59 : Nat) : Int)), (0, 1)] M (fun r4 M5 => ((r4 ≠ 16 → A m11_line 901 0 91 [(20, ((59 : Nat) : Int)), (0, x1), (2, 0), (2, 0)] [] M5 (Kd P)) ∧ (r4 = 16 → A m11_line 901 0 83 [(20, ((59 : Nat) : Int)), (0, x1), (2, 0), (2, 0)] [] M5 (Kd P)))))))) : A m11_line 901 0 69 [(20, ((59 : Nat) : Int)), (0, x1), (0, x2), (2, 0)] [] M (Kd P) := by
  refine A_iload_n (i := 2) (f := 2) rfl (by decide +kernel) rfl ?_
  refine A_if_eq (off := 21) (tgt := 91) (by decide +kernel) (by omega) (fun b1 => ?_) (fun b1 => ?_)
  · have h2 := h.1 b1
    exact A_weak (lsub.keep (lsub.keep (lsub.drop (lsub.drop lsub.nil)))) h2
  · have h3 := h.2 b1
    refine A_aload_n (i := 0) (f := 0) (by omega) rfl (by decide +kernel) rfl ?_
    refine A_iconst (a := 1) (by decide +kernel) (by unfold in32; omega) ?_
    refine A_cVi (q := (RX11, TX11, 59)) (ci := 10) (o := ((59 : Nat) : Int)) (args := [(0, 1)]) (st := []) (by decide +kernel) cv_m11_fresher rfl rfl in_m11_fresher se_m11_fresher lk_11_191 rfl (by omega) (Nat.le_of_ble_eq_true rfl) h3 (fun r4 M5 _ h6 => ?_)
    refine A_bipush (a := 16) (by decide +kernel) (by unfold in32; omega) (by decide +kernel) ?_
    refine A_ic_ne (off := 11) (tgt := 91) (by decide +kernel) (by omega) (fun b7 => ?_) (fun b7 => ?_)
    · have h8 := h6.1 b7
      exact A_weak (lsub.keep (lsub.keep (lsub.drop (lsub.drop lsub.nil)))) h8
    · have h9 := h6.2 (Decidable.not_not.mp b7)
      exact A_weak (lsub.keep (lsub.keep (lsub.drop (lsub.drop lsub.nil)))) h9
theorem r_11_line_83 {x1 : Int} {M : Mem} {P : Mem → Prop} (h : (CD m11_wrong 2 [(20, ((59 : Nat) : Int)), (0, 2)] M (fun M2 => A m11_line 901 0 118 [(20, ((59 : Nat) : Int)), (0, x1), (2, 0), (2, 0)] [] M2 (Kd P)))) : A m11_line 901 0 83 [(20, ((59 : Nat) : Int)), (0, x1), (2, 0), (2, 0)] [] M (Kd P) := by
  refine A_aload_n (i := 0) (f := 0) (by omega) rfl (by decide +kernel) rfl ?_
  refine A_iconst (a := 2) (by decide +kernel) (by unfold in32; omega) ?_
  refine A_cVd (q := (RX11, TX11, 59)) (ci := 10) (o := ((59 : Nat) : Int)) (args := [(0, 2)]) (st := []) (by decide +kernel) cv_m11_wrong rfl rfl in_m11_wrong se_m11_wrong lk_11_184 rfl (by omega) (Nat.le_of_ble_eq_true rfl) h (fun M2 h3 => ?_)
  refine A_goto (off := 30) (tgt := 118) (by decide +kernel) (by omega) ?_
  exact A_weak (lsub.keep (lsub.keep (lsub.drop (lsub.drop lsub.nil)))) h3
theorem r_11_line_91 {x1 : Int} {M : Mem} {P : Mem → Prop} (h : ((x1 = 4 → A m11_line 901 0 101 [(20, ((59 : Nat) : Int)), (0, x1), (2, 0), (2, 0)] [] M (Kd P)) ∧ (x1 ≠ 4 → ((x1 ≠ 5 → A m11_line 901 0 118 [(20, ((59 : Nat) : Int)), (0, x1), (2, 0), (2, 0)] [] M (Kd P)) ∧ (x1 = 5 → A m11_line 901 0 101 [(20, ((59 : Nat) : Int)), (0, x1), (2, 0), (2, 0)] [] M (Kd P)))))) : A m11_line 901 0 91 [(20, ((59 : Nat) : Int)), (0, x1), (2, 0), (2, 0)] [] M (Kd P) := by
  refine A_iload_n (i := 1) (f := 1) rfl (by decide +kernel) rfl ?_
  refine A_iconst (a := 4) (by decide +kernel) (by unfold in32; omega) ?_
  refine A_ic_eq (off := 8) (tgt := 101) (by decide +kernel) (by omega) (fun b1 => ?_) (fun b1 => ?_)
  · have h2 := h.1 b1
    exact A_weak (lsub.keep (lsub.keep (lsub.drop (lsub.drop lsub.nil)))) h2
  · have h3 := h.2 b1
    refine A_iload_n (i := 1) (f := 1) rfl (by decide +kernel) rfl ?_
    refine A_iconst (a := 5) (by decide +kernel) (by unfold in32; omega) ?_
    refine A_ic_ne (off := 20) (tgt := 118) (by decide +kernel) (by omega) (fun b4 => ?_) (fun b4 => ?_)
    · have h5 := h3.1 b4
      exact A_weak (lsub.keep (lsub.keep (lsub.drop (lsub.drop lsub.nil)))) h5
    · have h6 := h3.2 (Decidable.not_not.mp b4)
      exact A_weak (lsub.keep (lsub.keep (lsub.drop (lsub.drop lsub.nil)))) h6
theorem r_11_line_101 {x1 : Int} {M : Mem} {P : Mem → Prop} (h : (((iand (ishr (M 59 16) x1) 1) ≠ 1 → A m11_line 901 0 118 [(20, ((59 : Nat) : Int)), (0, x1), (2, 0), (2, 0)] [] M (Kd P)) ∧ ((iand (ishr (M 59 16) x1) 1) = 1 → (CD m11_wrong 2 [(20, ((59 : Nat) : Int)), (0, 3)] M (fun M5 => A m11_line 901 0 118 [(20, ((59 : Nat) : Int)), (0, x1), (2, 0), (2, 0)] [] M5 (Kd P)))))) : A m11_line 901 0 101 [(20, ((59 : Nat) : Int)), (0, x1), (2, 0), (2, 0)] [] M (Kd P) := by
  refine A_aload_n (i := 0) (f := 0) (by omega) rfl (by decide +kernel) rfl ?_
  refine B_getp (v := (M 59 16)) (q := (RX11, TX11, 59)) (ci := 10) (j := 16) (p := 16) (by decide +kernel) rfl (by decide) rfl (Or.inl rfl) fl_11_195 rfl ?_
  refine A_iload_n (i := 1) (f := 1) rfl (by decide +kernel) rfl ?_
  refine A_ishr (by decide +kernel) ?_
  refine A_iconst (a := 1) (by decide +kernel) (by unfold in32; omega) ?_
  refine A_iand (by decide +kernel) ?_
  refine A_iconst (a := 1) (by decide +kernel) (by unfold in32; omega) ?_
  refine A_ic_ne (off := 8) (tgt := 118) (by decide +kernel) (by omega) (fun b1 => ?_) (fun b1 => ?_)
  · have h2 := h.1 b1
    exact A_weak (lsub.keep (lsub.keep (lsub.drop (lsub.drop lsub.nil)))) h2
  · have h3 := h.2 (Decidable.not_not.mp b1)
    refine A_aload_n (i := 0) (f := 0) (by omega) rfl (by decide +kernel) rfl ?_
    refine A_iconst (a := 3) (by decide +kernel) (by unfold in32; omega) ?_
    refine A_cVd (q := (RX11, TX11, 59)) (ci := 10) (o := ((59 : Nat) : Int)) (args := [(0, 3)]) (st := []) (by decide +kernel) cv_m11_wrong rfl rfl in_m11_wrong se_m11_wrong lk_11_184 rfl (by omega) (Nat.le_of_ble_eq_true rfl) h3 (fun M5 h6 => ?_)
    exact A_weak (lsub.keep (lsub.keep (lsub.drop (lsub.drop lsub.nil)))) h6
theorem r_11_line_118 {x1 : Int} {M : Mem} {P : Mem → Prop} (h : (((M 59 23) = 0 → (CD m11_token 3 [(20, ((59 : Nat) : Int))] (mset M 59 16 (ior (M 59 16) (ishl 1 x1))) (fun M5 => ((x1 = 0 → (CI m11_fresher 1 [(20, ((59 : Nat) : Int)), (0, 0)] M5 (fun r9 M10 => (CI m11_fresher 1 [(20, ((59 : Nat) : Int)), (0, 0)] M10 (fun r12 M13 => (CI m11_fresh 4 [(20, ((59 : Nat) : Int)), (30, ((62 : Nat) : Int)), (0, 5), (0, r12)] M13 (fun r15 M16 => ((0 ≤ (w32 (5 + r9)) ∧ (w32 (5 + r9)) < 10) ∧ (CI m11_fresher 1 [(20, ((59 : Nat) : Int)), (0, 0)] (mset M16 62 ((w32 (5 + r9))).toNat r15) (fun r19 M20 => (CI m11_numeral 4 [(20, ((59 : Nat) : Int)), (0, 0), (0, 99)] M20 (fun r22 M23 => ((0 ≤ (w32 (5 + r19)) ∧ (w32 (5 + r19)) < 10) ∧ (CD m11_oneMore 1 [(20, ((59 : Nat) : Int)), (0, 0)] (mset M23 63 ((w32 (5 + r19))).toNat r22) (fun M27 => A m11_line 901 0 353 [(20, ((59 : Nat) : Int)), (2, 0), (2, 0), (2, 0)] [] M27 (Kd P)))))))))))))))) ∧ ((x1 = 1 → (CD m11_factLine 5 [(20, ((59 : Nat) : Int)), (0, 0)] M5 (fun M31 => A m11_line 901 0 353 [(20, ((59 : Nat) : Int)), (2, 0), (2, 0), (2, 0)] [] M31 (Kd P)))) ∧ ((x1 = 2 → (CD m11_factLine 5 [(20, ((59 : Nat) : Int)), (0, 1)] M5 (fun M35 => A m11_line 901 0 353 [(20, ((59 : Nat) : Int)), (2, 0), (2, 0), (2, 0)] [] M35 (Kd P)))) ∧ ((x1 = 3 → (CI m11_fresher 1 [(20, ((59 : Nat) : Int)), (0, 2)] M5 (fun r38 M39 => (CI m11_fresh 4 [(20, ((59 : Nat) : Int)), (30, ((64 : Nat) : Int)), (0, 5), (0, r38)] M39 (fun r41 M42 => ((0 ≤ (w32 (5 + r38)) ∧ (w32 (5 + r38)) < 10) ∧ (CI m11_fresher 1 [(20, ((59 : Nat) : Int)), (0, 4)] (mset M42 64 ((w32 (5 + r38))).toNat r41) (fun r45 M46 => ((0 ≤ (w32 (6 + r38)) ∧ (w32 (6 + r38)) < 12) ∧ (CD m11_expression 900 [(20, ((59 : Nat) : Int))] (mset M46 65 ((w32 (6 + r38))).toNat r45) (fun M50 => (CI m11_fresher 1 [(20, ((59 : Nat) : Int)), (0, 4)] M50 (fun r52 M53 => ((0 ≤ (w32 (6 + r38)) ∧ (w32 (6 + r38)) < 12) ∧ (CD m11_oneMore 1 [(20, ((59 : Nat) : Int)), (0, 2)] (mset M53 66 ((w32 (6 + r38))).toNat r52) (fun M57 => A m11_line 901 0 353 [(20, ((59 : Nat) : Int)), (2, 0), (2, 0), (2, 0)] [] M57 (Kd P))))))))))))))))) ∧ ((x1 = 4 → (CI m11_numeral 4 [(20, ((59 : Nat) : Int)), (0, 0), (0, 3)] M5 (fun r60 M61 => A m11_line 901 0 353 [(20, ((59 : Nat) : Int)), (2, 0), (2, 0), (2, 0)] [] (mset M61 61 8 r60) (Kd P)))) ∧ ((x1 < 0 ∨ 4 < x1) → (CI m11_fresher 1 [(20, ((59 : Nat) : Int)), (0, 4)] M5 (fun r64 M65 => (CD m11_expression 900 [(20, ((59 : Nat) : Int))] (mset M65 65 11 r64) (fun M68 => (CI m11_fresher 1 [(20, ((59 : Nat) : Int)), (0, 4)] M68 (fun r70 M71 => A m11_line 901 0 353 [(20, ((59 : Nat) : Int)), (2, 0), (2, 0), (2, 0)] [] (mset M71 66 11 r70) (Kd P)))))))))))))))) ∧ ((M 59 23) ≠ 0 → (P M)))) : A m11_line 901 0 118 [(20, ((59 : Nat) : Int)), (0, x1), (2, 0), (2, 0)] [] M (Kd P) := by
  refine A_aload_n (i := 0) (f := 0) (by omega) rfl (by decide +kernel) rfl ?_
  refine B_getp (v := (M 59 23)) (q := (RX11, TX11, 59)) (ci := 10) (j := 23) (p := 23) (by decide +kernel) rfl (by decide) rfl (Or.inl rfl) fl_11_175 rfl ?_
  refine A_if_eq (off := 4) (tgt := 126) (by decide +kernel) (by omega) (fun b1 => ?_) (fun b1 => ?_)
  · have h2 := h.1 b1
    refine A_aload_n (i := 0) (f := 0) (by omega) rfl (by decide +kernel) rfl ?_
    refine A_dup (by decide +kernel) (by simp) ?_
    refine B_getp (v := (M 59 16)) (q := (RX11, TX11, 59)) (ci := 10) (j := 16) (p := 16) (by decide +kernel) rfl (by decide) rfl (Or.inl rfl) fl_11_195 rfl ?_
    refine A_iconst (a := 1) (by decide +kernel) (by unfold in32; omega) ?_
    refine A_iload_n (i := 1) (f := 1) rfl (by decide +kernel) rfl ?_
    refine A_ishl (by decide +kernel) ?_
    refine A_ior (by decide +kernel) ?_
    refine B_putp (M' := (mset M 59 16 (ior (M 59 16) (ishl 1 x1)))) (q := (RX11, TX11, 59)) (ci := 10) (j := 16) (p := 16) (by decide +kernel) rfl (by decide) rfl (Or.inl ⟨rfl, rfl⟩) rfl fl_11_195 rfl ?_
    refine A_aload_n (i := 0) (f := 0) (by omega) rfl (by decide +kernel) rfl ?_
    refine A_cVd (q := (RX11, TX11, 59)) (ci := 10) (o := ((59 : Nat) : Int)) (args := []) (st := []) (by decide +kernel) cv_m11_token rfl rfl in_m11_token se_m11_token lk_11_181 rfl (by omega) (Nat.le_of_ble_eq_true rfl) h2 (fun M5 h6 => ?_)
    refine A_iload_n (i := 1) (f := 1) rfl (by decide +kernel) rfl ?_
    have hsw : x1 = 0 ∨ x1 = 1 ∨ x1 = 2 ∨ x1 = 3 ∨ x1 = 4 ∨ (x1 < 0 ∨ 4 < x1) := by omega
    rcases hsw with e7 | e7 | e7 | e7 | e7 | e7
    · have h8 := h6.1 e7
      refine A_tin (len := 33) (dflt := 182) (lo := 0) (hi := 4) (offs := #[33, 86, 94, 102, 166]) (off := 33) (tgt := 176) (by decide +kernel) (by omega) (by omega) (by rw [e7]; rfl) (by omega) ?_
      refine A_aload_n (i := 0) (f := 0) (by omega) rfl (by decide +kernel) rfl ?_
      refine B_getr (o' := ((62 : Nat) : Int)) (q := (RX11, TX11, 59)) (ci := 10) (j := 4) (by decide +kernel) rfl (by decide) rfl (by omega) fl_11_16 rfl ?_
      refine A_iconst (a := 5) (by decide +kernel) (by unfold in32; omega) ?_
      refine A_aload_n (i := 0) (f := 0) (by omega) rfl (by decide +kernel) rfl ?_
      refine A_iconst (a := 0) (by decide +kernel) (by unfold in32; omega) ?_
      refine A_cVi (q := (RX11, TX11, 59)) (ci := 10) (o := ((59 : Nat) : Int)) (args := [(0, 0)]) (st := [(0, 5), (30, ((62 : Nat) : Int))]) (by decide +kernel) cv_m11_fresher rfl rfl in_m11_fresher se_m11_fresher lk_11_191 rfl (by omega) (Nat.le_of_ble_eq_true rfl) h8 (fun r9 M10 _ h11 => ?_)
      refine A_iadd (by decide +kernel) ?_
      refine A_aload_n (i := 0) (f := 0) (by omega) rfl (by decide +kernel) rfl ?_
      refine A_aload_n (i := 0) (f := 0) (by omega) rfl (by decide +kernel) rfl ?_
      refine B_getr (o' := ((62 : Nat) : Int)) (q := (RX11, TX11, 59)) (ci := 10) (j := 4) (by decide +kernel) rfl (by decide) rfl (by omega) fl_11_16 rfl ?_
      refine A_iconst (a := 5) (by decide +kernel) (by unfold in32; omega) ?_
      refine A_aload_n (i := 0) (f := 0) (by omega) rfl (by decide +kernel) rfl ?_
      refine A_iconst (a := 0) (by decide +kernel) (by unfold in32; omega) ?_
      refine A_cVi (q := (RX11, TX11, 59)) (ci := 10) (o := ((59 : Nat) : Int)) (args := [(0, 0)]) (st := [(0, 5), (30, ((62 : Nat) : Int)), (20, ((59 : Nat) : Int)), (0, (w32 (5 + r9))), (30, ((62 : Nat) : Int))]) (by decide +kernel) cv_m11_fresher rfl rfl in_m11_fresher se_m11_fresher lk_11_191 rfl (by omega) (Nat.le_of_ble_eq_true rfl) h11 (fun r12 M13 _ h14 => ?_)
      refine A_cVi (q := (RX11, TX11, 59)) (ci := 10) (o := ((59 : Nat) : Int)) (args := [(30, ((62 : Nat) : Int)), (0, 5), (0, r12)]) (st := [(0, (w32 (5 + r9))), (30, ((62 : Nat) : Int))]) (by decide +kernel) cv_m11_fresh rfl rfl in_m11_fresh se_m11_fresh lk_11_198 rfl (by omega) (Nat.le_of_ble_eq_true rfl) h14 (fun r15 M16 _ h17 => ?_)
      refine B_iast (M' := (mset M16 62 ((w32 (5 + r9))).toNat r15)) (by decide +kernel) h17.1 rfl ?_
      have h18 := h17.2
      refine A_aload_n (i := 0) (f := 0) (by omega) rfl (by decide +kernel) rfl ?_
      refine B_getr (o' := ((63 : Nat) : Int)) (q := (RX11, TX11, 59)) (ci := 10) (j := 5) (by decide +kernel) rfl (by decide) rfl (by omega) fl_11_19 rfl ?_
      refine A_iconst (a := 5) (by decide +kernel) (by unfold in32; omega) ?_
      refine A_aload_n (i := 0) (f := 0) (by omega) rfl (by decide +kernel) rfl ?_
      refine A_iconst (a := 0) (by decide +kernel) (by unfold in32; omega) ?_
      refine A_cVi (q := (RX11, TX11, 59)) (ci := 10) (o := ((59 : Nat) : Int)) (args := [(0, 0)]) (st := [(0, 5), (30, ((63 : Nat) : Int))]) (by decide +kernel) cv_m11_fresher rfl rfl in_m11_fresher se_m11_fresher lk_11_191 rfl (by omega) (Nat.le_of_ble_eq_true rfl) h18 (fun r19 M20 _ h21 => ?_)
      refine A_iadd (by decide +kernel) ?_
      refine A_aload_n (i := 0) (f := 0) (by omega) rfl (by decide +kernel) rfl ?_
      refine A_iconst (a := 0) (by decide +kernel) (by unfold in32; omega) ?_
      refine A_bipush (a := 99) (by decide +kernel) (by unfold in32; omega) (by decide +kernel) ?_
      refine A_cVi (q := (RX11, TX11, 59)) (ci := 10) (o := ((59 : Nat) : Int)) (args := [(0, 0), (0, 99)]) (st := [(0, (w32 (5 + r19))), (30, ((63 : Nat) : Int))]) (by decide +kernel) cv_m11_numeral rfl rfl in_m11_numeral se_m11_numeral lk_11_202 rfl (by omega) (Nat.le_of_ble_eq_true rfl) h21 (fun r22 M23 _ h24 => ?_)
      refine B_iast (M' := (mset M23 63 ((w32 (5 + r19))).toNat r22)) (by decide +kernel) h24.1 rfl ?_
      have h25 := h24.2
      refine A_aload_n (i := 0) (f := 0) (by omega) rfl (by decide +kernel) rfl ?_
      refine A_iconst (a := 0) (by decide +kernel) (by unfold in32; omega) ?_
      refine A_cVd (q := (RX11, TX11, 59)) (ci := 10) (o := ((59 : Nat) : Int)) (args := [(0, 0)]) (st := []) (by decide +kernel) cv_m11_oneMore rfl rfl in_m11_oneMore se_m11_oneMore lk_11_206 rfl (by omega) (Nat.le_of_ble_eq_true rfl) h25 (fun M27 h28 => ?_)
      refine A_goto (off := 127) (tgt := 353) (by decide +kernel) (by omega) ?_
      exact A_weak (lsub.keep (lsub.drop (lsub.drop (lsub.drop lsub.nil)))) h28
    · have h29 := h6.2.1 e7
      refine A_tin (len := 33) (dflt := 182) (lo := 0) (hi := 4) (offs := #[33, 86, 94, 102, 166]) (off := 86) (tgt := 229) (by decide +kernel) (by omega) (by omega) (by rw [e7]; rfl) (by omega) ?_
      refine A_aload_n (i := 0) (f := 0) (by omega) rfl (by decide +kernel) rfl ?_
      refine A_iconst (a := 0) (by decide +kernel) (by unfold in32; omega) ?_
      refine A_cVd (q := (RX11, TX11, 59)) (ci := 10) (o := ((59 : Nat) : Int)) (args := [(0, 0)]) (st := []) (by decide +kernel) cv_m11_factLine rfl rfl in_m11_factLine se_m11_factLine lk_11_209 rfl (by omega) (Nat.le_of_ble_eq_true rfl) h29 (fun M31 h32 => ?_)
      refine A_goto (off := 119) (tgt := 353) (by decide +kernel) (by omega) ?_
      exact A_weak (lsub.keep (lsub.drop (lsub.drop (lsub.drop lsub.nil)))) h32
    · have h33 := h6.2.2.1 e7
      refine A_tin (len := 33) (dflt := 182) (lo := 0) (hi := 4) (offs := #[33, 86, 94, 102, 166]) (off := 94) (tgt := 237) (by decide +kernel) (by omega) (by omega) (by rw [e7]; rfl) (by omega) ?_
      refine A_aload_n (i := 0) (f := 0) (by omega) rfl (by decide +kernel) rfl ?_
      refine A_iconst (a := 1) (by decide +kernel) (by unfold in32; omega) ?_
      refine A_cVd (q := (RX11, TX11, 59)) (ci := 10) (o := ((59 : Nat) : Int)) (args := [(0, 1)]) (st := []) (by decide +kernel) cv_m11_factLine rfl rfl in_m11_factLine se_m11_factLine lk_11_209 rfl (by omega) (Nat.le_of_ble_eq_true rfl) h33 (fun M35 h36 => ?_)
      refine A_goto (off := 111) (tgt := 353) (by decide +kernel) (by omega) ?_
      exact A_weak (lsub.keep (lsub.drop (lsub.drop (lsub.drop lsub.nil)))) h36
    · have h37 := h6.2.2.2.1 e7
      refine A_tin (len := 33) (dflt := 182) (lo := 0) (hi := 4) (offs := #[33, 86, 94, 102, 166]) (off := 102) (tgt := 245) (by decide +kernel) (by omega) (by omega) (by rw [e7]; rfl) (by omega) ?_
      refine A_aload_n (i := 0) (f := 0) (by omega) rfl (by decide +kernel) rfl ?_
      refine A_iconst (a := 2) (by decide +kernel) (by unfold in32; omega) ?_
      refine A_cVi (q := (RX11, TX11, 59)) (ci := 10) (o := ((59 : Nat) : Int)) (args := [(0, 2)]) (st := []) (by decide +kernel) cv_m11_fresher rfl rfl in_m11_fresher se_m11_fresher lk_11_191 rfl (by omega) (Nat.le_of_ble_eq_true rfl) h37 (fun r38 M39 _ h40 => ?_)
      refine A_istore_n (i := 3) (f := 3) rfl (by decide +kernel) (by decide) (fun w h0 hw => by simp at hw; first | (rw [← hw]; decide) | (rw [← hw]; simp)) ?_
      refine A_aload_n (i := 0) (f := 0) (by omega) rfl (by decide +kernel) rfl ?_
      refine B_getr (o' := ((64 : Nat) : Int)) (q := (RX11, TX11, 59)) (ci := 10) (j := 6) (by decide +kernel) rfl (by decide) rfl (by omega) fl_11_22 rfl ?_
      refine A_iconst (a := 5) (by decide +kernel) (by unfold in32; omega) ?_
      refine A_iload_n (i := 3) (f := 3) rfl (by decide +kernel) rfl ?_
      refine A_iadd (by decide +kernel) ?_
      refine A_aload_n (i := 0) (f := 0) (by omega) rfl (by decide +kernel) rfl ?_
      refine A_aload_n (i := 0) (f := 0) (by omega) rfl (by decide +kernel) rfl ?_
      refine B_getr (o' := ((64 : Nat) : Int)) (q := (RX11, TX11, 59)) (ci := 10) (j := 6) (by decide +kernel) rfl (by decide) rfl (by omega) fl_11_22 rfl ?_
      refine A_iconst (a := 5) (by decide +kernel) (by unfold in32; omega) ?_
      refine A_iload_n (i := 3) (f := 3) rfl (by decide +kernel) rfl ?_
      refine A_cVi (q := (RX11, TX11, 59)) (ci := 10) (o := ((59 : Nat) : Int)) (args := [(30, ((64 : Nat) : Int)), (0, 5), (0, r38)]) (st := [(0, (w32 (5 + r38))), (30, ((64 : Nat) : Int))]) (by decide +kernel) cv_m11_fresh rfl rfl in_m11_fresh se_m11_fresh lk_11_198 rfl (by omega) (Nat.le_of_ble_eq_true rfl) h40 (fun r41 M42 _ h43 => ?_)
      refine B_iast (M' := (mset M42 64 ((w32 (5 + r38))).toNat r41)) (by decide +kernel) h43.1 rfl ?_
      have h44 := h43.2
      refine A_aload_n (i := 0) (f := 0) (by omega) rfl (by decide +kernel) rfl ?_
      refine B_getr (o' := ((65 : Nat) : Int)) (q := (RX11, TX11, 59)) (ci := 10) (j := 7) (by decide +kernel) rfl (by decide) rfl (by omega) fl_11_25 rfl ?_
      refine A_bipush (a := 6) (by decide +kernel) (by unfold in32; omega) (by decide +kernel) ?_
      refine A_iload_n (i := 3) (f := 3) rfl (by decide +kernel) rfl ?_
      refine A_iadd (by decide +kernel) ?_
      refine A_aload_n (i := 0) (f := 0) (by omega) rfl (by decide +kernel) rfl ?_
      refine A_iconst (a := 4) (by decide +kernel) (by unfold in32; omega) ?_
      refine A_cVi (q := (RX11, TX11, 59)) (ci := 10) (o := ((59 : Nat) : Int)) (args := [(0, 4)]) (st := [(0, (w32 (6 + r38))), (30, ((65 : Nat) : Int))]) (by decide +kernel) cv_m11_fresher rfl rfl in_m11_fresher se_m11_fresher lk_11_191 rfl (by omega) (Nat.le_of_ble_eq_true rfl) h44 (fun r45 M46 _ h47 => ?_)
      refine B_iast (M' := (mset M46 65 ((w32 (6 + r38))).toNat r45)) (by decide +kernel) h47.1 rfl ?_
      have h48 := h47.2
      refine A_aload_n (i := 0) (f := 0) (by omega) rfl (by decide +kernel) rfl ?_
      refine A_cVd (q := (RX11, TX11, 59)) (ci := 10) (o := ((59 : Nat) : Int)) (args := []) (st := []) (by decide +kernel) cv_m11_expression rfl rfl in_m11_expression se_m11_expression lk_11_212 rfl (by omega) (Nat.le_of_ble_eq_true rfl) h48 (fun M50 h51 => ?_)
      refine A_aload_n (i := 0) (f := 0) (by omega) rfl (by decide +kernel) rfl ?_
      refine B_getr (o' := ((66 : Nat) : Int)) (q := (RX11, TX11, 59)) (ci := 10) (j := 8) (by decide +kernel) rfl (by decide) rfl (by omega) fl_11_28 rfl ?_
      refine A_bipush (a := 6) (by decide +kernel) (by unfold in32; omega) (by decide +kernel) ?_
      refine A_iload_n (i := 3) (f := 3) rfl (by decide +kernel) rfl ?_
      refine A_iadd (by decide +kernel) ?_
      refine A_aload_n (i := 0) (f := 0) (by omega) rfl (by decide +kernel) rfl ?_
      refine A_iconst (a := 4) (by decide +kernel) (by unfold in32; omega) ?_
      refine A_cVi (q := (RX11, TX11, 59)) (ci := 10) (o := ((59 : Nat) : Int)) (args := [(0, 4)]) (st := [(0, (w32 (6 + r38))), (30, ((66 : Nat) : Int))]) (by decide +kernel) cv_m11_fresher rfl rfl in_m11_fresher se_m11_fresher lk_11_191 rfl (by omega) (Nat.le_of_ble_eq_true rfl) h51 (fun r52 M53 _ h54 => ?_)
      refine B_iast (M' := (mset M53 66 ((w32 (6 + r38))).toNat r52)) (by decide +kernel) h54.1 rfl ?_
      have h55 := h54.2
      refine A_aload_n (i := 0) (f := 0) (by omega) rfl (by decide +kernel) rfl ?_
      refine A_iconst (a := 2) (by decide +kernel) (by unfold in32; omega) ?_
      refine A_cVd (q := (RX11, TX11, 59)) (ci := 10) (o := ((59 : Nat) : Int)) (args := [(0, 2)]) (st := []) (by decide +kernel) cv_m11_oneMore rfl rfl in_m11_oneMore se_m11_oneMore lk_11_206 rfl (by omega) (Nat.le_of_ble_eq_true rfl) h55 (fun M57 h58 => ?_)
      refine A_goto (off := 47) (tgt := 353) (by decide +kernel) (by omega) ?_
      exact A_weak (lsub.keep (lsub.drop (lsub.drop (lsub.drop lsub.nil)))) h58
    · have h59 := h6.2.2.2.2.1 e7
      refine A_tin (len := 33) (dflt := 182) (lo := 0) (hi := 4) (offs := #[33, 86, 94, 102, 166]) (off := 166) (tgt := 309) (by decide +kernel) (by omega) (by omega) (by rw [e7]; rfl) (by omega) ?_
      refine A_aload_n (i := 0) (f := 0) (by omega) rfl (by decide +kernel) rfl ?_
      refine B_getr (o' := ((61 : Nat) : Int)) (q := (RX11, TX11, 59)) (ci := 10) (j := 3) (by decide +kernel) rfl (by decide) rfl (by omega) fl_11_13 rfl ?_
      refine A_bipush (a := 8) (by decide +kernel) (by unfold in32; omega) (by decide +kernel) ?_
      refine A_aload_n (i := 0) (f := 0) (by omega) rfl (by decide +kernel) rfl ?_
      refine A_iconst (a := 0) (by decide +kernel) (by unfold in32; omega) ?_
      refine A_iconst (a := 3) (by decide +kernel) (by unfold in32; omega) ?_
      refine A_cVi (q := (RX11, TX11, 59)) (ci := 10) (o := ((59 : Nat) : Int)) (args := [(0, 0), (0, 3)]) (st := [(0, 8), (30, ((61 : Nat) : Int))]) (by decide +kernel) cv_m11_numeral rfl rfl in_m11_numeral se_m11_numeral lk_11_202 rfl (by omega) (Nat.le_of_ble_eq_true rfl) h59 (fun r60 M61 _ h62 => ?_)
      refine B_iast (M' := (mset M61 61 8 r60)) (by decide +kernel) (by decide) rfl ?_
      refine A_goto (off := 31) (tgt := 353) (by decide +kernel) (by omega) ?_
      exact A_weak (lsub.keep (lsub.drop (lsub.drop (lsub.drop lsub.nil)))) h62
    · have h63 := h6.2.2.2.2.2 e7
      refine A_tout (len := 33) (dflt := 182) (lo := 0) (hi := 4) (offs := #[33, 86, 94, 102, 166]) (tgt := 325) (by decide +kernel) e7 (by omega) ?_
      refine A_aload_n (i := 0) (f := 0) (by omega) rfl (by decide +kernel) rfl ?_
      refine B_getr (o' := ((65 : Nat) : Int)) (q := (RX11, TX11, 59)) (ci := 10) (j := 7) (by decide +kernel) rfl (by decide) rfl (by omega) fl_11_25 rfl ?_
      refine A_bipush (a := 11) (by decide +kernel) (by unfold in32; omega) (by decide +kernel) ?_
      refine A_aload_n (i := 0) (f := 0) (by omega) rfl (by decide +kernel) rfl ?_
      refine A_iconst (a := 4) (by decide +kernel) (by unfold in32; omega) ?_
      refine A_cVi (q := (RX11, TX11, 59)) (ci := 10) (o := ((59 : Nat) : Int)) (args := [(0, 4)]) (st := [(0, 11), (30, ((65 : Nat) : Int))]) (by decide +kernel) cv_m11_fresher rfl rfl in_m11_fresher se_m11_fresher lk_11_191 rfl (by omega) (Nat.le_of_ble_eq_true rfl) h63 (fun r64 M65 _ h66 => ?_)
      refine B_iast (M' := (mset M65 65 11 r64)) (by decide +kernel) (by decide) rfl ?_
      refine A_aload_n (i := 0) (f := 0) (by omega) rfl (by decide +kernel) rfl ?_
      refine A_cVd (q := (RX11, TX11, 59)) (ci := 10) (o := ((59 : Nat) : Int)) (args := []) (st := []) (by decide +kernel) cv_m11_expression rfl rfl in_m11_expression se_m11_expression lk_11_212 rfl (by omega) (Nat.le_of_ble_eq_true rfl) h66 (fun M68 h69 => ?_)
      refine A_aload_n (i := 0) (f := 0) (by omega) rfl (by decide +kernel) rfl ?_
      refine B_getr (o' := ((66 : Nat) : Int)) (q := (RX11, TX11, 59)) (ci := 10) (j := 8) (by decide +kernel) rfl (by decide) rfl (by omega) fl_11_28 rfl ?_
      refine A_bipush (a := 11) (by decide +kernel) (by unfold in32; omega) (by decide +kernel) ?_
      refine A_aload_n (i := 0) (f := 0) (by omega) rfl (by decide +kernel) rfl ?_
      refine A_iconst (a := 4) (by decide +kernel) (by unfold in32; omega) ?_
      refine A_cVi (q := (RX11, TX11, 59)) (ci := 10) (o := ((59 : Nat) : Int)) (args := [(0, 4)]) (st := [(0, 11), (30, ((66 : Nat) : Int))]) (by decide +kernel) cv_m11_fresher rfl rfl in_m11_fresher se_m11_fresher lk_11_191 rfl (by omega) (Nat.le_of_ble_eq_true rfl) h69 (fun r70 M71 _ h72 => ?_)
      refine B_iast (M' := (mset M71 66 11 r70)) (by decide +kernel) (by decide) rfl ?_
      exact A_weak (lsub.keep (lsub.drop (lsub.drop (lsub.drop lsub.nil)))) h72
  · have h3 := h.2 b1
    exact A_ret ⟨by decide +kernel, rfl⟩ ⟨rfl, h3⟩
theorem r_11_line_353  {M : Mem} {P : Mem → Prop} (h : (((M 59 23) = 0 → (CI m11_isSign 1 [(20, ((59 : Nat) : Int)), (0, 59)] M (fun r4 M5 => ((r4 ≠ 0 → (CD m11_token 3 [(20, ((59 : Nat) : Int))] M5 (fun M11 => A m11_line 901 0 382 [(20, ((59 : Nat) : Int)), (2, 0), (2, 0), (2, 0)] [] M11 (Kd P)))) ∧ (r4 = 0 → (CD m11_wrong 2 [(20, ((59 : Nat) : Int)), (0, 1)] M5 (fun M14 => A m11_line 901 0 382 [(20, ((59 : Nat) : Int)), (2, 0), (2, 0), (2, 0)] [] M14 (Kd P)))))))) ∧ ((M 59 23) ≠ 0 → (P M)))) : A m11_line 901 0 353 [(20, ((59 : Nat) : Int)), (2, 0), (2, 0), (2, 0)] [] M (Kd P) := by
  refine A_aload_n (i := 0) (f := 0) (by omega) rfl (by decide +kernel) rfl ?_
  refine B_getp (v := (M 59 23)) (q := (RX11, TX11, 59)) (ci := 10) (j := 23) (p := 23) (by decide +kernel) rfl (by decide) rfl (Or.inl rfl) fl_11_175 rfl ?_
  refine A_if_eq (off := 4) (tgt := 361) (by decide +kernel) (by omega) (fun b1 => ?_) (fun b1 => ?_)
  · have h2 := h.1 b1
    refine A_aload_n (i := 0) (f := 0) (by omega) rfl (by decide +kernel) rfl ?_
    refine A_bipush (a := 59) (by decide +kernel) (by unfold in32; omega) (by decide +kernel) ?_
    refine A_cVi (q := (RX11, TX11, 59)) (ci := 10) (o := ((59 : Nat) : Int)) (args := [(0, 59)]) (st := []) (by decide +kernel) cv_m11_isSign rfl rfl in_m11_isSign se_m11_isSign lk_11_215 rfl (by omega) (Nat.le_of_ble_eq_true rfl) h2 (fun r4 M5 _ h6 => ?_)
    refine A_if_ne (off := 11) (tgt := 378) (by decide +kernel) (by omega) (fun b7 => ?_) (fun b7 => ?_)
    · have h8 := h6.1 b7
      refine A_aload_n (i := 0) (f := 0) (by omega) rfl (by decide +kernel) rfl ?_
      refine A_cVd (q := (RX11, TX11, 59)) (ci := 10) (o := ((59 : Nat) : Int)) (args := []) (st := []) (by decide +kernel) cv_m11_token rfl rfl in_m11_token se_m11_token lk_11_181 rfl (by omega) (Nat.le_of_ble_eq_true rfl) h8 (fun M11 h12 => ?_)
      exact A_weak (lsub.keep (lsub.drop (lsub.drop (lsub.drop lsub.nil)))) h12
    · have h9 := h6.2 (Decidable.not_not.mp b7)
      refine A_aload_n (i := 0) (f := 0) (by omega) rfl (by decide +kernel) rfl ?_
      refine A_iconst (a := 1) (by decide +kernel) (by unfold in32; omega) ?_
      refine A_cVd (q := (RX11, TX11, 59)) (ci := 10) (o := ((59 : Nat) : Int)) (args := [(0, 1)]) (st := []) (by decide +kernel) cv_m11_wrong rfl rfl in_m11_wrong se_m11_wrong lk_11_184 rfl (by omega) (Nat.le_of_ble_eq_true rfl) h9 (fun M14 h15 => ?_)
      refine A_goto (off := 7) (tgt := 382) (by decide +kernel) (by omega) ?_
      exact A_weak (lsub.keep (lsub.drop (lsub.drop (lsub.drop lsub.nil)))) h15
  · have h3 := h.2 b1
    exact A_ret ⟨by decide +kernel, rfl⟩ ⟨rfl, h3⟩
theorem r_11_line_382  {M : Mem} {P : Mem → Prop} (h : (P (mset M 59 17 (w32 ((M 59 17) + 1))))) : A m11_line 901 0 382 [(20, ((59 : Nat) : Int)), (2, 0), (2, 0), (2, 0)] [] M (Kd P) := by
  refine A_aload_n (i := 0) (f := 0) (by omega) rfl (by decide +kernel) rfl ?_
  refine A_dup (by decide +kernel) (by simp) ?_
  refine B_getp (v := (M 59 17)) (q := (RX11, TX11, 59)) (ci := 10) (j := 17) (p := 17) (by decide +kernel) rfl (by decide) rfl (Or.inl rfl) fl_11_218 rfl ?_
  refine A_iconst (a := 1) (by decide +kernel) (by unfold in32; omega) ?_
  refine A_iadd (by decide +kernel) ?_
  refine B_putp (M' := (mset M 59 17 (w32 ((M 59 17) + 1)))) (q := (RX11, TX11, 59)) (ci := 10) (j := 17) (p := 17) (by decide +kernel) rfl (by decide) rfl (Or.inl ⟨rfl, rfl⟩) rfl fl_11_218 rfl ?_
  exact A_ret ⟨by decide +kernel, rfl⟩ ⟨rfl, h⟩
theorem q_11_text {x1 : Int} {M : Mem} {P : Int → Mem → Prop} (h : ((x1 < 0 → (P (-2) (mset M 59 0 0))) ∧ (0 ≤ x1 → ((x1 ≤ ((mset M 59 0 0) 59 2) → A m11_text 902 0 47 [(20, ((59 : Nat) : Int)), (2, 0), (0, 0)] [] (mset (mset (mset (mset (mset (mset M 59 0 0) 59 18 x1) 59 2 0) 59 19 0) 59 23 0) 59 24 (-1)) (Ki P)) ∧ (((mset M 59 0 0) 59 2) < x1 → (P (-2) (mset M 59 0 0))))))) : CI m11_text 902 [(20, ((59 : Nat) : Int)), (0, x1)] M P := by
  refine CI_of (by decide +kernel) (Nat.le_of_ble_eq_true rfl) ?_
  show A m11_text 902 0 0 [(20, ((59 : Nat) : Int)), (0, x1), (2, 0)] [] M (Ki P)
  refine A_aload_n (i := 0) (f := 0) (by omega) rfl (by decide +kernel) rfl ?_
  refine A_iconst (a := 0) (by decide +kernel) (by unfold in32; omega) ?_
  refine B_putp (M' := (mset M 59 0 0)) (q := (RX11, TX11, 59)) (ci := 10) (j := 0) (p := 0) (by decide +kernel) rfl (by decide) rfl (Or.inl ⟨rfl, rfl⟩) rfl fl_11_118 rfl ?_
  refine A_iload_n (i := 1) (f := 1) rfl (by decide +kernel) rfl ?_
  refine A_if_lt (off := 11) (tgt := 17) (by decide +kernel) (by omega) (fun b1 => ?_) (fun b1 => ?_)
  · have h2 := h.1 b1
    refine A_bipush (a := (-2)) (by decide +kernel) (by unfold in32; omega) (by decide +kernel) ?_
    exact A_ret ⟨by decide +kernel, Or.inl rfl⟩ ⟨_, rfl, h2⟩
  · have h3 := h.2 (Int.not_lt.mp b1)
    refine A_iload_n (i := 1) (f := 1) rfl (by decide +kernel) rfl ?_
    refine A_aload_n (i := 0) (f := 0) (by omega) rfl (by decide +kernel) rfl ?_
    refine B_getp (v := ((mset M 59 0 0) 59 2)) (q := (RX11, TX11, 59)) (ci := 10) (j := 2) (p := 2) (by decide +kernel) rfl (by decide) rfl (Or.inl rfl) fl_11_121 rfl ?_
    refine A_ic_le (off := 6) (tgt := 20) (by decide +kernel) (by omega) (fun b4 => ?_) (fun b4 => ?_)
    · have h5 := h3.1 b4
      refine A_aload_n (i := 0) (f := 0) (by omega) rfl (by decide +kernel) rfl ?_
      refine A_iload_n (i := 1) (f := 1) rfl (by decide +kernel) rfl ?_
      refine B_putp (M' := (mset (mset M 59 0 0) 59 18 x1)) (q := (RX11, TX11, 59)) (ci := 10) (j := 18) (p := 18) (by decide +kernel) rfl (by decide) rfl (Or.inl ⟨rfl, rfl⟩) rfl fl_11_127 rfl ?_
      refine A_aload_n (i := 0) (f := 0) (by omega) rfl (by decide +kernel) rfl ?_
      refine A_iconst (a := 0) (by decide +kernel) (by unfold in32; omega) ?_
      refine B_putp (M' := (mset (mset (mset M 59 0 0) 59 18 x1) 59 2 0)) (q := (RX11, TX11, 59)) (ci := 10) (j := 2) (p := 2) (by decide +kernel) rfl (by decide) rfl (Or.inl ⟨rfl, rfl⟩) rfl fl_11_121 rfl ?_
      refine A_aload_n (i := 0) (f := 0) (by omega) rfl (by decide +kernel) rfl ?_
      refine A_iconst (a := 0) (by decide +kernel) (by unfold in32; omega) ?_
      refine B_putp (M' := (mset (mset (mset (mset M 59 0 0) 59 18 x1) 59 2 0) 59 19 0)) (q := (RX11, TX11, 59)) (ci := 10) (j := 19) (p := 19) (by decide +kernel) rfl (by decide) rfl (Or.inl ⟨rfl, rfl⟩) rfl fl_11_124 rfl ?_
      refine A_aload_n (i := 0) (f := 0) (by omega) rfl (by decide +kernel) rfl ?_
      refine A_iconst (a := 0) (by decide +kernel) (by unfold in32; omega) ?_
      refine B_putp (M' := (mset (mset (mset (mset (mset M 59 0 0) 59 18 x1) 59 2 0) 59 19 0) 59 23 0)) (q := (RX11, TX11, 59)) (ci := 10) (j := 23) (p := 23) (by decide +kernel) rfl (by decide) rfl (Or.inl ⟨rfl, rfl⟩) rfl fl_11_175 rfl ?_
      refine A_aload_n (i := 0) (f := 0) (by omega) rfl (by decide +kernel) rfl ?_
      refine A_iconst (a := (-1)) (by decide +kernel) (by unfold in32; omega) ?_
      refine B_putp (M' := (mset (mset (mset (mset (mset (mset M 59 0 0) 59 18 x1) 59 2 0) 59 19 0) 59 23 0) 59 24 (-1))) (q := (RX11, TX11, 59)) (ci := 10) (j := 24) (p := 24) (by decide +kernel) rfl (by decide) rfl (Or.inl ⟨rfl, rfl⟩) rfl fl_11_178 rfl ?_
      refine A_iconst (a := 0) (by decide +kernel) (by unfold in32; omega) ?_
      refine A_istore_n (i := 2) (f := 2) rfl (by decide +kernel) (by decide) (fun w h0 hw => by simp at hw; first | (rw [← hw]; decide) | (rw [← hw]; simp)) ?_
      exact A_weak (lsub.keep (lsub.drop (lsub.keep lsub.nil))) h5
    · have h6 := h3.2 (Int.not_le.mp b4)
      refine A_bipush (a := (-2)) (by decide +kernel) (by unfold in32; omega) (by decide +kernel) ?_
      exact A_ret ⟨by decide +kernel, Or.inl rfl⟩ ⟨_, rfl, h6⟩
theorem r_11_text_47 {x2 : Int} {M : Mem} {P : Int → Mem → Prop} (h : ((5 ≤ x2 → A m11_text 902 0 70 [(20, ((59 : Nat) : Int)), (2, 0), (0, 6)] [] M (Ki P)) ∧ (x2 < 5 → ((0 ≤ (w32 (5 + x2)) ∧ (w32 (5 + x2)) < 10) ∧ A m11_text 902 0 47 [(20, ((59 : Nat) : Int)), (2, 0), (0, (w32 (x2 + 1)))] [] (mset M 61 ((w32 (5 + x2))).toNat 0) (Ki P))))) : A m11_text 902 0 47 [(20, ((59 : Nat) : Int)), (2, 0), (0, x2)] [] M (Ki P) := by
  refine A_iload_n (i := 2) (f := 2) rfl (by decide +kernel) rfl ?_
  refine A_iconst (a := 5) (by decide +kernel) (by unfold in32; omega) ?_
  refine A_ic_ge (off := 18) (tgt := 67) (by decide +kernel) (by omega) (fun b1 => ?_) (fun b1 => ?_)
  · have h2 := h.1 b1
    refine A_bipush (a := 6) (by decide +kernel) (by unfold in32; omega) (by decide +kernel) ?_
    refine A_istore_n (i := 2) (f := 2) rfl (by decide +kernel) (by decide) (fun w h0 hw => by simp at hw; first | (rw [← hw]; decide) | (rw [← hw]; simp)) ?_
    exact A_weak (lsub.keep (lsub.drop (lsub.keep lsub.nil))) h2
  · have h3 := h.2 (Int.not_le.mp b1)
    refine A_aload_n (i := 0) (f := 0) (by omega) rfl (by decide +kernel) rfl ?_
    refine B_getr (o' := ((61 : Nat) : Int)) (q := (RX11, TX11, 59)) (ci := 10) (j := 3) (by decide +kernel) rfl (by decide) rfl (by omega) fl_11_13 rfl ?_
    refine A_iconst (a := 5) (by decide +kernel) (by unfold in32; omega) ?_
    refine A_iload_n (i := 2) (f := 2) rfl (by decide +kernel) rfl ?_
    refine A_iadd (by decide +kernel) ?_
    refine A_iconst (a := 0) (by decide +kernel) (by unfold in32; omega) ?_
    refine B_iast (M' := (mset M 61 ((w32 (5 + x2))).toNat 0)) (by decide +kernel) h3.1 rfl ?_
    have h4 := h3.2
    refine A_iinc (i := 2) (n := 1) (by decide +kernel) (by decide) rfl (fun w h0 hw => by simp at hw; first | (rw [← hw]; decide) | (rw [← hw]; simp)) ?_
    refine A_goto (off := (-17)) (tgt := 47) (by decide +kernel) (by omega) ?_
    exact A_weak (lsub.keep (lsub.drop (lsub.keep lsub.nil))) h4
theorem r_11_text_70 {x2 : Int} {M : Mem} {P : Int → Mem → Prop} (h : ((12 ≤ x2 → (CD m11_token 3 [(20, ((59 : Nat) : Int))] (mset (mset (mset (mset M 59 16 0) 59 17 0) 59 27 0) 59 28 0) (fun M5 => A m11_text 902 0 120 [(20, ((59 : Nat) : Int)), (2, 0), (2, 0)] [] M5 (Ki P)))) ∧ (x2 < 12 → ((0 ≤ x2 ∧ x2 < 12) ∧ ((0 ≤ x2 ∧ x2 < 12) ∧ A m11_text 902 0 70 [(20, ((59 : Nat) : Int)), (2, 0), (0, (w32 (x2 + 1)))] [] (mset (mset M 65 (x2).toNat 0) 66 (x2).toNat 0) (Ki P)))))) : A m11_text 902 0 70 [(20, ((59 : Nat) : Int)), (2, 0), (0, x2)] [] M (Ki P) := by
  refine A_iload_n (i := 2) (f := 2) rfl (by decide +kernel) rfl ?_
  refine A_bipush (a := 12) (by decide +kernel) (by unfold in32; omega) (by decide +kernel) ?_
  refine A_ic_ge (off := 23) (tgt := 96) (by decide +kernel) (by omega) (fun b1 => ?_) (fun b1 => ?_)
  · have h2 := h.1 b1
    refine A_aload_n (i := 0) (f := 0) (by omega) rfl (by decide +kernel) rfl ?_
    refine A_iconst (a := 0) (by decide +kernel) (by unfold in32; omega) ?_
    refine B_putp (M' := (mset M 59 16 0)) (q := (RX11, TX11, 59)) (ci := 10) (j := 16) (p := 16) (by decide +kernel) rfl (by decide) rfl (Or.inl ⟨rfl, rfl⟩) rfl fl_11_195 rfl ?_
    refine A_aload_n (i := 0) (f := 0) (by omega) rfl (by decide +kernel) rfl ?_
    refine A_iconst (a := 0) (by decide +kernel) (by unfold in32; omega) ?_
    refine B_putp (M' := (mset (mset M 59 16 0) 59 17 0)) (q := (RX11, TX11, 59)) (ci := 10) (j := 17) (p := 17) (by decide +kernel) rfl (by decide) rfl (Or.inl ⟨rfl, rfl⟩) rfl fl_11_218 rfl ?_
    refine A_aload_n (i := 0) (f := 0) (by omega) rfl (by decide +kernel) rfl ?_
    refine A_iconst (a := 0) (by decide +kernel) (by unfold in32; omega) ?_
    refine B_putp (M' := (mset (mset (mset M 59 16 0) 59 17 0) 59 27 0)) (q := (RX11, TX11, 59)) (ci := 10) (j := 27) (p := 27) (by decide +kernel) rfl (by decide) rfl (Or.inl ⟨rfl, rfl⟩) rfl fl_11_277 rfl ?_
    refine A_aload_n (i := 0) (f := 0) (by omega) rfl (by decide +kernel) rfl ?_
    refine A_iconst (a := 0) (by decide +kernel) (by unfold in32; omega) ?_
    refine B_putp (M' := (mset (mset (mset (mset M 59 16 0) 59 17 0) 59 27 0) 59 28 0)) (q := (RX11, TX11, 59)) (ci := 10) (j := 28) (p := 28) (by decide +kernel) rfl (by decide) rfl (Or.inl ⟨rfl, rfl⟩) rfl fl_11_253 rfl ?_
    refine A_aload_n (i := 0) (f := 0) (by omega) rfl (by decide +kernel) rfl ?_
    refine A_cVd (q := (RX11, TX11, 59)) (ci := 10) (o := ((59 : Nat) : Int)) (args := []) (st := []) (by decide +kernel) cv_m11_token rfl rfl in_m11_token se_m11_token lk_11_181 rfl (by omega) (Nat.le_of_ble_eq_true rfl) h2 (fun M5 h6 => ?_)
    exact A_weak (lsub.keep (lsub.drop (lsub.drop lsub.nil))) h6
  · have h3 := h.2 (Int.not_le.mp b1)
    refine A_aload_n (i := 0) (f := 0) (by omega) rfl (by decide +kernel) rfl ?_
    refine B_getr (o' := ((65 : Nat) : Int)) (q := (RX11, TX11, 59)) (ci := 10) (j := 7) (by decide +kernel) rfl (by decide) rfl (by omega) fl_11_25 rfl ?_
    refine A_iload_n (i := 2) (f := 2) rfl (by decide +kernel) rfl ?_
    refine A_iconst (a := 0) (by decide +kernel) (by unfold in32; omega) ?_
    refine B_iast (M' := (mset M 65 (x2).toNat 0)) (by decide +kernel) h3.1 rfl ?_
    have h7 := h3.2
    refine A_aload_n (i := 0) (f := 0) (by omega) rfl (by decide +kernel) rfl ?_
    refine B_getr (o' := ((66 : Nat) : Int)) (q := (RX11, TX11, 59)) (ci := 10) (j := 8) (by decide +kernel) rfl (by decide) rfl (by omega) fl_11_28 rfl ?_
    refine A_iload_n (i := 2) (f := 2) rfl (by decide +kernel) rfl ?_
    refine A_iconst (a := 0) (by decide +kernel) (by unfold in32; omega) ?_
    refine B_iast (M' := (mset (mset M 65 (x2).toNat 0) 66 (x2).toNat 0)) (by decide +kernel) h7.1 rfl ?_
    have h8 := h7.2
    refine A_iinc (i := 2) (n := 1) (by decide +kernel) (by decide) rfl (fun w h0 hw => by simp at hw; first | (rw [← hw]; decide) | (rw [← hw]; simp)) ?_
    refine A_goto (off := (-23)) (tgt := 70) (by decide +kernel) (by omega) ?_
    exact A_weak (lsub.keep (lsub.drop (lsub.keep lsub.nil))) h8
theorem r_11_text_120  {M : Mem} {P : Int → Mem → Prop} (h : (((M 59 23) ≠ 0 → ((((mset (mset M 59 25 (M 59 23)) 59 26 ((mset M 59 25 (M 59 23)) 59 24)) 59 23) = 0 → (CD m11_half 1 [(30, ((61 : Nat) : Int))] (mset (mset M 59 25 (M 59 23)) 59 26 ((mset M 59 25 (M 59 23)) 59 24)) (fun M8 => (CD m11_half 1 [(30, ((62 : Nat) : Int))] M8 (fun M11 => (CD m11_half 1 [(30, ((63 : Nat) : Int))] M11 (fun M14 => (CD m11_half 1 [(30, ((64 : Nat) : Int))] M14 (fun M17 => (CD m11_half 1 [(30, ((65 : Nat) : Int))] M17 (fun M20 => (CD m11_half 1 [(30, ((66 : Nat) : Int))] M20 (fun M23 => (CD m11_half 1 [(30, ((67 : Nat) : Int))] M23 (fun M26 => (CD m11_half 1 [(30, ((68 : Nat) : Int))] M26 (fun M29 => (CD m11_copyFacts 2 [(20, ((59 : Nat) : Int)), (0, 0), (0, 24), (0, ((mset M29 59 31 (M29 61 1)) 59 31))] (mset M29 59 31 (M29 61 1)) (fun M32 => (P ((mset (mset (mset (mset M32 59 32 (M32 61 3)) 59 46 0) 59 47 (-1)) 59 33 0) 59 17) (mset (mset (mset (mset M32 59 32 (M32 61 3)) 59 46 0) 59 47 (-1)) 59 33 0))))))))))))))))))))) ∧ (((mset (mset M 59 25 (M 59 23)) 59 26 ((mset M 59 25 (M 59 23)) 59 24)) 59 23) ≠ 0 → (P (-1) (mset (mset M 59 25 (M 59 23)) 59 26 ((mset M 59 25 (M 59 23)) 59 24)))))) ∧ ((M 59 23) = 0 → (((M 59 21) = 4 → ((((mset (mset M 59 25 (M 59 23)) 59 26 ((mset M 59 25 (M 59 23)) 59 24)) 59 23) = 0 → (CD m11_half 1 [(30, ((61 : Nat) : Int))] (mset (mset M 59 25 (M 59 23)) 59 26 ((mset M 59 25 (M 59 23)) 59 24)) (fun M41 => (CD m11_half 1 [(30, ((62 : Nat) : Int))] M41 (fun M44 => (CD m11_half 1 [(30, ((63 : Nat) : Int))] M44 (fun M47 => (CD m11_half 1 [(30, ((64 : Nat) : Int))] M47 (fun M50 => (CD m11_half 1 [(30, ((65 : Nat) : Int))] M50 (fun M53 => (CD m11_half 1 [(30, ((66 : Nat) : Int))] M53 (fun M56 => (CD m11_half 1 [(30, ((67 : Nat) : Int))] M56 (fun M59 => (CD m11_half 1 [(30, ((68 : Nat) : Int))] M59 (fun M62 => (CD m11_copyFacts 2 [(20, ((59 : Nat) : Int)), (0, 0), (0, 24), (0, ((mset M62 59 31 (M62 61 1)) 59 31))] (mset M62 59 31 (M62 61 1)) (fun M65 => (P ((mset (mset (mset (mset M65 59 32 (M65 61 3)) 59 46 0) 59 47 (-1)) 59 33 0) 59 17) (mset (mset (mset (mset M65 59 32 (M65 61 3)) 59 46 0) 59 47 (-1)) 59 33 0))))))))))))))))))))) ∧ (((mset (mset M 59 25 (M 59 23)) 59 26 ((mset M 59 25 (M 59 23)) 59 24)) 59 23) ≠ 0 → (P (-1) (mset (mset M 59 25 (M 59 23)) 59 26 ((mset M 59 25 (M 59 23)) 59 24)))))) ∧ ((M 59 21) ≠ 4 → (CD m11_line 901 [(20, ((59 : Nat) : Int))] M (fun M68 => A m11_text 902 0 120 [(20, ((59 : Nat) : Int)), (2, 0), (2, 0)] [] M68 (Ki P)))))))) : A m11_text 902 0 120 [(20, ((59 : Nat) : Int)), (2, 0), (2, 0)] [] M (Ki P) := by
  refine A_aload_n (i := 0) (f := 0) (by omega) rfl (by decide +kernel) rfl ?_
  refine B_getp (v := (M 59 23)) (q := (RX11, TX11, 59)) (ci := 10) (j := 23) (p := 23) (by decide +kernel) rfl (by decide) rfl (Or.inl rfl) fl_11_175 rfl ?_
  refine A_if_ne (off := 18) (tgt := 142) (by decide +kernel) (by omega) (fun b1 => ?_) (fun b1 => ?_)
  · have h2 := h.1 b1
    refine A_aload_n (i := 0) (f := 0) (by omega) rfl (by decide +kernel) rfl ?_
    refine A_aload_n (i := 0) (f := 0) (by omega) rfl (by decide +kernel) rfl ?_
    refine B_getp (v := (M 59 23)) (q := (RX11, TX11, 59)) (ci := 10) (j := 23) (p := 23) (by decide +kernel) rfl (by decide) rfl (Or.inl rfl) fl_11_175 rfl ?_
    refine B_putp (M' := (mset M 59 25 (M 59 23))) (q := (RX11, TX11, 59)) (ci := 10) (j := 25) (p := 25) (by decide +kernel) rfl (by decide) rfl (Or.inl ⟨rfl, rfl⟩) rfl fl_11_282 rfl ?_
    refine A_aload_n (i := 0) (f := 0) (by omega) rfl (by decide +kernel) rfl ?_
    refine A_aload_n (i := 0) (f := 0) (by omega) rfl (by decide +kernel) rfl ?_
    refine B_getp (v := ((mset M 59 25 (M 59 23)) 59 24)) (q := (RX11, TX11, 59)) (ci := 10) (j := 24) (p := 24) (by decide +kernel) rfl (by decide) rfl (Or.inl rfl) fl_11_178 rfl ?_
    refine B_putp (M' := (mset (mset M 59 25 (M 59 23)) 59 26 ((mset M 59 25 (M 59 23)) 59 24))) (q := (RX11, TX11, 59)) (ci := 10) (j := 26) (p := 26) (by decide +kernel) rfl (by decide) rfl (Or.inl ⟨rfl, rfl⟩) rfl fl_11_53 rfl ?_
    refine A_aload_n (i := 0) (f := 0) (by omega) rfl (by decide +kernel) rfl ?_
    refine B_getp (v := ((mset (mset M 59 25 (M 59 23)) 59 26 ((mset M 59 25 (M 59 23)) 59 24)) 59 23)) (q := (RX11, TX11, 59)) (ci := 10) (j := 23) (p := 23) (by decide +kernel) rfl (by decide) rfl (Or.inl rfl) fl_11_175 rfl ?_
    refine A_if_eq (off := 5) (tgt := 167) (by decide +kernel) (by omega) (fun b4 => ?_) (fun b4 => ?_)
    · have h5 := h2.1 b4
      refine A_aload_n (i := 0) (f := 0) (by omega) rfl (by decide +kernel) rfl ?_
      refine B_getr (o' := ((61 : Nat) : Int)) (q := (RX11, TX11, 59)) (ci := 10) (j := 3) (by decide +kernel) rfl (by decide) rfl (by omega) fl_11_13 rfl ?_
      refine A_cSd (args := [(30, ((61 : Nat) : Int))]) (st := []) (by decide +kernel) cv_m11_half st_m11_half lk_11_285 rfl (by omega) (Nat.le_of_ble_eq_true rfl) h5 (fun M8 h9 => ?_)
      refine A_aload_n (i := 0) (f := 0) (by omega) rfl (by decide +kernel) rfl ?_
      refine B_getr (o' := ((62 : Nat) : Int)) (q := (RX11, TX11, 59)) (ci := 10) (j := 4) (by decide +kernel) rfl (by decide) rfl (by omega) fl_11_16 rfl ?_
      refine A_cSd (args := [(30, ((62 : Nat) : Int))]) (st := []) (by decide +kernel) cv_m11_half st_m11_half lk_11_285 rfl (by omega) (Nat.le_of_ble_eq_true rfl) h9 (fun M11 h12 => ?_)
      refine A_aload_n (i := 0) (f := 0) (by omega) rfl (by decide +kernel) rfl ?_
      refine B_getr (o' := ((63 : Nat) : Int)) (q := (RX11, TX11, 59)) (ci := 10) (j := 5) (by decide +kernel) rfl (by decide) rfl (by omega) fl_11_19 rfl ?_
      refine A_cSd (args := [(30, ((63 : Nat) : Int))]) (st := []) (by decide +kernel) cv_m11_half st_m11_half lk_11_285 rfl (by omega) (Nat.le_of_ble_eq_true rfl) h12 (fun M14 h15 => ?_)
      refine A_aload_n (i := 0) (f := 0) (by omega) rfl (by decide +kernel) rfl ?_
      refine B_getr (o' := ((64 : Nat) : Int)) (q := (RX11, TX11, 59)) (ci := 10) (j := 6) (by decide +kernel) rfl (by decide) rfl (by omega) fl_11_22 rfl ?_
      refine A_cSd (args := [(30, ((64 : Nat) : Int))]) (st := []) (by decide +kernel) cv_m11_half st_m11_half lk_11_285 rfl (by omega) (Nat.le_of_ble_eq_true rfl) h15 (fun M17 h18 => ?_)
      refine A_aload_n (i := 0) (f := 0) (by omega) rfl (by decide +kernel) rfl ?_
      refine B_getr (o' := ((65 : Nat) : Int)) (q := (RX11, TX11, 59)) (ci := 10) (j := 7) (by decide +kernel) rfl (by decide) rfl (by omega) fl_11_25 rfl ?_
      refine A_cSd (args := [(30, ((65 : Nat) : Int))]) (st := []) (by decide +kernel) cv_m11_half st_m11_half lk_11_285 rfl (by omega) (Nat.le_of_ble_eq_true rfl) h18 (fun M20 h21 => ?_)
      refine A_aload_n (i := 0) (f := 0) (by omega) rfl (by decide +kernel) rfl ?_
      refine B_getr (o' := ((66 : Nat) : Int)) (q := (RX11, TX11, 59)) (ci := 10) (j := 8) (by decide +kernel) rfl (by decide) rfl (by omega) fl_11_28 rfl ?_
      refine A_cSd (args := [(30, ((66 : Nat) : Int))]) (st := []) (by decide +kernel) cv_m11_half st_m11_half lk_11_285 rfl (by omega) (Nat.le_of_ble_eq_true rfl) h21 (fun M23 h24 => ?_)
      refine A_aload_n (i := 0) (f := 0) (by omega) rfl (by decide +kernel) rfl ?_
      refine B_getr (o' := ((67 : Nat) : Int)) (q := (RX11, TX11, 59)) (ci := 10) (j := 9) (by decide +kernel) rfl (by decide) rfl (by omega) fl_11_31 rfl ?_
      refine A_cSd (args := [(30, ((67 : Nat) : Int))]) (st := []) (by decide +kernel) cv_m11_half st_m11_half lk_11_285 rfl (by omega) (Nat.le_of_ble_eq_true rfl) h24 (fun M26 h27 => ?_)
      refine A_aload_n (i := 0) (f := 0) (by omega) rfl (by decide +kernel) rfl ?_
      refine B_getr (o' := ((68 : Nat) : Int)) (q := (RX11, TX11, 59)) (ci := 10) (j := 10) (by decide +kernel) rfl (by decide) rfl (by omega) fl_11_34 rfl ?_
      refine A_cSd (args := [(30, ((68 : Nat) : Int))]) (st := []) (by decide +kernel) cv_m11_half st_m11_half lk_11_285 rfl (by omega) (Nat.le_of_ble_eq_true rfl) h27 (fun M29 h30 => ?_)
      refine A_aload_n (i := 0) (f := 0) (by omega) rfl (by decide +kernel) rfl ?_
      refine A_aload_n (i := 0) (f := 0) (by omega) rfl (by decide +kernel) rfl ?_
      refine B_getr (o' := ((61 : Nat) : Int)) (q := (RX11, TX11, 59)) (ci := 10) (j := 3) (by decide +kernel) rfl (by decide) rfl (by omega) fl_11_13 rfl ?_
      refine A_iconst (a := 1) (by decide +kernel) (by unfold in32; omega) ?_
      refine B_iald (v := (M29 61 1)) (by decide +kernel) (by decide) rfl ?_
      refine B_putp (M' := (mset M29 59 31 (M29 61 1))) (q := (RX11, TX11, 59)) (ci := 10) (j := 31) (p := 31) (by decide +kernel) rfl (by decide) rfl (Or.inl ⟨rfl, rfl⟩) rfl fl_11_289 rfl ?_
      refine A_aload_n (i := 0) (f := 0) (by omega) rfl (by decide +kernel) rfl ?_
      refine A_iconst (a := 0) (by decide +kernel) (by unfold in32; omega) ?_
      refine A_bipush (a := 24) (by decide +kernel) (by unfold in32; omega) (by decide +kernel) ?_
      refine A_aload_n (i := 0) (f := 0) (by omega) rfl (by decide +kernel) rfl ?_
      refine B_getp (v := ((mset M29 59 31 (M29 61 1)) 59 31)) (q := (RX11, TX11, 59)) (ci := 10) (j := 31) (p := 31) (by decide +kernel) rfl (by decide) rfl (Or.inl rfl) fl_11_289 rfl ?_
      refine A_cVd (q := (RX11, TX11, 59)) (ci := 10) (o := ((59 : Nat) : Int)) (args := [(0, 0), (0, 24), (0, ((mset M29 59 31 (M29 61 1)) 59 31))]) (st := []) (by decide +kernel) cv_m11_copyFacts rfl rfl in_m11_copyFacts se_m11_copyFacts lk_11_292 rfl (by omega) (Nat.le_of_ble_eq_true rfl) h30 (fun M32 h33 => ?_)
      refine A_aload_n (i := 0) (f := 0) (by omega) rfl (by decide +kernel) rfl ?_
      refine A_aload_n (i := 0) (f := 0) (by omega) rfl (by decide +kernel) rfl ?_
      refine B_getr (o' := ((61 : Nat) : Int)) (q := (RX11, TX11, 59)) (ci := 10) (j := 3) (by decide +kernel) rfl (by decide) rfl (by omega) fl_11_13 rfl ?_
      refine A_iconst (a := 3) (by decide +kernel) (by unfold in32; omega) ?_
      refine B_iald (v := (M32 61 3)) (by decide +kernel) (by decide) rfl ?_
      refine B_putp (M' := (mset M32 59 32 (M32 61 3))) (q := (RX11, TX11, 59)) (ci := 10) (j := 32) (p := 32) (by decide +kernel) rfl (by decide) rfl (Or.inl ⟨rfl, rfl⟩) rfl fl_11_296 rfl ?_
      refine A_aload_n (i := 0) (f := 0) (by omega) rfl (by decide +kernel) rfl ?_
      refine A_iconst (a := 0) (by decide +kernel) (by unfold in32; omega) ?_
      refine B_putp (M' := (mset (mset M32 59 32 (M32 61 3)) 59 46 0)) (q := (RX11, TX11, 59)) (ci := 10) (j := 46) (p := 46) (by decide +kernel) rfl (by decide) rfl (Or.inl ⟨rfl, rfl⟩) rfl fl_11_299 rfl ?_
      refine A_aload_n (i := 0) (f := 0) (by omega) rfl (by decide +kernel) rfl ?_
      refine A_iconst (a := (-1)) (by decide +kernel) (by unfold in32; omega) ?_
      refine B_putp (M' := (mset (mset (mset M32 59 32 (M32 61 3)) 59 46 0) 59 47 (-1))) (q := (RX11, TX11, 59)) (ci := 10) (j := 47) (p := 47) (by decide +kernel) rfl (by decide) rfl (Or.inl ⟨rfl, rfl⟩) rfl fl_11_82 rfl ?_
      refine A_aload_n (i := 0) (f := 0) (by omega) rfl (by decide +kernel) rfl ?_
      refine A_iconst (a := 0) (by decide +kernel) (by unfold in32; omega) ?_
      refine B_putp (M' := (mset (mset (mset (mset M32 59 32 (M32 61 3)) 59 46 0) 59 47 (-1)) 59 33 0)) (q := (RX11, TX11, 59)) (ci := 10) (j := 33) (p := 33) (by decide +kernel) rfl (by decide) rfl (Or.inr ⟨rfl, rfl, by decide⟩) rfl fl_11_302 rfl ?_
      refine A_aload_n (i := 0) (f := 0) (by omega) rfl (by decide +kernel) rfl ?_
      refine B_getp (v := ((mset (mset (mset (mset M32 59 32 (M32 61 3)) 59 46 0) 59 47 (-1)) 59 33 0) 59 17)) (q := (RX11, TX11, 59)) (ci := 10) (j := 17) (p := 17) (by decide +kernel) rfl (by decide) rfl (Or.inl rfl) fl_11_218 rfl ?_
      exact A_ret ⟨by decide +kernel, Or.inl rfl⟩ ⟨_, rfl, h33⟩
    · have h6 := h2.2 b4
      refine A_iconst (a := (-1)) (by decide +kernel) (by unfold in32; omega) ?_
      exact A_ret ⟨by decide +kernel, Or.inl rfl⟩ ⟨_, rfl, h6⟩
  · have h3 := h.2 (Decidable.not_not.mp b1)
    refine A_aload_n (i := 0) (f := 0) (by omega) rfl (by decide +kernel) rfl ?_
    refine B_getp (v := (M 59 21)) (q := (RX11, TX11, 59)) (ci := 10) (j := 21) (p := 21) (by decide +kernel) rfl (by decide) rfl (Or.inl rfl) fl_11_137 rfl ?_
    refine A_iconst (a := 4) (by decide +kernel) (by unfold in32; omega) ?_
    refine A_ic_eq (off := 10) (tgt := 142) (by decide +kernel) (by omega) (fun b34 => ?_) (fun b34 => ?_)
    · have h35 := h3.1 b34
      refine A_aload_n (i := 0) (f := 0) (by omega) rfl (by decide +kernel) rfl ?_
      refine A_aload_n (i := 0) (f := 0) (by omega) rfl (by decide +kernel) rfl ?_
      refine B_getp (v := (M 59 23)) (q := (RX11, TX11, 59)) (ci := 10) (j := 23) (p := 23) (by decide +kernel) rfl (by decide) rfl (Or.inl rfl) fl_11_175 rfl ?_
      refine B_putp (M' := (mset M 59 25 (M 59 23))) (q := (RX11, TX11, 59)) (ci := 10) (j := 25) (p := 25) (by decide +kernel) rfl (by decide) rfl (Or.inl ⟨rfl, rfl⟩) rfl fl_11_282 rfl ?_
      refine A_aload_n (i := 0) (f := 0) (by omega) rfl (by decide +kernel) rfl ?_
      refine A_aload_n (i := 0) (f := 0) (by omega) rfl (by decide +kernel) rfl ?_
      refine B_getp (v := ((mset M 59 25 (M 59 23)) 59 24)) (q := (RX11, TX11, 59)) (ci := 10) (j := 24) (p := 24) (by decide +kernel) rfl (by decide) rfl (Or.inl rfl) fl_11_178 rfl ?_
      refine B_putp (M' := (mset (mset M 59 25 (M 59 23)) 59 26 ((mset M 59 25 (M 59 23)) 59 24))) (q := (RX11, TX11, 59)) (ci := 10) (j := 26) (p := 26) (by decide +kernel) rfl (by decide) rfl (Or.inl ⟨rfl, rfl⟩) rfl fl_11_53 rfl ?_
      refine A_aload_n (i := 0) (f := 0) (by omega) rfl (by decide +kernel) rfl ?_
      refine B_getp (v := ((mset (mset M 59 25 (M 59 23)) 59 26 ((mset M 59 25 (M 59 23)) 59 24)) 59 23)) (q := (RX11, TX11, 59)) (ci := 10) (j := 23) (p := 23) (by decide +kernel) rfl (by decide) rfl (Or.inl rfl) fl_11_175 rfl ?_
      refine A_if_eq (off := 5) (tgt := 167) (by decide +kernel) (by omega) (fun b37 => ?_) (fun b37 => ?_)
      · have h38 := h35.1 b37
        refine A_aload_n (i := 0) (f := 0) (by omega) rfl (by decide +kernel) rfl ?_
        refine B_getr (o' := ((61 : Nat) : Int)) (q := (RX11, TX11, 59)) (ci := 10) (j := 3) (by decide +kernel) rfl (by decide) rfl (by omega) fl_11_13 rfl ?_
        refine A_cSd (args := [(30, ((61 : Nat) : Int))]) (st := []) (by decide +kernel) cv_m11_half st_m11_half lk_11_285 rfl (by omega) (Nat.le_of_ble_eq_true rfl) h38 (fun M41 h42 => ?_)
        refine A_aload_n (i := 0) (f := 0) (by omega) rfl (by decide +kernel) rfl ?_
        refine B_getr (o' := ((62 : Nat) : Int)) (q := (RX11, TX11, 59)) (ci := 10) (j := 4) (by decide +kernel) rfl (by decide) rfl (by omega) fl_11_16 rfl ?_
        refine A_cSd (args := [(30, ((62 : Nat) : Int))]) (st := []) (by decide +kernel) cv_m11_half st_m11_half lk_11_285 rfl (by omega) (Nat.le_of_ble_eq_true rfl) h42 (fun M44 h45 => ?_)
        refine A_aload_n (i := 0) (f := 0) (by omega) rfl (by decide +kernel) rfl ?_
        refine B_getr (o' := ((63 : Nat) : Int)) (q := (RX11, TX11, 59)) (ci := 10) (j := 5) (by decide +kernel) rfl (by decide) rfl (by omega) fl_11_19 rfl ?_
        refine A_cSd (args := [(30, ((63 : Nat) : Int))]) (st := []) (by decide +kernel) cv_m11_half st_m11_half lk_11_285 rfl (by omega) (Nat.le_of_ble_eq_true rfl) h45 (fun M47 h48 => ?_)
        refine A_aload_n (i := 0) (f := 0) (by omega) rfl (by decide +kernel) rfl ?_
        refine B_getr (o' := ((64 : Nat) : Int)) (q := (RX11, TX11, 59)) (ci := 10) (j := 6) (by decide +kernel) rfl (by decide) rfl (by omega) fl_11_22 rfl ?_
        refine A_cSd (args := [(30, ((64 : Nat) : Int))]) (st := []) (by decide +kernel) cv_m11_half st_m11_half lk_11_285 rfl (by omega) (Nat.le_of_ble_eq_true rfl) h48 (fun M50 h51 => ?_)
        refine A_aload_n (i := 0) (f := 0) (by omega) rfl (by decide +kernel) rfl ?_
        refine B_getr (o' := ((65 : Nat) : Int)) (q := (RX11, TX11, 59)) (ci := 10) (j := 7) (by decide +kernel) rfl (by decide) rfl (by omega) fl_11_25 rfl ?_
        refine A_cSd (args := [(30, ((65 : Nat) : Int))]) (st := []) (by decide +kernel) cv_m11_half st_m11_half lk_11_285 rfl (by omega) (Nat.le_of_ble_eq_true rfl) h51 (fun M53 h54 => ?_)
        refine A_aload_n (i := 0) (f := 0) (by omega) rfl (by decide +kernel) rfl ?_
        refine B_getr (o' := ((66 : Nat) : Int)) (q := (RX11, TX11, 59)) (ci := 10) (j := 8) (by decide +kernel) rfl (by decide) rfl (by omega) fl_11_28 rfl ?_
        refine A_cSd (args := [(30, ((66 : Nat) : Int))]) (st := []) (by decide +kernel) cv_m11_half st_m11_half lk_11_285 rfl (by omega) (Nat.le_of_ble_eq_true rfl) h54 (fun M56 h57 => ?_)
        refine A_aload_n (i := 0) (f := 0) (by omega) rfl (by decide +kernel) rfl ?_
        refine B_getr (o' := ((67 : Nat) : Int)) (q := (RX11, TX11, 59)) (ci := 10) (j := 9) (by decide +kernel) rfl (by decide) rfl (by omega) fl_11_31 rfl ?_
        refine A_cSd (args := [(30, ((67 : Nat) : Int))]) (st := []) (by decide +kernel) cv_m11_half st_m11_half lk_11_285 rfl (by omega) (Nat.le_of_ble_eq_true rfl) h57 (fun M59 h60 => ?_)
        refine A_aload_n (i := 0) (f := 0) (by omega) rfl (by decide +kernel) rfl ?_
        refine B_getr (o' := ((68 : Nat) : Int)) (q := (RX11, TX11, 59)) (ci := 10) (j := 10) (by decide +kernel) rfl (by decide) rfl (by omega) fl_11_34 rfl ?_
        refine A_cSd (args := [(30, ((68 : Nat) : Int))]) (st := []) (by decide +kernel) cv_m11_half st_m11_half lk_11_285 rfl (by omega) (Nat.le_of_ble_eq_true rfl) h60 (fun M62 h63 => ?_)
        refine A_aload_n (i := 0) (f := 0) (by omega) rfl (by decide +kernel) rfl ?_
        refine A_aload_n (i := 0) (f := 0) (by omega) rfl (by decide +kernel) rfl ?_
        refine B_getr (o' := ((61 : Nat) : Int)) (q := (RX11, TX11, 59)) (ci := 10) (j := 3) (by decide +kernel) rfl (by decide) rfl (by omega) fl_11_13 rfl ?_
        refine A_iconst (a := 1) (by decide +kernel) (by unfold in32; omega) ?_
        refine B_iald (v := (M62 61 1)) (by decide +kernel) (by decide) rfl ?_
        refine B_putp (M' := (mset M62 59 31 (M62 61 1))) (q := (RX11, TX11, 59)) (ci := 10) (j := 31) (p := 31) (by decide +kernel) rfl (by decide) rfl (Or.inl ⟨rfl, rfl⟩) rfl fl_11_289 rfl ?_
        refine A_aload_n (i := 0) (f := 0) (by omega) rfl (by decide +kernel) rfl ?_
        refine A_iconst (a := 0) (by decide +kernel) (by unfold in32; omega) ?_
        refine A_bipush (a := 24) (by decide +kernel) (by unfold in32; omega) (by decide +kernel) ?_
        refine A_aload_n (i := 0) (f := 0) (by omega) rfl (by decide +kernel) rfl ?_
        refine B_getp (v := ((mset M62 59 31 (M62 61 1)) 59 31)) (q := (RX11, TX11, 59)) (ci := 10) (j := 31) (p := 31) (by decide +kernel) rfl (by decide) rfl (Or.inl rfl) fl_11_289 rfl ?_
        refine A_cVd (q := (RX11, TX11, 59)) (ci := 10) (o := ((59 : Nat) : Int)) (args := [(0, 0), (0, 24), (0, ((mset M62 59 31 (M62 61 1)) 59 31))]) (st := []) (by decide +kernel) cv_m11_copyFacts rfl rfl in_m11_copyFacts se_m11_copyFacts lk_11_292 rfl (by omega) (Nat.le_of_ble_eq_true rfl) h63 (fun M65 h66 => ?_)
        refine A_aload_n (i := 0) (f := 0) (by omega) rfl (by decide +kernel) rfl ?_
        refine A_aload_n (i := 0) (f := 0) (by omega) rfl (by decide +kernel) rfl ?_
        refine B_getr (o' := ((61 : Nat) : Int)) (q := (RX11, TX11, 59)) (ci := 10) (j := 3) (by decide +kernel) rfl (by decide) rfl (by omega) fl_11_13 rfl ?_
        refine A_iconst (a := 3) (by decide +kernel) (by unfold in32; omega) ?_
        refine B_iald (v := (M65 61 3)) (by decide +kernel) (by decide) rfl ?_
        refine B_putp (M' := (mset M65 59 32 (M65 61 3))) (q := (RX11, TX11, 59)) (ci := 10) (j := 32) (p := 32) (by decide +kernel) rfl (by decide) rfl (Or.inl ⟨rfl, rfl⟩) rfl fl_11_296 rfl ?_
        refine A_aload_n (i := 0) (f := 0) (by omega) rfl (by decide +kernel) rfl ?_
        refine A_iconst (a := 0) (by decide +kernel) (by unfold in32; omega) ?_
        refine B_putp (M' := (mset (mset M65 59 32 (M65 61 3)) 59 46 0)) (q := (RX11, TX11, 59)) (ci := 10) (j := 46) (p := 46) (by decide +kernel) rfl (by decide) rfl (Or.inl ⟨rfl, rfl⟩) rfl fl_11_299 rfl ?_
        refine A_aload_n (i := 0) (f := 0) (by omega) rfl (by decide +kernel) rfl ?_
        refine A_iconst (a := (-1)) (by decide +kernel) (by unfold in32; omega) ?_
        refine B_putp (M' := (mset (mset (mset M65 59 32 (M65 61 3)) 59 46 0) 59 47 (-1))) (q := (RX11, TX11, 59)) (ci := 10) (j := 47) (p := 47) (by decide +kernel) rfl (by decide) rfl (Or.inl ⟨rfl, rfl⟩) rfl fl_11_82 rfl ?_
        refine A_aload_n (i := 0) (f := 0) (by omega) rfl (by decide +kernel) rfl ?_
        refine A_iconst (a := 0) (by decide +kernel) (by unfold in32; omega) ?_
        refine B_putp (M' := (mset (mset (mset (mset M65 59 32 (M65 61 3)) 59 46 0) 59 47 (-1)) 59 33 0)) (q := (RX11, TX11, 59)) (ci := 10) (j := 33) (p := 33) (by decide +kernel) rfl (by decide) rfl (Or.inr ⟨rfl, rfl, by decide⟩) rfl fl_11_302 rfl ?_
        refine A_aload_n (i := 0) (f := 0) (by omega) rfl (by decide +kernel) rfl ?_
        refine B_getp (v := ((mset (mset (mset (mset M65 59 32 (M65 61 3)) 59 46 0) 59 47 (-1)) 59 33 0) 59 17)) (q := (RX11, TX11, 59)) (ci := 10) (j := 17) (p := 17) (by decide +kernel) rfl (by decide) rfl (Or.inl rfl) fl_11_218 rfl ?_
        exact A_ret ⟨by decide +kernel, Or.inl rfl⟩ ⟨_, rfl, h66⟩
      · have h39 := h35.2 b37
        refine A_iconst (a := (-1)) (by decide +kernel) (by unfold in32; omega) ?_
        exact A_ret ⟨by decide +kernel, Or.inl rfl⟩ ⟨_, rfl, h39⟩
    · have h36 := h3.2 b34
      refine A_aload_n (i := 0) (f := 0) (by omega) rfl (by decide +kernel) rfl ?_
      refine A_cVd (q := (RX11, TX11, 59)) (ci := 10) (o := ((59 : Nat) : Int)) (args := []) (st := []) (by decide +kernel) cv_m11_line rfl rfl in_m11_line se_m11_line lk_11_280 rfl (by omega) (Nat.le_of_ble_eq_true rfl) h36 (fun M68 h69 => ?_)
      refine A_goto (off := (-19)) (tgt := 120) (by decide +kernel) (by omega) ?_
      exact A_weak (lsub.keep (lsub.drop (lsub.drop lsub.nil))) h69
theorem q_11_hall {x1 : Int} {x2 : Int} {x3 : Int} {x4 : Int} {M : Mem} {P : Int → Mem → Prop} (h : (CI m11_areTwo 2 [(20, ((59 : Nat) : Int)), (0, x1), (0, x3)] (mset M 59 0 0) (fun r1 M2 => ((r1 = 0 → (P (-1) M2)) ∧ (r1 ≠ 0 → ((x2 ≤ 0 → (P (-1) M2)) ∧ (0 < x2 → (((ishl 1 (M2 61 0)) ≤ x2 → (P (-1) M2)) ∧ (x2 < (ishl 1 (M2 61 0)) → (((iand (ishr x2 x1) 1) ≠ 0 → (P (-1) M2)) ∧ ((iand (ishr x2 x1) 1) = 0 → ((x4 < 0 → (P (-1) M2)) ∧ (0 ≤ x4 → ((x4 ≤ 3 → (CD m11_layNow 3 [(20, ((59 : Nat) : Int)), (0, (M2 59 32))] M2 (fun M23 => A m11_hall 51 0 74 [(20, ((59 : Nat) : Int)), (0, x1), (0, x2), (0, x3), (0, x4), (2, 0), (0, 0)] [] M23 (Ki P)))) ∧ (3 < x4 → (P (-1) M2)))))))))))))))) : CI m11_hall 51 [(20, ((59 : Nat) : Int)), (0, x1), (0, x2), (0, x3), (0, x4)] M P := by
  refine CI_of (by decide +kernel) (Nat.le_of_ble_eq_true rfl) ?_
  show A m11_hall 51 0 0 [(20, ((59 : Nat) : Int)), (0, x1), (0, x2), (0, x3), (0, x4), (2, 0), (2, 0)] [] M (Ki P)
  refine A_aload_n (i := 0) (f := 0) (by omega) rfl (by decide +kernel) rfl ?_
  refine A_iconst (a := 0) (by decide +kernel) (by unfold in32; omega) ?_
  refine B_putp (M' := (mset M 59 0 0)) (q := (RX11, TX11, 59)) (ci := 10) (j := 0) (p := 0) (by decide +kernel) rfl (by decide) rfl (Or.inl ⟨rfl, rfl⟩) rfl fl_11_118 rfl ?_
  refine A_aload_n (i := 0) (f := 0) (by omega) rfl (by decide +kernel) rfl ?_
  refine A_iload_n (i := 1) (f := 1) rfl (by decide +kernel) rfl ?_
  refine A_iload_n (i := 3) (f := 3) rfl (by decide +kernel) rfl ?_
  refine A_cVi (q := (RX11, TX11, 59)) (ci := 10) (o := ((59 : Nat) : Int)) (args := [(0, x1), (0, x3)]) (st := []) (by decide +kernel) cv_m11_areTwo rfl rfl in_m11_areTwo se_m11_areTwo lk_11_312 rfl (by omega) (Nat.le_of_ble_eq_true rfl) h (fun r1 M2 _ h3 => ?_)
  refine A_if_eq (off := 31) (tgt := 42) (by decide +kernel) (by omega) (fun b4 => ?_) (fun b4 => ?_)
  · have h5 := h3.1 b4
    refine A_iconst (a := 0) (by decide +kernel) (by unfold in32; omega) ?_
    refine A_istore (i := 5) (by decide +kernel) (by decide) (fun w h0 hw => by simp at hw; first | (rw [← hw]; decide) | (rw [← hw]; simp)) ?_
    refine A_iload (i := 5) (by decide +kernel) rfl ?_
    refine A_if_eq (off := 14) (tgt := 61) (by decide +kernel) (by omega) (fun _ => ?_) (fun hb => absurd (by decide) hb)
    refine A_iconst (a := (-1)) (by decide +kernel) (by unfold in32; omega) ?_
    exact A_ret ⟨by decide +kernel, Or.inl rfl⟩ ⟨_, rfl, h5⟩
  · have h6 := h3.2 b4
    refine A_iload_n (i := 2) (f := 2) rfl (by decide +kernel) rfl ?_
    refine A_if_le (off := 27) (tgt := 42) (by decide +kernel) (by omega) (fun b7 => ?_) (fun b7 => ?_)
    · have h8 := h6.1 b7
      refine A_iconst (a := 0) (by decide +kernel) (by unfold in32; omega) ?_
      refine A_istore (i := 5) (by decide +kernel) (by decide) (fun w h0 hw => by simp at hw; first | (rw [← hw]; decide) | (rw [← hw]; simp)) ?_
      refine A_iload (i := 5) (by decide +kernel) rfl ?_
      refine A_if_eq (off := 14) (tgt := 61) (by decide +kernel) (by omega) (fun _ => ?_) (fun hb => absurd (by decide) hb)
      refine A_iconst (a := (-1)) (by decide +kernel) (by unfold in32; omega) ?_
      exact A_ret ⟨by decide +kernel, Or.inl rfl⟩ ⟨_, rfl, h8⟩
    · have h9 := h6.2 (Int.not_le.mp b7)
      refine A_iload_n (i := 2) (f := 2) rfl (by decide +kernel) rfl ?_
      refine A_iconst (a := 1) (by decide +kernel) (by unfold in32; omega) ?_
      refine A_aload_n (i := 0) (f := 0) (by omega) rfl (by decide +kernel) rfl ?_
      refine B_getr (o' := ((61 : Nat) : Int)) (q := (RX11, TX11, 59)) (ci := 10) (j := 3) (by decide +kernel) rfl (by decide) rfl (by omega) fl_11_13 rfl ?_
      refine A_iconst (a := 0) (by decide +kernel) (by unfold in32; omega) ?_
      refine B_iald (v := (M2 61 0)) (by decide +kernel) (by decide) rfl ?_
      refine A_ishl (by decide +kernel) ?_
      refine A_ic_ge (off := 15) (tgt := 42) (by decide +kernel) (by omega) (fun b10 => ?_) (fun b10 => ?_)
      · have h11 := h9.1 b10
        refine A_iconst (a := 0) (by decide +kernel) (by unfold in32; omega) ?_
        refine A_istore (i := 5) (by decide +kernel) (by decide) (fun w h0 hw => by simp at hw; first | (rw [← hw]; decide) | (rw [← hw]; simp)) ?_
        refine A_iload (i := 5) (by decide +kernel) rfl ?_
        refine A_if_eq (off := 14) (tgt := 61) (by decide +kernel) (by omega) (fun _ => ?_) (fun hb => absurd (by decide) hb)
        refine A_iconst (a := (-1)) (by decide +kernel) (by unfold in32; omega) ?_
        exact A_ret ⟨by decide +kernel, Or.inl rfl⟩ ⟨_, rfl, h11⟩
      · have h12 := h9.2 (Int.not_le.mp b10)
        refine A_iload_n (i := 2) (f := 2) rfl (by decide +kernel) rfl ?_
        refine A_iload_n (i := 1) (f := 1) rfl (by decide +kernel) rfl ?_
        refine A_ishr (by decide +kernel) ?_
        refine A_iconst (a := 1) (by decide +kernel) (by unfold in32; omega) ?_
        refine A_iand (by decide +kernel) ?_
        refine A_if_ne (off := 7) (tgt := 42) (by decide +kernel) (by omega) (fun b13 => ?_) (fun b13 => ?_)
        · have h14 := h12.1 b13
          refine A_iconst (a := 0) (by decide +kernel) (by unfold in32; omega) ?_
          refine A_istore (i := 5) (by decide +kernel) (by decide) (fun w h0 hw => by simp at hw; first | (rw [← hw]; decide) | (rw [← hw]; simp)) ?_
          refine A_iload (i := 5) (by decide +kernel) rfl ?_
          refine A_if_eq (off := 14) (tgt := 61) (by decide +kernel) (by omega) (fun _ => ?_) (fun hb => absurd (by decide) hb)
          refine A_iconst (a := (-1)) (by decide +kernel) (by unfold in32; omega) ?_
          exact A_ret ⟨by decide +kernel, Or.inl rfl⟩ ⟨_, rfl, h14⟩
        · have h15 := h12.2 (Decidable.not_not.mp b13)
          refine A_iconst (a := 1) (by decide +kernel) (by unfold in32; omega) ?_
          refine A_goto (off := 4) (tgt := 43) (by decide +kernel) (by omega) ?_
          refine A_istore (i := 5) (by decide +kernel) (by decide) (fun w h0 hw => by simp at hw; first | (rw [← hw]; decide) | (rw [← hw]; simp)) ?_
          refine A_iload (i := 5) (by decide +kernel) rfl ?_
          refine A_if_eq (off := 14) (tgt := 61) (by decide +kernel) (by omega) (fun hb => absurd hb (by decide)) (fun _ => ?_)
          refine A_iload (i := 4) (by decide +kernel) rfl ?_
          refine A_if_lt (off := 9) (tgt := 61) (by decide +kernel) (by omega) (fun b16 => ?_) (fun b16 => ?_)
          · have h17 := h15.1 b16
            refine A_iconst (a := (-1)) (by decide +kernel) (by unfold in32; omega) ?_
            exact A_ret ⟨by decide +kernel, Or.inl rfl⟩ ⟨_, rfl, h17⟩
          · have h18 := h15.2 (Int.not_lt.mp b16)
            refine A_iload (i := 4) (by decide +kernel) rfl ?_
            refine A_iconst (a := 3) (by decide +kernel) (by unfold in32; omega) ?_
            refine A_ic_le (off := 5) (tgt := 63) (by decide +kernel) (by omega) (fun b19 => ?_) (fun b19 => ?_)
            · have h20 := h18.1 b19
              refine A_aload_n (i := 0) (f := 0) (by omega) rfl (by decide +kernel) rfl ?_
              refine A_aload_n (i := 0) (f := 0) (by omega) rfl (by decide +kernel) rfl ?_
              refine B_getp (v := (M2 59 32)) (q := (RX11, TX11, 59)) (ci := 10) (j := 32) (p := 32) (by decide +kernel) rfl (by decide) rfl (Or.inl rfl) fl_11_296 rfl ?_
              refine A_cVd (q := (RX11, TX11, 59)) (ci := 10) (o := ((59 : Nat) : Int)) (args := [(0, (M2 59 32))]) (st := []) (by decide +kernel) cv_m11_layNow rfl rfl in_m11_layNow se_m11_layNow lk_11_309 rfl (by omega) (Nat.le_of_ble_eq_true rfl) h20 (fun M23 h24 => ?_)
              refine A_iconst (a := 0) (by decide +kernel) (by unfold in32; omega) ?_
              refine A_istore (i := 6) (by decide +kernel) (by decide) (fun w h0 hw => by simp at hw; first | (rw [← hw]; decide) | (rw [← hw]; simp)) ?_
              exact A_weak (lsub.keep (lsub.keep (lsub.keep (lsub.keep (lsub.keep (lsub.drop (lsub.keep lsub.nil))))))) h24
            · have h21 := h18.2 (Int.not_le.mp b19)
              refine A_iconst (a := (-1)) (by decide +kernel) (by unfold in32; omega) ?_
              exact A_ret ⟨by decide +kernel, Or.inl rfl⟩ ⟨_, rfl, h21⟩
theorem r_11_hall_74 {x1 : Int} {x2 : Int} {x3 : Int} {x4 : Int} {x6 : Int} {M : Mem} {P : Int → Mem → Prop} (h : (((M 61 0) ≤ x6 → ((x4 ≤ 1 → (CD m11_halls 50 [(20, ((59 : Nat) : Int)), (0, 0), (0, 0), (0, 0)] (mset (mset M 59 45 x2) 59 44 (-1)) (fun M8 => ((x4 ≠ 0 → (P (M8 59 43) M8)) ∧ (x4 = 0 → (P (M8 59 44) M8)))))) ∧ (1 < x4 → ((x4 ≠ 2 → (CI m11_clash 1 [(20, ((59 : Nat) : Int)), (0, x2), (0, 0)] M (fun r16 M17 => (P r16 M17)))) ∧ (x4 = 2 → (CI m11_clash 1 [(20, ((59 : Nat) : Int)), (0, x2), (0, 1)] M (fun r19 M20 => (P r19 M20)))))))) ∧ (x6 < (M 61 0) → (((iand (ishr x2 x6) 1) ≠ 1 → A m11_hall 51 0 74 [(20, ((59 : Nat) : Int)), (0, x1), (0, x2), (0, x3), (0, x4), (2, 0), (0, (w32 (x6 + 1)))] [] M (Ki P)) ∧ ((iand (ishr x2 x6) 1) = 1 → (CI m11_right 5 [(20, ((59 : Nat) : Int)), (0, x1), (0, x6), (0, x3), (0, (M 59 32))] M (fun r25 M26 => ((0 ≤ x6 ∧ x6 < 5) ∧ A m11_hall 51 0 74 [(20, ((59 : Nat) : Int)), (0, x1), (0, x2), (0, x3), (0, x4), (2, 0), (0, (w32 (x6 + 1)))] [] (mset M26 81 (x6).toNat r25) (Ki P))))))))) : A m11_hall 51 0 74 [(20, ((59 : Nat) : Int)), (0, x1), (0, x2), (0, x3), (0, x4), (2, 0), (0, x6)] [] M (Ki P) := by
  refine A_iload (i := 6) (by decide +kernel) rfl ?_
  refine A_aload_n (i := 0) (f := 0) (by omega) rfl (by decide +kernel) rfl ?_
  refine B_getr (o' := ((61 : Nat) : Int)) (q := (RX11, TX11, 59)) (ci := 10) (j := 3) (by decide +kernel) rfl (by decide) rfl (by omega) fl_11_13 rfl ?_
  refine A_iconst (a := 0) (by decide +kernel) (by unfold in32; omega) ?_
  refine B_iald (v := (M 61 0)) (by decide +kernel) (by decide) rfl ?_
  refine A_ic_ge (off := 38) (tgt := 120) (by decide +kernel) (by omega) (fun b1 => ?_) (fun b1 => ?_)
  · have h2 := h.1 b1
    refine A_iload (i := 4) (by decide +kernel) rfl ?_
    refine A_iconst (a := 1) (by decide +kernel) (by unfold in32; omega) ?_
    refine A_ic_le (off := 20) (tgt := 143) (by decide +kernel) (by omega) (fun b4 => ?_) (fun b4 => ?_)
    · have h5 := h2.1 b4
      refine A_aload_n (i := 0) (f := 0) (by omega) rfl (by decide +kernel) rfl ?_
      refine A_iload_n (i := 2) (f := 2) rfl (by decide +kernel) rfl ?_
      refine B_putp (M' := (mset M 59 45 x2)) (q := (RX11, TX11, 59)) (ci := 10) (j := 45) (p := 45) (by decide +kernel) rfl (by decide) rfl (Or.inl ⟨rfl, rfl⟩) rfl fl_11_402 rfl ?_
      refine A_aload_n (i := 0) (f := 0) (by omega) rfl (by decide +kernel) rfl ?_
      refine A_iconst (a := (-1)) (by decide +kernel) (by unfold in32; omega) ?_
      refine B_putp (M' := (mset (mset M 59 45 x2) 59 44 (-1))) (q := (RX11, TX11, 59)) (ci := 10) (j := 44) (p := 44) (by decide +kernel) rfl (by decide) rfl (Or.inl ⟨rfl, rfl⟩) rfl fl_11_405 rfl ?_
      refine A_aload_n (i := 0) (f := 0) (by omega) rfl (by decide +kernel) rfl ?_
      refine A_iconst (a := 0) (by decide +kernel) (by unfold in32; omega) ?_
      refine A_iconst (a := 0) (by decide +kernel) (by unfold in32; omega) ?_
      refine A_iconst (a := 0) (by decide +kernel) (by unfold in32; omega) ?_
      refine A_cVd (q := (RX11, TX11, 59)) (ci := 10) (o := ((59 : Nat) : Int)) (args := [(0, 0), (0, 0), (0, 0)]) (st := []) (by decide +kernel) cv_m11_halls rfl rfl in_m11_halls se_m11_halls lk_11_411 rfl (by omega) (Nat.le_of_ble_eq_true rfl) h5 (fun M8 h9 => ?_)
      refine A_iload (i := 4) (by decide +kernel) rfl ?_
      refine A_if_ne (off := 10) (tgt := 172) (by decide +kernel) (by omega) (fun b10 => ?_) (fun b10 => ?_)
      · have h11 := h9.1 b10
        refine A_aload_n (i := 0) (f := 0) (by omega) rfl (by decide +kernel) rfl ?_
        refine B_getp (v := (M8 59 43)) (q := (RX11, TX11, 59)) (ci := 10) (j := 43) (p := 43) (by decide +kernel) rfl (by decide) rfl (Or.inl rfl) fl_11_408 rfl ?_
        exact A_ret ⟨by decide +kernel, Or.inl rfl⟩ ⟨_, rfl, h11⟩
      · have h12 := h9.2 (Decidable.not_not.mp b10)
        refine A_aload_n (i := 0) (f := 0) (by omega) rfl (by decide +kernel) rfl ?_
        refine B_getp (v := (M8 59 44)) (q := (RX11, TX11, 59)) (ci := 10) (j := 44) (p := 44) (by decide +kernel) rfl (by decide) rfl (Or.inl rfl) fl_11_405 rfl ?_
        refine A_goto (off := 7) (tgt := 176) (by decide +kernel) (by omega) ?_
        exact A_ret ⟨by decide +kernel, Or.inl rfl⟩ ⟨_, rfl, h12⟩
    · have h6 := h2.2 (Int.not_le.mp b4)
      refine A_aload_n (i := 0) (f := 0) (by omega) rfl (by decide +kernel) rfl ?_
      refine A_iload_n (i := 2) (f := 2) rfl (by decide +kernel) rfl ?_
      refine A_iload (i := 4) (by decide +kernel) rfl ?_
      refine A_iconst (a := 2) (by decide +kernel) (by unfold in32; omega) ?_
      refine A_ic_ne (off := 7) (tgt := 138) (by decide +kernel) (by omega) (fun b13 => ?_) (fun b13 => ?_)
      · have h14 := h6.1 b13
        refine A_iconst (a := 0) (by decide +kernel) (by unfold in32; omega) ?_
        refine A_cVi (q := (RX11, TX11, 59)) (ci := 10) (o := ((59 : Nat) : Int)) (args := [(0, x2), (0, 0)]) (st := []) (by decide +kernel) cv_m11_clash rfl rfl in_m11_clash se_m11_clash lk_11_414 rfl (by omega) (Nat.le_of_ble_eq_true rfl) h14 (fun r16 M17 _ h18 => ?_)
        exact A_ret ⟨by decide +kernel, Or.inl rfl⟩ ⟨_, rfl, h18⟩
      · have h15 := h6.2 (Decidable.not_not.mp b13)
        refine A_iconst (a := 1) (by decide +kernel) (by unfold in32; omega) ?_
        refine A_goto (off := 4) (tgt := 139) (by decide +kernel) (by omega) ?_
        refine A_cVi (q := (RX11, TX11, 59)) (ci := 10) (o := ((59 : Nat) : Int)) (args := [(0, x2), (0, 1)]) (st := []) (by decide +kernel) cv_m11_clash rfl rfl in_m11_clash se_m11_clash lk_11_414 rfl (by omega) (Nat.le_of_ble_eq_true rfl) h15 (fun r19 M20 _ h21 => ?_)
        exact A_ret ⟨by decide +kernel, Or.inl rfl⟩ ⟨_, rfl, h21⟩
  · have h3 := h.2 (Int.not_le.mp b1)
    refine A_iload_n (i := 2) (f := 2) rfl (by decide +kernel) rfl ?_
    refine A_iload (i := 6) (by decide +kernel) rfl ?_
    refine A_ishr (by decide +kernel) ?_
    refine A_iconst (a := 1) (by decide +kernel) (by unfold in32; omega) ?_
    refine A_iand (by decide +kernel) ?_
    refine A_iconst (a := 1) (by decide +kernel) (by unfold in32; omega) ?_
    refine A_ic_ne (off := 22) (tgt := 114) (by decide +kernel) (by omega) (fun b22 => ?_) (fun b22 => ?_)
    · have h23 := h3.1 b22
      refine A_iinc (i := 6) (n := 1) (by decide +kernel) (by decide) rfl (fun w h0 hw => by simp at hw; first | (rw [← hw]; decide) | (rw [← hw]; simp)) ?_
      refine A_goto (off := (-43)) (tgt := 74) (by decide +kernel) (by omega) ?_
      exact A_weak (lsub.keep (lsub.keep (lsub.keep (lsub.keep (lsub.keep (lsub.drop (lsub.keep lsub.nil))))))) h23
    · have h24 := h3.2 (Decidable.not_not.mp b22)
      refine A_aload_n (i := 0) (f := 0) (by omega) rfl (by decide +kernel) rfl ?_
      refine B_getr (o' := ((81 : Nat) : Int)) (q := (RX11, TX11, 59)) (ci := 10) (j := 42) (by decide +kernel) rfl (by decide) rfl (by omega) fl_11_79 rfl ?_
      refine A_iload (i := 6) (by decide +kernel) rfl ?_
      refine A_aload_n (i := 0) (f := 0) (by omega) rfl (by decide +kernel) rfl ?_
      refine A_iload_n (i := 1) (f := 1) rfl (by decide +kernel) rfl ?_
      refine A_iload (i := 6) (by decide +kernel) rfl ?_
      refine A_iload_n (i := 3) (f := 3) rfl (by decide +kernel) rfl ?_
      refine A_aload_n (i := 0) (f := 0) (by omega) rfl (by decide +kernel) rfl ?_
      refine B_getp (v := (M 59 32)) (q := (RX11, TX11, 59)) (ci := 10) (j := 32) (p := 32) (by decide +kernel) rfl (by decide) rfl (Or.inl rfl) fl_11_296 rfl ?_
      refine A_cVi (q := (RX11, TX11, 59)) (ci := 10) (o := ((59 : Nat) : Int)) (args := [(0, x1), (0, x6), (0, x3), (0, (M 59 32))]) (st := [(0, x6), (30, ((81 : Nat) : Int))]) (by decide +kernel) cv_m11_right rfl rfl in_m11_right se_m11_right lk_11_369 rfl (by omega) (Nat.le_of_ble_eq_true rfl) h24 (fun r25 M26 _ h27 => ?_)
      refine B_iast (M' := (mset M26 81 (x6).toNat r25)) (by decide +kernel) h27.1 rfl ?_
      have h28 := h27.2
      refine A_iinc (i := 6) (n := 1) (by decide +kernel) (by decide) rfl (fun w h0 hw => by simp at hw; first | (rw [← hw]; decide) | (rw [← hw]; simp)) ?_
      refine A_goto (off := (-43)) (tgt := 74) (by decide +kernel) (by omega) ?_
      exact A_weak (lsub.keep (lsub.keep (lsub.keep (lsub.keep (lsub.keep (lsub.drop (lsub.keep lsub.nil))))))) h28
