/-! CourtTongueModel: its regions (made by wip/whole/gall.py) -/
theorem q_11_works {x1 : Int} {M : Mem} {P : Int → Mem → Prop} (h : ((0 ≤ (w32 ((M 59 39) - 1)) ∧ (w32 ((M 59 39) - 1)) < 64) ∧ ((x1 ≠ 260 → ((0 ≤ (w32 ((M 59 39) - 2)) ∧ (w32 ((M 59 39) - 2)) < 64) ∧ ((x1 = 42 → (((M 78 ((w32 ((M 59 39) - 2))).toNat) = 0 → A m11_works 2 0 212 [(20, ((59 : Nat) : Int)), (2, 0), (1, (M 78 ((w32 ((M 59 39) - 1))).toNat)), (2, 0), (1, (M 78 ((w32 ((M 59 39) - 2))).toNat)), (2, 0), (2, 0), (2, 0)] [] (mset M 59 39 (w32 ((M 59 39) - 1))) (Ki P)) ∧ ((M 78 ((w32 ((M 59 39) - 2))).toNat) ≠ 0 → (((if 0 < (M 78 ((w32 ((M 59 39) - 2))).toNat) then (M 78 ((w32 ((M 59 39) - 2))).toNat) else w64 (-(M 78 ((w32 ((M 59 39) - 2))).toNat))) ≠ 0) ∧ (((if 0 < (M 78 ((w32 ((M 59 39) - 1))).toNat) then (M 78 ((w32 ((M 59 39) - 1))).toNat) else w64 (-(M 78 ((w32 ((M 59 39) - 1))).toNat))) ≤ (w64 (Int.tdiv 1000000000000 (if 0 < (M 78 ((w32 ((M 59 39) - 2))).toNat) then (M 78 ((w32 ((M 59 39) - 2))).toNat) else w64 (-(M 78 ((w32 ((M 59 39) - 2))).toNat))))) → A m11_works 2 0 212 [(20, ((59 : Nat) : Int)), (2, 0), (1, (M 78 ((w32 ((M 59 39) - 1))).toNat)), (2, 0), (1, (M 78 ((w32 ((M 59 39) - 2))).toNat)), (2, 0), (2, 0), (2, 0)] [] (mset M 59 39 (w32 ((M 59 39) - 1))) (Ki P)) ∧ ((w64 (Int.tdiv 1000000000000 (if 0 < (M 78 ((w32 ((M 59 39) - 2))).toNat) then (M 78 ((w32 ((M 59 39) - 2))).toNat) else w64 (-(M 78 ((w32 ((M 59 39) - 2))).toNat))))) < (if 0 < (M 78 ((w32 ((M 59 39) - 1))).toNat) then (M 78 ((w32 ((M 59 39) - 1))).toNat) else w64 (-(M 78 ((w32 ((M 59 39) - 1))).toNat))) → (P 0 (mset M 59 39 (w32 ((M 59 39) - 1)))))))))) ∧ ((x1 = 43 → A m11_works 2 0 407 [(20, ((59 : Nat) : Int)), (2, 0), (2, 0), (2, 0), (2, 0), (2, 0), (1, (w64 ((M 78 ((w32 ((M 59 39) - 2))).toNat) + (M 78 ((w32 ((M 59 39) - 1))).toNat)))), (2, 0)] [] (mset M 59 39 (w32 ((M 59 39) - 1))) (Ki P)) ∧ ((x1 = 45 → A m11_works 2 0 407 [(20, ((59 : Nat) : Int)), (2, 0), (2, 0), (2, 0), (2, 0), (2, 0), (1, (w64 ((M 78 ((w32 ((M 59 39) - 2))).toNat) - (M 78 ((w32 ((M 59 39) - 1))).toNat)))), (2, 0)] [] (mset M 59 39 (w32 ((M 59 39) - 1))) (Ki P)) ∧ ((x1 = 47 → (((M 78 ((w32 ((M 59 39) - 1))).toNat) ≠ 0 → (((M 78 ((w32 ((M 59 39) - 1))).toNat) ≠ 0) ∧ A m11_works 2 0 407 [(20, ((59 : Nat) : Int)), (2, 0), (2, 0), (2, 0), (2, 0), (2, 0), (1, (w64 (Int.tdiv (M 78 ((w32 ((M 59 39) - 2))).toNat) (M 78 ((w32 ((M 59 39) - 1))).toNat)))), (2, 0)] [] (mset M 59 39 (w32 ((M 59 39) - 1))) (Ki P))) ∧ ((M 78 ((w32 ((M 59 39) - 1))).toNat) = 0 → (P 0 (mset M 59 39 (w32 ((M 59 39) - 1))))))) ∧ ((x1 = 60 → (((M 78 ((w32 ((M 59 39) - 1))).toNat) ≤ (M 78 ((w32 ((M 59 39) - 2))).toNat) → (CL m11_is 1 [(0, 0)] (mset M 59 39 (w32 ((M 59 39) - 1))) (fun r26 M27 => A m11_works 2 0 407 [(20, ((59 : Nat) : Int)), (2, 0), (2, 0), (2, 0), (2, 0), (2, 0), (1, r26), (2, 0)] [] M27 (Ki P)))) ∧ ((M 78 ((w32 ((M 59 39) - 2))).toNat) < (M 78 ((w32 ((M 59 39) - 1))).toNat) → (CL m11_is 1 [(0, 1)] (mset M 59 39 (w32 ((M 59 39) - 1))) (fun r29 M30 => A m11_works 2 0 407 [(20, ((59 : Nat) : Int)), (2, 0), (2, 0), (2, 0), (2, 0), (2, 0), (1, r29), (2, 0)] [] M30 (Ki P)))))) ∧ ((x1 = 61 → (((M 78 ((w32 ((M 59 39) - 2))).toNat) ≠ (M 78 ((w32 ((M 59 39) - 1))).toNat) → (CL m11_is 1 [(0, 0)] (mset M 59 39 (w32 ((M 59 39) - 1))) (fun r36 M37 => A m11_works 2 0 407 [(20, ((59 : Nat) : Int)), (2, 0), (2, 0), (2, 0), (2, 0), (2, 0), (1, r36), (2, 0)] [] M37 (Ki P)))) ∧ ((M 78 ((w32 ((M 59 39) - 2))).toNat) = (M 78 ((w32 ((M 59 39) - 1))).toNat) → (CL m11_is 1 [(0, 1)] (mset M 59 39 (w32 ((M 59 39) - 1))) (fun r39 M40 => A m11_works 2 0 407 [(20, ((59 : Nat) : Int)), (2, 0), (2, 0), (2, 0), (2, 0), (2, 0), (1, r39), (2, 0)] [] M40 (Ki P)))))) ∧ ((x1 = 62 → (((M 78 ((w32 ((M 59 39) - 2))).toNat) ≤ (M 78 ((w32 ((M 59 39) - 1))).toNat) → (CL m11_is 1 [(0, 0)] (mset M 59 39 (w32 ((M 59 39) - 1))) (fun r46 M47 => A m11_works 2 0 407 [(20, ((59 : Nat) : Int)), (2, 0), (2, 0), (2, 0), (2, 0), (2, 0), (1, r46), (2, 0)] [] M47 (Ki P)))) ∧ ((M 78 ((w32 ((M 59 39) - 1))).toNat) < (M 78 ((w32 ((M 59 39) - 2))).toNat) → (CL m11_is 1 [(0, 1)] (mset M 59 39 (w32 ((M 59 39) - 1))) (fun r49 M50 => A m11_works 2 0 407 [(20, ((59 : Nat) : Int)), (2, 0), (2, 0), (2, 0), (2, 0), (2, 0), (1, r49), (2, 0)] [] M50 (Ki P)))))) ∧ ((x1 = 256 → (((M 78 ((w32 ((M 59 39) - 1))).toNat) < (M 78 ((w32 ((M 59 39) - 2))).toNat) → (CL m11_is 1 [(0, 0)] (mset M 59 39 (w32 ((M 59 39) - 1))) (fun r56 M57 => A m11_works 2 0 407 [(20, ((59 : Nat) : Int)), (2, 0), (2, 0), (2, 0), (2, 0), (2, 0), (1, r56), (2, 0)] [] M57 (Ki P)))) ∧ ((M 78 ((w32 ((M 59 39) - 2))).toNat) ≤ (M 78 ((w32 ((M 59 39) - 1))).toNat) → (CL m11_is 1 [(0, 1)] (mset M 59 39 (w32 ((M 59 39) - 1))) (fun r59 M60 => A m11_works 2 0 407 [(20, ((59 : Nat) : Int)), (2, 0), (2, 0), (2, 0), (2, 0), (2, 0), (1, r59), (2, 0)] [] M60 (Ki P)))))) ∧ ((x1 = 257 → (((M 78 ((w32 ((M 59 39) - 2))).toNat) = (M 78 ((w32 ((M 59 39) - 1))).toNat) → (CL m11_is 1 [(0, 0)] (mset M 59 39 (w32 ((M 59 39) - 1))) (fun r66 M67 => A m11_works 2 0 407 [(20, ((59 : Nat) : Int)), (2, 0), (2, 0), (2, 0), (2, 0), (2, 0), (1, r66), (2, 0)] [] M67 (Ki P)))) ∧ ((M 78 ((w32 ((M 59 39) - 2))).toNat) ≠ (M 78 ((w32 ((M 59 39) - 1))).toNat) → (CL m11_is 1 [(0, 1)] (mset M 59 39 (w32 ((M 59 39) - 1))) (fun r69 M70 => A m11_works 2 0 407 [(20, ((59 : Nat) : Int)), (2, 0), (2, 0), (2, 0), (2, 0), (2, 0), (1, r69), (2, 0)] [] M70 (Ki P)))))) ∧ ((x1 = 258 → (((M 78 ((w32 ((M 59 39) - 2))).toNat) < (M 78 ((w32 ((M 59 39) - 1))).toNat) → (CL m11_is 1 [(0, 0)] (mset M 59 39 (w32 ((M 59 39) - 1))) (fun r76 M77 => A m11_works 2 0 407 [(20, ((59 : Nat) : Int)), (2, 0), (2, 0), (2, 0), (2, 0), (2, 0), (1, r76), (2, 0)] [] M77 (Ki P)))) ∧ ((M 78 ((w32 ((M 59 39) - 1))).toNat) ≤ (M 78 ((w32 ((M 59 39) - 2))).toNat) → (CL m11_is 1 [(0, 1)] (mset M 59 39 (w32 ((M 59 39) - 1))) (fun r79 M80 => A m11_works 2 0 407 [(20, ((59 : Nat) : Int)), (2, 0), (2, 0), (2, 0), (2, 0), (2, 0), (1, r79), (2, 0)] [] M80 (Ki P)))))) ∧ ((x1 = 261 → (((M 78 ((w32 ((M 59 39) - 2))).toNat) = 0 → A m11_works 2 0 375 [(20, ((59 : Nat) : Int)), (2, 0), (2, 0), (2, 0), (2, 0), (2, 0), (2, 0), (2, 0)] [] (mset M 59 39 (w32 ((M 59 39) - 1))) (Ki P)) ∧ ((M 78 ((w32 ((M 59 39) - 2))).toNat) ≠ 0 → (((M 78 ((w32 ((M 59 39) - 1))).toNat) = 0 → A m11_works 2 0 375 [(20, ((59 : Nat) : Int)), (2, 0), (2, 0), (2, 0), (2, 0), (2, 0), (2, 0), (2, 0)] [] (mset M 59 39 (w32 ((M 59 39) - 1))) (Ki P)) ∧ ((M 78 ((w32 ((M 59 39) - 1))).toNat) ≠ 0 → (CL m11_is 1 [(0, 1)] (mset M 59 39 (w32 ((M 59 39) - 1))) (fun r89 M90 => A m11_works 2 0 407 [(20, ((59 : Nat) : Int)), (2, 0), (2, 0), (2, 0), (2, 0), (2, 0), (1, r89), (2, 0)] [] M90 (Ki P)))))))) ∧ ((x1 ≠ 42 ∧ x1 ≠ 43 ∧ x1 ≠ 45 ∧ x1 ≠ 47 ∧ x1 ≠ 60 ∧ x1 ≠ 61 ∧ x1 ≠ 62 ∧ x1 ≠ 256 ∧ x1 ≠ 257 ∧ x1 ≠ 258 ∧ x1 ≠ 261) → (((M 78 ((w32 ((M 59 39) - 2))).toNat) ≠ 0 → A m11_works 2 0 397 [(20, ((59 : Nat) : Int)), (2, 0), (2, 0), (2, 0), (2, 0), (2, 0), (2, 0), (2, 0)] [] (mset M 59 39 (w32 ((M 59 39) - 1))) (Ki P)) ∧ ((M 78 ((w32 ((M 59 39) - 2))).toNat) = 0 → (((M 78 ((w32 ((M 59 39) - 1))).toNat) = 0 → (CL m11_is 1 [(0, 0)] (mset M 59 39 (w32 ((M 59 39) - 1))) (fun r99 M100 => A m11_works 2 0 407 [(20, ((59 : Nat) : Int)), (2, 0), (2, 0), (2, 0), (2, 0), (2, 0), (1, r99), (2, 0)] [] M100 (Ki P)))) ∧ ((M 78 ((w32 ((M 59 39) - 1))).toNat) ≠ 0 → A m11_works 2 0 397 [(20, ((59 : Nat) : Int)), (2, 0), (2, 0), (2, 0), (2, 0), (2, 0), (2, 0), (2, 0)] [] (mset M 59 39 (w32 ((M 59 39) - 1))) (Ki P))))))))))))))))))) ∧ (x1 = 260 → (((M 78 ((w32 ((M 59 39) - 1))).toNat) ≠ 0 → (CL m11_is 1 [(0, 0)] M (fun r105 M106 => ((0 ≤ (w32 ((M 59 39) - 1)) ∧ (w32 ((M 59 39) - 1)) < 64) ∧ (P 1 (mset M106 78 ((w32 ((M 59 39) - 1))).toNat r105)))))) ∧ ((M 78 ((w32 ((M 59 39) - 1))).toNat) = 0 → (CL m11_is 1 [(0, 1)] M (fun r109 M110 => ((0 ≤ (w32 ((M 59 39) - 1)) ∧ (w32 ((M 59 39) - 1)) < 64) ∧ (P 1 (mset M110 78 ((w32 ((M 59 39) - 1))).toNat r109))))))))))) : CI m11_works 2 [(20, ((59 : Nat) : Int)), (0, x1)] M P := by
  refine CI_of (by decide +kernel) (Nat.le_of_ble_eq_true rfl) ?_
  show A m11_works 2 0 0 [(20, ((59 : Nat) : Int)), (0, x1), (2, 0), (2, 0), (2, 0), (2, 0), (2, 0), (2, 0)] [] M (Ki P)
  refine A_aload_n (i := 0) (f := 0) (by omega) rfl (by decide +kernel) rfl ?_
  refine B_getr (o' := ((78 : Nat) : Int)) (q := (RX11, TX11, 59)) (ci := 10) (j := 38) (by decide +kernel) rfl (by decide) rfl (by omega) fl_11_70 rfl ?_
  refine A_aload_n (i := 0) (f := 0) (by omega) rfl (by decide +kernel) rfl ?_
  refine B_getp (v := (M 59 39)) (q := (RX11, TX11, 59)) (ci := 10) (j := 39) (p := 39) (by decide +kernel) rfl (by decide) rfl (Or.inl rfl) fl_11_327 rfl ?_
  refine A_iconst (a := 1) (by decide +kernel) (by unfold in32; omega) ?_
  refine A_isub (by decide +kernel) ?_
  refine B_lald (v := (M 78 ((w32 ((M 59 39) - 1))).toNat)) (by decide +kernel) h.1 rfl ?_
  have h1 := h.2
  refine A_lstore_n (i := 2) (f := 2) rfl (by decide +kernel) (by decide) (fun w h0 hw => by simp at hw; first | (rw [← hw]; decide) | (rw [← hw]; simp)) ?_
  refine A_iload_n (i := 1) (f := 1) rfl (by decide +kernel) rfl ?_
  refine A_sipush (a := 260) (by decide +kernel) (by unfold in32; omega) (by decide +kernel) ?_
  refine A_ic_ne (off := 30) (tgt := 46) (by decide +kernel) (by omega) (fun b2 => ?_) (fun b2 => ?_)
  · have h3 := h1.1 b2
    refine A_aload_n (i := 0) (f := 0) (by omega) rfl (by decide +kernel) rfl ?_
    refine B_getr (o' := ((78 : Nat) : Int)) (q := (RX11, TX11, 59)) (ci := 10) (j := 38) (by decide +kernel) rfl (by decide) rfl (by omega) fl_11_70 rfl ?_
    refine A_aload_n (i := 0) (f := 0) (by omega) rfl (by decide +kernel) rfl ?_
    refine B_getp (v := (M 59 39)) (q := (RX11, TX11, 59)) (ci := 10) (j := 39) (p := 39) (by decide +kernel) rfl (by decide) rfl (Or.inl rfl) fl_11_327 rfl ?_
    refine A_iconst (a := 2) (by decide +kernel) (by unfold in32; omega) ?_
    refine A_isub (by decide +kernel) ?_
    refine B_lald (v := (M 78 ((w32 ((M 59 39) - 2))).toNat)) (by decide +kernel) h3.1 rfl ?_
    have h5 := h3.2
    refine A_lstore (i := 4) (by decide +kernel) (by decide) (fun w h0 hw => by simp at hw; first | (rw [← hw]; decide) | (rw [← hw]; simp)) ?_
    refine A_aload_n (i := 0) (f := 0) (by omega) rfl (by decide +kernel) rfl ?_
    refine A_dup (by decide +kernel) (by simp) ?_
    refine B_getp (v := (M 59 39)) (q := (RX11, TX11, 59)) (ci := 10) (j := 39) (p := 39) (by decide +kernel) rfl (by decide) rfl (Or.inl rfl) fl_11_327 rfl ?_
    refine A_iconst (a := 1) (by decide +kernel) (by unfold in32; omega) ?_
    refine A_isub (by decide +kernel) ?_
    refine B_putp (M' := (mset M 59 39 (w32 ((M 59 39) - 1)))) (q := (RX11, TX11, 59)) (ci := 10) (j := 39) (p := 39) (by decide +kernel) rfl (by decide) rfl (Or.inl ⟨rfl, rfl⟩) rfl fl_11_327 rfl ?_
    refine A_iload_n (i := 1) (f := 1) rfl (by decide +kernel) rfl ?_
    have hsw : x1 = 42 ∨ x1 = 43 ∨ x1 = 45 ∨ x1 = 47 ∨ x1 = 60 ∨ x1 = 61 ∨ x1 = 62 ∨ x1 = 256 ∨ x1 = 257 ∨ x1 = 258 ∨ x1 = 261 ∨ (x1 ≠ 42 ∧ x1 ≠ 43 ∧ x1 ≠ 45 ∧ x1 ≠ 47 ∧ x1 ≠ 60 ∧ x1 ≠ 61 ∧ x1 ≠ 62 ∧ x1 ≠ 256 ∧ x1 ≠ 257 ∧ x1 ≠ 258 ∧ x1 ≠ 261) := by omega
    rcases hsw with e6 | e6 | e6 | e6 | e6 | e6 | e6 | e6 | e6 | e6 | e6 | e6
    · have h7 := h5.1 e6
      refine A_lkup (len := 98) (dflt := 314) (ps := #[(42, 116), (43, 98), (45, 107), (47, 151), (60, 168), (61, 208), (62, 188), (256, 228), (257, 268), (258, 248), (261, 288)]) (off := 116) (tgt := 186) (by decide +kernel) (by decide +kernel) (by rw [e6]; rfl) (by omega) ?_
      refine A_lload (i := 4) (by decide +kernel) rfl ?_
      refine A_lconst (n := 0) (a := 0) (by decide +kernel) (by unfold in64; omega) (by decide +kernel) ?_
      refine A_lcmp (by decide +kernel) ?_
      refine A_if_eq (off := 22) (tgt := 212) (by decide +kernel) (by omega) (fun b8 => ?_) (fun b8 => ?_)
      · have h9 := h7.1 (lcmp_eq.mp b8)
        exact A_weak (lsub.keep (lsub.drop (lsub.keep (lsub.drop (lsub.keep (lsub.drop (lsub.drop (lsub.drop lsub.nil)))))))) h9
      · have h10 := h7.2 (fun e => b8 (lcmp_eq.mpr e))
        refine A_lload_n (i := 2) (f := 2) rfl (by decide +kernel) rfl ?_
        refine A_labs (by decide +kernel) (by omega) (Nat.le_of_ble_eq_true rfl) lk_11_334 jst_abs jin_math jcd_abs ?_
        refine A_ldc2 (by decide +kernel) (by unfold in64; omega) kl_11_340 rfl ?_
        refine A_lload (i := 4) (by decide +kernel) rfl ?_
        refine A_labs (by decide +kernel) (by omega) (Nat.le_of_ble_eq_true rfl) lk_11_334 jst_abs jin_math jcd_abs ?_
        refine A_ldiv (by decide +kernel) h10.1 ?_
        have h11 := h10.2
        refine A_lcmp (by decide +kernel) ?_
        refine A_if_le (off := 5) (tgt := 212) (by decide +kernel) (by omega) (fun b12 => ?_) (fun b12 => ?_)
        · have h13 := h11.1 (lcmp_le.mp b12)
          exact A_weak (lsub.keep (lsub.drop (lsub.keep (lsub.drop (lsub.keep (lsub.drop (lsub.drop (lsub.drop lsub.nil)))))))) h13
        · have h14 := h11.2 (Int.not_le.mp (fun e => b12 (lcmp_le.mpr e)))
          refine A_iconst (a := 0) (by decide +kernel) (by unfold in32; omega) ?_
          exact A_ret ⟨by decide +kernel, Or.inr ⟨rfl, by decide⟩⟩ ⟨_, rfl, h14⟩
    · have h15 := h5.2.1 e6
      refine A_lkup (len := 98) (dflt := 314) (ps := #[(42, 116), (43, 98), (45, 107), (47, 151), (60, 168), (61, 208), (62, 188), (256, 228), (257, 268), (258, 248), (261, 288)]) (off := 98) (tgt := 168) (by decide +kernel) (by decide +kernel) (by rw [e6]; rfl) (by omega) ?_
      refine A_lload (i := 4) (by decide +kernel) rfl ?_
      refine A_lload_n (i := 2) (f := 2) rfl (by decide +kernel) rfl ?_
      refine A_ladd (by decide +kernel) ?_
      refine A_lstore (i := 6) (by decide +kernel) (by decide) (fun w h0 hw => by simp at hw; first | (rw [← hw]; decide) | (rw [← hw]; simp)) ?_
      refine A_goto (off := 233) (tgt := 407) (by decide +kernel) (by omega) ?_
      exact A_weak (lsub.keep (lsub.drop (lsub.drop (lsub.drop (lsub.drop (lsub.drop (lsub.keep (lsub.drop lsub.nil)))))))) h15
    · have h16 := h5.2.2.1 e6
      refine A_lkup (len := 98) (dflt := 314) (ps := #[(42, 116), (43, 98), (45, 107), (47, 151), (60, 168), (61, 208), (62, 188), (256, 228), (257, 268), (258, 248), (261, 288)]) (off := 107) (tgt := 177) (by decide +kernel) (by decide +kernel) (by rw [e6]; rfl) (by omega) ?_
      refine A_lload (i := 4) (by decide +kernel) rfl ?_
      refine A_lload_n (i := 2) (f := 2) rfl (by decide +kernel) rfl ?_
      refine A_lsub (by decide +kernel) ?_
      refine A_lstore (i := 6) (by decide +kernel) (by decide) (fun w h0 hw => by simp at hw; first | (rw [← hw]; decide) | (rw [← hw]; simp)) ?_
      refine A_goto (off := 224) (tgt := 407) (by decide +kernel) (by omega) ?_
      exact A_weak (lsub.keep (lsub.drop (lsub.drop (lsub.drop (lsub.drop (lsub.drop (lsub.keep (lsub.drop lsub.nil)))))))) h16
    · have h17 := h5.2.2.2.1 e6
      refine A_lkup (len := 98) (dflt := 314) (ps := #[(42, 116), (43, 98), (45, 107), (47, 151), (60, 168), (61, 208), (62, 188), (256, 228), (257, 268), (258, 248), (261, 288)]) (off := 151) (tgt := 221) (by decide +kernel) (by decide +kernel) (by rw [e6]; rfl) (by omega) ?_
      refine A_lload_n (i := 2) (f := 2) rfl (by decide +kernel) rfl ?_
      refine A_lconst (n := 0) (a := 0) (by decide +kernel) (by unfold in64; omega) (by decide +kernel) ?_
      refine A_lcmp (by decide +kernel) ?_
      refine A_if_ne (off := 5) (tgt := 229) (by decide +kernel) (by omega) (fun b18 => ?_) (fun b18 => ?_)
      · have h19 := h17.1 (fun e => b18 (lcmp_eq.mpr e))
        refine A_lload (i := 4) (by decide +kernel) rfl ?_
        refine A_lload_n (i := 2) (f := 2) rfl (by decide +kernel) rfl ?_
        refine A_ldiv (by decide +kernel) h19.1 ?_
        have h21 := h19.2
        refine A_lstore (i := 6) (by decide +kernel) (by decide) (fun w h0 hw => by simp at hw; first | (rw [← hw]; decide) | (rw [← hw]; simp)) ?_
        refine A_goto (off := 172) (tgt := 407) (by decide +kernel) (by omega) ?_
        exact A_weak (lsub.keep (lsub.drop (lsub.drop (lsub.drop (lsub.drop (lsub.drop (lsub.keep (lsub.drop lsub.nil)))))))) h21
      · have h20 := h17.2 (lcmp_eq.mp (Decidable.not_not.mp b18))
        refine A_iconst (a := 0) (by decide +kernel) (by unfold in32; omega) ?_
        exact A_ret ⟨by decide +kernel, Or.inr ⟨rfl, by decide⟩⟩ ⟨_, rfl, h20⟩
    · have h22 := h5.2.2.2.2.1 e6
      refine A_lkup (len := 98) (dflt := 314) (ps := #[(42, 116), (43, 98), (45, 107), (47, 151), (60, 168), (61, 208), (62, 188), (256, 228), (257, 268), (258, 248), (261, 288)]) (off := 168) (tgt := 238) (by decide +kernel) (by decide +kernel) (by rw [e6]; rfl) (by omega) ?_
      refine A_lload (i := 4) (by decide +kernel) rfl ?_
      refine A_lload_n (i := 2) (f := 2) rfl (by decide +kernel) rfl ?_
      refine A_lcmp (by decide +kernel) ?_
      refine A_if_ge (off := 7) (tgt := 249) (by decide +kernel) (by omega) (fun b23 => ?_) (fun b23 => ?_)
      · have h24 := h22.1 (lcmp_ge.mp b23)
        refine A_iconst (a := 0) (by decide +kernel) (by unfold in32; omega) ?_
        refine A_cSl (args := [(0, 0)]) (st := []) (by decide +kernel) cv_m11_is st_m11_is lk_11_330 rfl (by omega) (Nat.le_of_ble_eq_true rfl) h24 (fun r26 M27 _ h28 => ?_)
        refine A_lstore (i := 6) (by decide +kernel) (by decide) (fun w h0 hw => by simp at hw; first | (rw [← hw]; decide) | (rw [← hw]; simp)) ?_
        refine A_goto (off := 152) (tgt := 407) (by decide +kernel) (by omega) ?_
        exact A_weak (lsub.keep (lsub.drop (lsub.drop (lsub.drop (lsub.drop (lsub.drop (lsub.keep (lsub.drop lsub.nil)))))))) h28
      · have h25 := h22.2 (Int.not_le.mp (fun e => b23 (lcmp_ge.mpr e)))
        refine A_iconst (a := 1) (by decide +kernel) (by unfold in32; omega) ?_
        refine A_goto (off := 4) (tgt := 250) (by decide +kernel) (by omega) ?_
        refine A_cSl (args := [(0, 1)]) (st := []) (by decide +kernel) cv_m11_is st_m11_is lk_11_330 rfl (by omega) (Nat.le_of_ble_eq_true rfl) h25 (fun r29 M30 _ h31 => ?_)
        refine A_lstore (i := 6) (by decide +kernel) (by decide) (fun w h0 hw => by simp at hw; first | (rw [← hw]; decide) | (rw [← hw]; simp)) ?_
        refine A_goto (off := 152) (tgt := 407) (by decide +kernel) (by omega) ?_
        exact A_weak (lsub.keep (lsub.drop (lsub.drop (lsub.drop (lsub.drop (lsub.drop (lsub.keep (lsub.drop lsub.nil)))))))) h31
    · have h32 := h5.2.2.2.2.2.1 e6
      refine A_lkup (len := 98) (dflt := 314) (ps := #[(42, 116), (43, 98), (45, 107), (47, 151), (60, 168), (61, 208), (62, 188), (256, 228), (257, 268), (258, 248), (261, 288)]) (off := 208) (tgt := 278) (by decide +kernel) (by decide +kernel) (by rw [e6]; rfl) (by omega) ?_
      refine A_lload (i := 4) (by decide +kernel) rfl ?_
      refine A_lload_n (i := 2) (f := 2) rfl (by decide +kernel) rfl ?_
      refine A_lcmp (by decide +kernel) ?_
      refine A_if_ne (off := 7) (tgt := 289) (by decide +kernel) (by omega) (fun b33 => ?_) (fun b33 => ?_)
      · have h34 := h32.1 (fun e => b33 (lcmp_eq.mpr e))
        refine A_iconst (a := 0) (by decide +kernel) (by unfold in32; omega) ?_
        refine A_cSl (args := [(0, 0)]) (st := []) (by decide +kernel) cv_m11_is st_m11_is lk_11_330 rfl (by omega) (Nat.le_of_ble_eq_true rfl) h34 (fun r36 M37 _ h38 => ?_)
        refine A_lstore (i := 6) (by decide +kernel) (by decide) (fun w h0 hw => by simp at hw; first | (rw [← hw]; decide) | (rw [← hw]; simp)) ?_
        refine A_goto (off := 112) (tgt := 407) (by decide +kernel) (by omega) ?_
        exact A_weak (lsub.keep (lsub.drop (lsub.drop (lsub.drop (lsub.drop (lsub.drop (lsub.keep (lsub.drop lsub.nil)))))))) h38
      · have h35 := h32.2 (lcmp_eq.mp (Decidable.not_not.mp b33))
        refine A_iconst (a := 1) (by decide +kernel) (by unfold in32; omega) ?_
        refine A_goto (off := 4) (tgt := 290) (by decide +kernel) (by omega) ?_
        refine A_cSl (args := [(0, 1)]) (st := []) (by decide +kernel) cv_m11_is st_m11_is lk_11_330 rfl (by omega) (Nat.le_of_ble_eq_true rfl) h35 (fun r39 M40 _ h41 => ?_)
        refine A_lstore (i := 6) (by decide +kernel) (by decide) (fun w h0 hw => by simp at hw; first | (rw [← hw]; decide) | (rw [← hw]; simp)) ?_
        refine A_goto (off := 112) (tgt := 407) (by decide +kernel) (by omega) ?_
        exact A_weak (lsub.keep (lsub.drop (lsub.drop (lsub.drop (lsub.drop (lsub.drop (lsub.keep (lsub.drop lsub.nil)))))))) h41
    · have h42 := h5.2.2.2.2.2.2.1 e6
      refine A_lkup (len := 98) (dflt := 314) (ps := #[(42, 116), (43, 98), (45, 107), (47, 151), (60, 168), (61, 208), (62, 188), (256, 228), (257, 268), (258, 248), (261, 288)]) (off := 188) (tgt := 258) (by decide +kernel) (by decide +kernel) (by rw [e6]; rfl) (by omega) ?_
      refine A_lload (i := 4) (by decide +kernel) rfl ?_
      refine A_lload_n (i := 2) (f := 2) rfl (by decide +kernel) rfl ?_
      refine A_lcmp (by decide +kernel) ?_
      refine A_if_le (off := 7) (tgt := 269) (by decide +kernel) (by omega) (fun b43 => ?_) (fun b43 => ?_)
      · have h44 := h42.1 (lcmp_le.mp b43)
        refine A_iconst (a := 0) (by decide +kernel) (by unfold in32; omega) ?_
        refine A_cSl (args := [(0, 0)]) (st := []) (by decide +kernel) cv_m11_is st_m11_is lk_11_330 rfl (by omega) (Nat.le_of_ble_eq_true rfl) h44 (fun r46 M47 _ h48 => ?_)
        refine A_lstore (i := 6) (by decide +kernel) (by decide) (fun w h0 hw => by simp at hw; first | (rw [← hw]; decide) | (rw [← hw]; simp)) ?_
        refine A_goto (off := 132) (tgt := 407) (by decide +kernel) (by omega) ?_
        exact A_weak (lsub.keep (lsub.drop (lsub.drop (lsub.drop (lsub.drop (lsub.drop (lsub.keep (lsub.drop lsub.nil)))))))) h48
      · have h45 := h42.2 (Int.not_le.mp (fun e => b43 (lcmp_le.mpr e)))
        refine A_iconst (a := 1) (by decide +kernel) (by unfold in32; omega) ?_
        refine A_goto (off := 4) (tgt := 270) (by decide +kernel) (by omega) ?_
        refine A_cSl (args := [(0, 1)]) (st := []) (by decide +kernel) cv_m11_is st_m11_is lk_11_330 rfl (by omega) (Nat.le_of_ble_eq_true rfl) h45 (fun r49 M50 _ h51 => ?_)
        refine A_lstore (i := 6) (by decide +kernel) (by decide) (fun w h0 hw => by simp at hw; first | (rw [← hw]; decide) | (rw [← hw]; simp)) ?_
        refine A_goto (off := 132) (tgt := 407) (by decide +kernel) (by omega) ?_
        exact A_weak (lsub.keep (lsub.drop (lsub.drop (lsub.drop (lsub.drop (lsub.drop (lsub.keep (lsub.drop lsub.nil)))))))) h51
    · have h52 := h5.2.2.2.2.2.2.2.1 e6
      refine A_lkup (len := 98) (dflt := 314) (ps := #[(42, 116), (43, 98), (45, 107), (47, 151), (60, 168), (61, 208), (62, 188), (256, 228), (257, 268), (258, 248), (261, 288)]) (off := 228) (tgt := 298) (by decide +kernel) (by decide +kernel) (by rw [e6]; rfl) (by omega) ?_
      refine A_lload (i := 4) (by decide +kernel) rfl ?_
      refine A_lload_n (i := 2) (f := 2) rfl (by decide +kernel) rfl ?_
      refine A_lcmp (by decide +kernel) ?_
      refine A_if_gt (off := 7) (tgt := 309) (by decide +kernel) (by omega) (fun b53 => ?_) (fun b53 => ?_)
      · have h54 := h52.1 (lcmp_gt.mp b53)
        refine A_iconst (a := 0) (by decide +kernel) (by unfold in32; omega) ?_
        refine A_cSl (args := [(0, 0)]) (st := []) (by decide +kernel) cv_m11_is st_m11_is lk_11_330 rfl (by omega) (Nat.le_of_ble_eq_true rfl) h54 (fun r56 M57 _ h58 => ?_)
        refine A_lstore (i := 6) (by decide +kernel) (by decide) (fun w h0 hw => by simp at hw; first | (rw [← hw]; decide) | (rw [← hw]; simp)) ?_
        refine A_goto (off := 92) (tgt := 407) (by decide +kernel) (by omega) ?_
        exact A_weak (lsub.keep (lsub.drop (lsub.drop (lsub.drop (lsub.drop (lsub.drop (lsub.keep (lsub.drop lsub.nil)))))))) h58
      · have h55 := h52.2 (Int.not_lt.mp (fun e => b53 (lcmp_gt.mpr e)))
        refine A_iconst (a := 1) (by decide +kernel) (by unfold in32; omega) ?_
        refine A_goto (off := 4) (tgt := 310) (by decide +kernel) (by omega) ?_
        refine A_cSl (args := [(0, 1)]) (st := []) (by decide +kernel) cv_m11_is st_m11_is lk_11_330 rfl (by omega) (Nat.le_of_ble_eq_true rfl) h55 (fun r59 M60 _ h61 => ?_)
        refine A_lstore (i := 6) (by decide +kernel) (by decide) (fun w h0 hw => by simp at hw; first | (rw [← hw]; decide) | (rw [← hw]; simp)) ?_
        refine A_goto (off := 92) (tgt := 407) (by decide +kernel) (by omega) ?_
        exact A_weak (lsub.keep (lsub.drop (lsub.drop (lsub.drop (lsub.drop (lsub.drop (lsub.keep (lsub.drop lsub.nil)))))))) h61
    · have h62 := h5.2.2.2.2.2.2.2.2.1 e6
      refine A_lkup (len := 98) (dflt := 314) (ps := #[(42, 116), (43, 98), (45, 107), (47, 151), (60, 168), (61, 208), (62, 188), (256, 228), (257, 268), (258, 248), (261, 288)]) (off := 268) (tgt := 338) (by decide +kernel) (by decide +kernel) (by rw [e6]; rfl) (by omega) ?_
      refine A_lload (i := 4) (by decide +kernel) rfl ?_
      refine A_lload_n (i := 2) (f := 2) rfl (by decide +kernel) rfl ?_
      refine A_lcmp (by decide +kernel) ?_
      refine A_if_eq (off := 7) (tgt := 349) (by decide +kernel) (by omega) (fun b63 => ?_) (fun b63 => ?_)
      · have h64 := h62.1 (lcmp_eq.mp b63)
        refine A_iconst (a := 0) (by decide +kernel) (by unfold in32; omega) ?_
        refine A_cSl (args := [(0, 0)]) (st := []) (by decide +kernel) cv_m11_is st_m11_is lk_11_330 rfl (by omega) (Nat.le_of_ble_eq_true rfl) h64 (fun r66 M67 _ h68 => ?_)
        refine A_lstore (i := 6) (by decide +kernel) (by decide) (fun w h0 hw => by simp at hw; first | (rw [← hw]; decide) | (rw [← hw]; simp)) ?_
        refine A_goto (off := 52) (tgt := 407) (by decide +kernel) (by omega) ?_
        exact A_weak (lsub.keep (lsub.drop (lsub.drop (lsub.drop (lsub.drop (lsub.drop (lsub.keep (lsub.drop lsub.nil)))))))) h68
      · have h65 := h62.2 (fun e => b63 (lcmp_eq.mpr e))
        refine A_iconst (a := 1) (by decide +kernel) (by unfold in32; omega) ?_
        refine A_goto (off := 4) (tgt := 350) (by decide +kernel) (by omega) ?_
        refine A_cSl (args := [(0, 1)]) (st := []) (by decide +kernel) cv_m11_is st_m11_is lk_11_330 rfl (by omega) (Nat.le_of_ble_eq_true rfl) h65 (fun r69 M70 _ h71 => ?_)
        refine A_lstore (i := 6) (by decide +kernel) (by decide) (fun w h0 hw => by simp at hw; first | (rw [← hw]; decide) | (rw [← hw]; simp)) ?_
        refine A_goto (off := 52) (tgt := 407) (by decide +kernel) (by omega) ?_
        exact A_weak (lsub.keep (lsub.drop (lsub.drop (lsub.drop (lsub.drop (lsub.drop (lsub.keep (lsub.drop lsub.nil)))))))) h71
    · have h72 := h5.2.2.2.2.2.2.2.2.2.1 e6
      refine A_lkup (len := 98) (dflt := 314) (ps := #[(42, 116), (43, 98), (45, 107), (47, 151), (60, 168), (61, 208), (62, 188), (256, 228), (257, 268), (258, 248), (261, 288)]) (off := 248) (tgt := 318) (by decide +kernel) (by decide +kernel) (by rw [e6]; rfl) (by omega) ?_
      refine A_lload (i := 4) (by decide +kernel) rfl ?_
      refine A_lload_n (i := 2) (f := 2) rfl (by decide +kernel) rfl ?_
      refine A_lcmp (by decide +kernel) ?_
      refine A_if_lt (off := 7) (tgt := 329) (by decide +kernel) (by omega) (fun b73 => ?_) (fun b73 => ?_)
      · have h74 := h72.1 (lcmp_lt.mp b73)
        refine A_iconst (a := 0) (by decide +kernel) (by unfold in32; omega) ?_
        refine A_cSl (args := [(0, 0)]) (st := []) (by decide +kernel) cv_m11_is st_m11_is lk_11_330 rfl (by omega) (Nat.le_of_ble_eq_true rfl) h74 (fun r76 M77 _ h78 => ?_)
        refine A_lstore (i := 6) (by decide +kernel) (by decide) (fun w h0 hw => by simp at hw; first | (rw [← hw]; decide) | (rw [← hw]; simp)) ?_
        refine A_goto (off := 72) (tgt := 407) (by decide +kernel) (by omega) ?_
        exact A_weak (lsub.keep (lsub.drop (lsub.drop (lsub.drop (lsub.drop (lsub.drop (lsub.keep (lsub.drop lsub.nil)))))))) h78
      · have h75 := h72.2 (Int.not_lt.mp (fun e => b73 (lcmp_lt.mpr e)))
        refine A_iconst (a := 1) (by decide +kernel) (by unfold in32; omega) ?_
        refine A_goto (off := 4) (tgt := 330) (by decide +kernel) (by omega) ?_
        refine A_cSl (args := [(0, 1)]) (st := []) (by decide +kernel) cv_m11_is st_m11_is lk_11_330 rfl (by omega) (Nat.le_of_ble_eq_true rfl) h75 (fun r79 M80 _ h81 => ?_)
        refine A_lstore (i := 6) (by decide +kernel) (by decide) (fun w h0 hw => by simp at hw; first | (rw [← hw]; decide) | (rw [← hw]; simp)) ?_
        refine A_goto (off := 72) (tgt := 407) (by decide +kernel) (by omega) ?_
        exact A_weak (lsub.keep (lsub.drop (lsub.drop (lsub.drop (lsub.drop (lsub.drop (lsub.keep (lsub.drop lsub.nil)))))))) h81
    · have h82 := h5.2.2.2.2.2.2.2.2.2.2.1 e6
      refine A_lkup (len := 98) (dflt := 314) (ps := #[(42, 116), (43, 98), (45, 107), (47, 151), (60, 168), (61, 208), (62, 188), (256, 228), (257, 268), (258, 248), (261, 288)]) (off := 288) (tgt := 358) (by decide +kernel) (by decide +kernel) (by rw [e6]; rfl) (by omega) ?_
      refine A_lload (i := 4) (by decide +kernel) rfl ?_
      refine A_lconst (n := 0) (a := 0) (by decide +kernel) (by unfold in64; omega) (by decide +kernel) ?_
      refine A_lcmp (by decide +kernel) ?_
      refine A_if_eq (off := 13) (tgt := 375) (by decide +kernel) (by omega) (fun b83 => ?_) (fun b83 => ?_)
      · have h84 := h82.1 (lcmp_eq.mp b83)
        exact A_weak (lsub.keep (lsub.drop (lsub.drop (lsub.drop (lsub.drop (lsub.drop (lsub.drop (lsub.drop lsub.nil)))))))) h84
      · have h85 := h82.2 (fun e => b83 (lcmp_eq.mpr e))
        refine A_lload_n (i := 2) (f := 2) rfl (by decide +kernel) rfl ?_
        refine A_lconst (n := 0) (a := 0) (by decide +kernel) (by unfold in64; omega) (by decide +kernel) ?_
        refine A_lcmp (by decide +kernel) ?_
        refine A_if_eq (off := 7) (tgt := 375) (by decide +kernel) (by omega) (fun b86 => ?_) (fun b86 => ?_)
        · have h87 := h85.1 (lcmp_eq.mp b86)
          exact A_weak (lsub.keep (lsub.drop (lsub.drop (lsub.drop (lsub.drop (lsub.drop (lsub.drop (lsub.drop lsub.nil)))))))) h87
        · have h88 := h85.2 (fun e => b86 (lcmp_eq.mpr e))
          refine A_iconst (a := 1) (by decide +kernel) (by unfold in32; omega) ?_
          refine A_goto (off := 4) (tgt := 376) (by decide +kernel) (by omega) ?_
          refine A_cSl (args := [(0, 1)]) (st := []) (by decide +kernel) cv_m11_is st_m11_is lk_11_330 rfl (by omega) (Nat.le_of_ble_eq_true rfl) h88 (fun r89 M90 _ h91 => ?_)
          refine A_lstore (i := 6) (by decide +kernel) (by decide) (fun w h0 hw => by simp at hw; first | (rw [← hw]; decide) | (rw [← hw]; simp)) ?_
          refine A_goto (off := 26) (tgt := 407) (by decide +kernel) (by omega) ?_
          exact A_weak (lsub.keep (lsub.drop (lsub.drop (lsub.drop (lsub.drop (lsub.drop (lsub.keep (lsub.drop lsub.nil)))))))) h91
    · have h92 := h5.2.2.2.2.2.2.2.2.2.2.2 e6
      refine A_lkup (len := 98) (dflt := 314) (ps := #[(42, 116), (43, 98), (45, 107), (47, 151), (60, 168), (61, 208), (62, 188), (256, 228), (257, 268), (258, 248), (261, 288)]) (off := 314) (tgt := 384) (by decide +kernel) (by decide +kernel) (by simp [Op.lookupswitch.offset, Ne.symm e6.1, Ne.symm e6.2.1, Ne.symm e6.2.2.1, Ne.symm e6.2.2.2.1, Ne.symm e6.2.2.2.2.1, Ne.symm e6.2.2.2.2.2.1, Ne.symm e6.2.2.2.2.2.2.1, Ne.symm e6.2.2.2.2.2.2.2.1, Ne.symm e6.2.2.2.2.2.2.2.2.1, Ne.symm e6.2.2.2.2.2.2.2.2.2.1, Ne.symm e6.2.2.2.2.2.2.2.2.2.2]) (by omega) ?_
      refine A_lload (i := 4) (by decide +kernel) rfl ?_
      refine A_lconst (n := 0) (a := 0) (by decide +kernel) (by unfold in64; omega) (by decide +kernel) ?_
      refine A_lcmp (by decide +kernel) ?_
      refine A_if_ne (off := 9) (tgt := 397) (by decide +kernel) (by omega) (fun b93 => ?_) (fun b93 => ?_)
      · have h94 := h92.1 (fun e => b93 (lcmp_eq.mpr e))
        exact A_weak (lsub.keep (lsub.drop (lsub.drop (lsub.drop (lsub.drop (lsub.drop (lsub.drop (lsub.drop lsub.nil)))))))) h94
      · have h95 := h92.2 (lcmp_eq.mp (Decidable.not_not.mp b93))
        refine A_lload_n (i := 2) (f := 2) rfl (by decide +kernel) rfl ?_
        refine A_lconst (n := 0) (a := 0) (by decide +kernel) (by unfold in64; omega) (by decide +kernel) ?_
        refine A_lcmp (by decide +kernel) ?_
        refine A_if_eq (off := 7) (tgt := 401) (by decide +kernel) (by omega) (fun b96 => ?_) (fun b96 => ?_)
        · have h97 := h95.1 (lcmp_eq.mp b96)
          refine A_iconst (a := 0) (by decide +kernel) (by unfold in32; omega) ?_
          refine A_cSl (args := [(0, 0)]) (st := []) (by decide +kernel) cv_m11_is st_m11_is lk_11_330 rfl (by omega) (Nat.le_of_ble_eq_true rfl) h97 (fun r99 M100 _ h101 => ?_)
          refine A_lstore (i := 6) (by decide +kernel) (by decide) (fun w h0 hw => by simp at hw; first | (rw [← hw]; decide) | (rw [← hw]; simp)) ?_
          exact A_weak (lsub.keep (lsub.drop (lsub.drop (lsub.drop (lsub.drop (lsub.drop (lsub.keep (lsub.drop lsub.nil)))))))) h101
        · have h98 := h95.2 (fun e => b96 (lcmp_eq.mpr e))
          exact A_weak (lsub.keep (lsub.drop (lsub.drop (lsub.drop (lsub.drop (lsub.drop (lsub.drop (lsub.drop lsub.nil)))))))) h98
  · have h4 := h1.2 (Decidable.not_not.mp b2)
    refine A_aload_n (i := 0) (f := 0) (by omega) rfl (by decide +kernel) rfl ?_
    refine B_getr (o' := ((78 : Nat) : Int)) (q := (RX11, TX11, 59)) (ci := 10) (j := 38) (by decide +kernel) rfl (by decide) rfl (by omega) fl_11_70 rfl ?_
    refine A_aload_n (i := 0) (f := 0) (by omega) rfl (by decide +kernel) rfl ?_
    refine B_getp (v := (M 59 39)) (q := (RX11, TX11, 59)) (ci := 10) (j := 39) (p := 39) (by decide +kernel) rfl (by decide) rfl (Or.inl rfl) fl_11_327 rfl ?_
    refine A_iconst (a := 1) (by decide +kernel) (by unfold in32; omega) ?_
    refine A_isub (by decide +kernel) ?_
    refine A_lload_n (i := 2) (f := 2) rfl (by decide +kernel) rfl ?_
    refine A_lconst (n := 0) (a := 0) (by decide +kernel) (by unfold in64; omega) (by decide +kernel) ?_
    refine A_lcmp (by decide +kernel) ?_
    refine A_if_ne (off := 7) (tgt := 39) (by decide +kernel) (by omega) (fun b102 => ?_) (fun b102 => ?_)
    · have h103 := h4.1 (fun e => b102 (lcmp_eq.mpr e))
      refine A_iconst (a := 0) (by decide +kernel) (by unfold in32; omega) ?_
      refine A_cSl (args := [(0, 0)]) (st := [(0, (w32 ((M 59 39) - 1))), (32, ((78 : Nat) : Int))]) (by decide +kernel) cv_m11_is st_m11_is lk_11_330 rfl (by omega) (Nat.le_of_ble_eq_true rfl) h103 (fun r105 M106 _ h107 => ?_)
      refine B_last (M' := (mset M106 78 ((w32 ((M 59 39) - 1))).toNat r105)) (by decide +kernel) h107.1 rfl ?_
      have h108 := h107.2
      refine A_iconst (a := 1) (by decide +kernel) (by unfold in32; omega) ?_
      exact A_ret ⟨by decide +kernel, Or.inr ⟨rfl, by decide⟩⟩ ⟨_, rfl, h108⟩
    · have h104 := h4.2 (lcmp_eq.mp (Decidable.not_not.mp b102))
      refine A_iconst (a := 1) (by decide +kernel) (by unfold in32; omega) ?_
      refine A_goto (off := 4) (tgt := 40) (by decide +kernel) (by omega) ?_
      refine A_cSl (args := [(0, 1)]) (st := [(0, (w32 ((M 59 39) - 1))), (32, ((78 : Nat) : Int))]) (by decide +kernel) cv_m11_is st_m11_is lk_11_330 rfl (by omega) (Nat.le_of_ble_eq_true rfl) h104 (fun r109 M110 _ h111 => ?_)
      refine B_last (M' := (mset M110 78 ((w32 ((M 59 39) - 1))).toNat r109)) (by decide +kernel) h111.1 rfl ?_
      have h112 := h111.2
      refine A_iconst (a := 1) (by decide +kernel) (by unfold in32; omega) ?_
      exact A_ret ⟨by decide +kernel, Or.inr ⟨rfl, by decide⟩⟩ ⟨_, rfl, h112⟩
theorem r_11_works_212 {x2 : Int} {x4 : Int} {M : Mem} {P : Int → Mem → Prop} (h : A m11_works 2 0 407 [(20, ((59 : Nat) : Int)), (2, 0), (2, 0), (2, 0), (2, 0), (2, 0), (1, (w64 (x4 * x2))), (2, 0)] [] M (Ki P)) : A m11_works 2 0 212 [(20, ((59 : Nat) : Int)), (2, 0), (1, x2), (2, 0), (1, x4), (2, 0), (2, 0), (2, 0)] [] M (Ki P) := by
  refine A_lload (i := 4) (by decide +kernel) rfl ?_
  refine A_lload_n (i := 2) (f := 2) rfl (by decide +kernel) rfl ?_
  refine A_lmul (by decide +kernel) ?_
  refine A_lstore (i := 6) (by decide +kernel) (by decide) (fun w h0 hw => by simp at hw; first | (rw [← hw]; decide) | (rw [← hw]; simp)) ?_
  refine A_goto (off := 189) (tgt := 407) (by decide +kernel) (by omega) ?_
  exact A_weak (lsub.keep (lsub.drop (lsub.drop (lsub.drop (lsub.drop (lsub.drop (lsub.keep (lsub.drop lsub.nil)))))))) h
theorem r_11_works_375  {M : Mem} {P : Int → Mem → Prop} (h : (CL m11_is 1 [(0, 0)] M (fun r1 M2 => A m11_works 2 0 407 [(20, ((59 : Nat) : Int)), (2, 0), (2, 0), (2, 0), (2, 0), (2, 0), (1, r1), (2, 0)] [] M2 (Ki P)))) : A m11_works 2 0 375 [(20, ((59 : Nat) : Int)), (2, 0), (2, 0), (2, 0), (2, 0), (2, 0), (2, 0), (2, 0)] [] M (Ki P) := by
  refine A_iconst (a := 0) (by decide +kernel) (by unfold in32; omega) ?_
  refine A_cSl (args := [(0, 0)]) (st := []) (by decide +kernel) cv_m11_is st_m11_is lk_11_330 rfl (by omega) (Nat.le_of_ble_eq_true rfl) h (fun r1 M2 _ h3 => ?_)
  refine A_lstore (i := 6) (by decide +kernel) (by decide) (fun w h0 hw => by simp at hw; first | (rw [← hw]; decide) | (rw [← hw]; simp)) ?_
  refine A_goto (off := 26) (tgt := 407) (by decide +kernel) (by omega) ?_
  exact A_weak (lsub.keep (lsub.drop (lsub.drop (lsub.drop (lsub.drop (lsub.drop (lsub.keep (lsub.drop lsub.nil)))))))) h3
theorem r_11_works_397  {M : Mem} {P : Int → Mem → Prop} (h : (CL m11_is 1 [(0, 1)] M (fun r1 M2 => A m11_works 2 0 407 [(20, ((59 : Nat) : Int)), (2, 0), (2, 0), (2, 0), (2, 0), (2, 0), (1, r1), (2, 0)] [] M2 (Ki P)))) : A m11_works 2 0 397 [(20, ((59 : Nat) : Int)), (2, 0), (2, 0), (2, 0), (2, 0), (2, 0), (2, 0), (2, 0)] [] M (Ki P) := by
  refine A_iconst (a := 1) (by decide +kernel) (by unfold in32; omega) ?_
  refine A_goto (off := 4) (tgt := 402) (by decide +kernel) (by omega) ?_
  refine A_cSl (args := [(0, 1)]) (st := []) (by decide +kernel) cv_m11_is st_m11_is lk_11_330 rfl (by omega) (Nat.le_of_ble_eq_true rfl) h (fun r1 M2 _ h3 => ?_)
  refine A_lstore (i := 6) (by decide +kernel) (by decide) (fun w h0 hw => by simp at hw; first | (rw [← hw]; decide) | (rw [← hw]; simp)) ?_
  exact A_weak (lsub.keep (lsub.drop (lsub.drop (lsub.drop (lsub.drop (lsub.drop (lsub.keep (lsub.drop lsub.nil)))))))) h3
theorem r_11_works_407 {x6 : Int} {M : Mem} {P : Int → Mem → Prop} (h : ((0 ≤ (w32 ((M 59 39) - 1)) ∧ (w32 ((M 59 39) - 1)) < 64) ∧ ((1000000000000 < x6 → A m11_works 2 0 442 [(2, 0), (2, 0), (2, 0), (2, 0), (2, 0), (2, 0), (2, 0), (2, 0)] [] (mset M 78 ((w32 ((M 59 39) - 1))).toNat x6) (Ki P)) ∧ (x6 ≤ 1000000000000 → ((x6 < (-1000000000000) → A m11_works 2 0 442 [(2, 0), (2, 0), (2, 0), (2, 0), (2, 0), (2, 0), (2, 0), (2, 0)] [] (mset M 78 ((w32 ((M 59 39) - 1))).toNat x6) (Ki P)) ∧ ((-1000000000000) ≤ x6 → (P 1 (mset M 78 ((w32 ((M 59 39) - 1))).toNat x6)))))))) : A m11_works 2 0 407 [(20, ((59 : Nat) : Int)), (2, 0), (2, 0), (2, 0), (2, 0), (2, 0), (1, x6), (2, 0)] [] M (Ki P) := by
  refine A_aload_n (i := 0) (f := 0) (by omega) rfl (by decide +kernel) rfl ?_
  refine B_getr (o' := ((78 : Nat) : Int)) (q := (RX11, TX11, 59)) (ci := 10) (j := 38) (by decide +kernel) rfl (by decide) rfl (by omega) fl_11_70 rfl ?_
  refine A_aload_n (i := 0) (f := 0) (by omega) rfl (by decide +kernel) rfl ?_
  refine B_getp (v := (M 59 39)) (q := (RX11, TX11, 59)) (ci := 10) (j := 39) (p := 39) (by decide +kernel) rfl (by decide) rfl (Or.inl rfl) fl_11_327 rfl ?_
  refine A_iconst (a := 1) (by decide +kernel) (by unfold in32; omega) ?_
  refine A_isub (by decide +kernel) ?_
  refine A_lload (i := 6) (by decide +kernel) rfl ?_
  refine B_last (M' := (mset M 78 ((w32 ((M 59 39) - 1))).toNat x6)) (by decide +kernel) h.1 rfl ?_
  have h1 := h.2
  refine A_lload (i := 6) (by decide +kernel) rfl ?_
  refine A_ldc2 (by decide +kernel) (by unfold in64; omega) kl_11_340 rfl ?_
  refine A_lcmp (by decide +kernel) ?_
  refine A_if_gt (off := 16) (tgt := 442) (by decide +kernel) (by omega) (fun b2 => ?_) (fun b2 => ?_)
  · have h3 := h1.1 (lcmp_gt.mp b2)
    exact A_weak (lsub.drop (lsub.drop (lsub.drop (lsub.drop (lsub.drop (lsub.drop (lsub.drop (lsub.drop lsub.nil)))))))) h3
  · have h4 := h1.2 (Int.not_lt.mp (fun e => b2 (lcmp_gt.mpr e)))
    refine A_lload (i := 6) (by decide +kernel) rfl ?_
    refine A_ldc2 (by decide +kernel) (by unfold in64; omega) kl_11_342 rfl ?_
    refine A_lcmp (by decide +kernel) ?_
    refine A_if_lt (off := 7) (tgt := 442) (by decide +kernel) (by omega) (fun b5 => ?_) (fun b5 => ?_)
    · have h6 := h4.1 (lcmp_lt.mp b5)
      exact A_weak (lsub.drop (lsub.drop (lsub.drop (lsub.drop (lsub.drop (lsub.drop (lsub.drop (lsub.drop lsub.nil)))))))) h6
    · have h7 := h4.2 (Int.not_lt.mp (fun e => b5 (lcmp_lt.mpr e)))
      refine A_iconst (a := 1) (by decide +kernel) (by unfold in32; omega) ?_
      refine A_goto (off := 4) (tgt := 443) (by decide +kernel) (by omega) ?_
      exact A_ret ⟨by decide +kernel, Or.inr ⟨rfl, by decide⟩⟩ ⟨_, rfl, h7⟩
theorem r_11_works_442  {M : Mem} {P : Int → Mem → Prop} (h : (P 0 M)) : A m11_works 2 0 442 [(2, 0), (2, 0), (2, 0), (2, 0), (2, 0), (2, 0), (2, 0), (2, 0)] [] M (Ki P) := by
  refine A_iconst (a := 0) (by decide +kernel) (by unfold in32; omega) ?_
  exact A_ret ⟨by decide +kernel, Or.inr ⟨rfl, by decide⟩⟩ ⟨_, rfl, h⟩
theorem q_11_goes {x1 : Int} {M : Mem} {P : Int → Mem → Prop} (h : ((0 ≤ x1 ∧ x1 < 12) ∧ A m11_goes 3 0 12 [(20, ((59 : Nat) : Int)), (0, x1), (0, ((mset M 59 39 0) 65 (x1).toNat))] [] (mset M 59 39 0) (Ki P))) : CI m11_goes 3 [(20, ((59 : Nat) : Int)), (0, x1)] M P := by
  refine CI_of (by decide +kernel) (Nat.le_of_ble_eq_true rfl) ?_
  show A m11_goes 3 0 0 [(20, ((59 : Nat) : Int)), (0, x1), (2, 0)] [] M (Ki P)
  refine A_aload_n (i := 0) (f := 0) (by omega) rfl (by decide +kernel) rfl ?_
  refine A_iconst (a := 0) (by decide +kernel) (by unfold in32; omega) ?_
  refine B_putp (M' := (mset M 59 39 0)) (q := (RX11, TX11, 59)) (ci := 10) (j := 39) (p := 39) (by decide +kernel) rfl (by decide) rfl (Or.inl ⟨rfl, rfl⟩) rfl fl_11_327 rfl ?_
  refine A_aload_n (i := 0) (f := 0) (by omega) rfl (by decide +kernel) rfl ?_
  refine B_getr (o' := ((65 : Nat) : Int)) (q := (RX11, TX11, 59)) (ci := 10) (j := 7) (by decide +kernel) rfl (by decide) rfl (by omega) fl_11_25 rfl ?_
  refine A_iload_n (i := 1) (f := 1) rfl (by decide +kernel) rfl ?_
  refine B_iald (v := ((mset M 59 39 0) 65 (x1).toNat)) (by decide +kernel) h.1 rfl ?_
  have h1 := h.2
  refine A_istore_n (i := 2) (f := 2) rfl (by decide +kernel) (by decide) (fun w h0 hw => by simp at hw; first | (rw [← hw]; decide) | (rw [← hw]; simp)) ?_
  exact A_weak (lsub.keep (lsub.keep (lsub.keep lsub.nil))) h1
theorem r_11_goes_12 {x1 : Int} {x2 : Int} {M : Mem} {P : Int → Mem → Prop} (h : ((0 ≤ x1 ∧ x1 < 12) ∧ (((M 66 (x1).toNat) ≤ x2 → (P 1 M)) ∧ (x2 < (M 66 (x1).toNat) → ((0 ≤ x2 ∧ x2 < 128) ∧ (((M 67 (x2).toNat) ≠ 2 → ((0 ≤ x2 ∧ x2 < 128) ∧ (((M 67 (x2).toNat) ≠ 0 → ((0 ≤ x2 ∧ x2 < 128) ∧ ((0 ≤ (M 68 (x2).toNat) ∧ (M 68 (x2).toNat) < 8) ∧ ((0 ≤ (M 59 39) ∧ (M 59 39) < 64) ∧ A m11_goes 3 0 12 [(20, ((59 : Nat) : Int)), (0, x1), (0, (w32 (x2 + 1)))] [] (mset (mset M 78 ((M 59 39)).toNat (M 77 ((M 68 (x2).toNat)).toNat)) 59 39 (w32 (((mset M 78 ((M 59 39)).toNat (M 77 ((M 68 (x2).toNat)).toNat)) 59 39) + 1))) (Ki P))))) ∧ ((M 67 (x2).toNat) = 0 → ((0 ≤ x2 ∧ x2 < 128) ∧ ((0 ≤ (M 59 39) ∧ (M 59 39) < 64) ∧ A m11_goes 3 0 12 [(20, ((59 : Nat) : Int)), (0, x1), (0, (w32 (x2 + 1)))] [] (mset (mset M 78 ((M 59 39)).toNat (M 68 (x2).toNat)) 59 39 (w32 (((mset M 78 ((M 59 39)).toNat (M 68 (x2).toNat)) 59 39) + 1))) (Ki P))))))) ∧ ((M 67 (x2).toNat) = 2 → ((0 ≤ x2 ∧ x2 < 128) ∧ (CI m11_works 2 [(20, ((59 : Nat) : Int)), (0, (M 68 (x2).toNat))] M (fun r19 M20 => ((r19 ≠ 0 → A m11_goes 3 0 12 [(20, ((59 : Nat) : Int)), (0, x1), (0, (w32 (x2 + 1)))] [] M20 (Ki P)) ∧ (r19 = 0 → (P 0 M20))))))))))))) : A m11_goes 3 0 12 [(20, ((59 : Nat) : Int)), (0, x1), (0, x2)] [] M (Ki P) := by
  refine A_iload_n (i := 2) (f := 2) rfl (by decide +kernel) rfl ?_
  refine A_aload_n (i := 0) (f := 0) (by omega) rfl (by decide +kernel) rfl ?_
  refine B_getr (o' := ((66 : Nat) : Int)) (q := (RX11, TX11, 59)) (ci := 10) (j := 8) (by decide +kernel) rfl (by decide) rfl (by omega) fl_11_28 rfl ?_
  refine A_iload_n (i := 1) (f := 1) rfl (by decide +kernel) rfl ?_
  refine B_iald (v := (M 66 (x1).toNat)) (by decide +kernel) h.1 rfl ?_
  have h1 := h.2
  refine A_ic_ge (off := 83) (tgt := 102) (by decide +kernel) (by omega) (fun b2 => ?_) (fun b2 => ?_)
  · have h3 := h1.1 b2
    refine A_iconst (a := 1) (by decide +kernel) (by unfold in32; omega) ?_
    exact A_ret ⟨by decide +kernel, Or.inr ⟨rfl, by decide⟩⟩ ⟨_, rfl, h3⟩
  · have h4 := h1.2 (Int.not_le.mp b2)
    refine A_aload_n (i := 0) (f := 0) (by omega) rfl (by decide +kernel) rfl ?_
    refine B_getr (o' := ((67 : Nat) : Int)) (q := (RX11, TX11, 59)) (ci := 10) (j := 9) (by decide +kernel) rfl (by decide) rfl (by omega) fl_11_31 rfl ?_
    refine A_iload_n (i := 2) (f := 2) rfl (by decide +kernel) rfl ?_
    refine B_iald (v := (M 67 (x2).toNat)) (by decide +kernel) h4.1 rfl ?_
    have h5 := h4.2
    refine A_iconst (a := 2) (by decide +kernel) (by unfold in32; omega) ?_
    refine A_ic_ne (off := 18) (tgt := 47) (by decide +kernel) (by omega) (fun b6 => ?_) (fun b6 => ?_)
    · have h7 := h5.1 b6
      refine A_aload_n (i := 0) (f := 0) (by omega) rfl (by decide +kernel) rfl ?_
      refine B_getr (o' := ((78 : Nat) : Int)) (q := (RX11, TX11, 59)) (ci := 10) (j := 38) (by decide +kernel) rfl (by decide) rfl (by omega) fl_11_70 rfl ?_
      refine A_aload_n (i := 0) (f := 0) (by omega) rfl (by decide +kernel) rfl ?_
      refine B_getp (v := (M 59 39)) (q := (RX11, TX11, 59)) (ci := 10) (j := 39) (p := 39) (by decide +kernel) rfl (by decide) rfl (Or.inl rfl) fl_11_327 rfl ?_
      refine A_aload_n (i := 0) (f := 0) (by omega) rfl (by decide +kernel) rfl ?_
      refine B_getr (o' := ((67 : Nat) : Int)) (q := (RX11, TX11, 59)) (ci := 10) (j := 9) (by decide +kernel) rfl (by decide) rfl (by omega) fl_11_31 rfl ?_
      refine A_iload_n (i := 2) (f := 2) rfl (by decide +kernel) rfl ?_
      refine B_iald (v := (M 67 (x2).toNat)) (by decide +kernel) h7.1 rfl ?_
      have h9 := h7.2
      refine A_if_ne (off := 13) (tgt := 74) (by decide +kernel) (by omega) (fun b10 => ?_) (fun b10 => ?_)
      · have h11 := h9.1 b10
        refine A_aload_n (i := 0) (f := 0) (by omega) rfl (by decide +kernel) rfl ?_
        refine B_getr (o' := ((77 : Nat) : Int)) (q := (RX11, TX11, 59)) (ci := 10) (j := 37) (by decide +kernel) rfl (by decide) rfl (by omega) fl_11_66 rfl ?_
        refine A_aload_n (i := 0) (f := 0) (by omega) rfl (by decide +kernel) rfl ?_
        refine B_getr (o' := ((68 : Nat) : Int)) (q := (RX11, TX11, 59)) (ci := 10) (j := 10) (by decide +kernel) rfl (by decide) rfl (by omega) fl_11_34 rfl ?_
        refine A_iload_n (i := 2) (f := 2) rfl (by decide +kernel) rfl ?_
        refine B_iald (v := (M 68 (x2).toNat)) (by decide +kernel) h11.1 rfl ?_
        have h13 := h11.2
        refine B_lald (v := (M 77 ((M 68 (x2).toNat)).toNat)) (by decide +kernel) h13.1 rfl ?_
        have h14 := h13.2
        refine B_last (M' := (mset M 78 ((M 59 39)).toNat (M 77 ((M 68 (x2).toNat)).toNat))) (by decide +kernel) h14.1 rfl ?_
        have h15 := h14.2
        refine A_aload_n (i := 0) (f := 0) (by omega) rfl (by decide +kernel) rfl ?_
        refine A_dup (by decide +kernel) (by simp) ?_
        refine B_getp (v := ((mset M 78 ((M 59 39)).toNat (M 77 ((M 68 (x2).toNat)).toNat)) 59 39)) (q := (RX11, TX11, 59)) (ci := 10) (j := 39) (p := 39) (by decide +kernel) rfl (by decide) rfl (Or.inl rfl) fl_11_327 rfl ?_
        refine A_iconst (a := 1) (by decide +kernel) (by unfold in32; omega) ?_
        refine A_iadd (by decide +kernel) ?_
        refine B_putp (M' := (mset (mset M 78 ((M 59 39)).toNat (M 77 ((M 68 (x2).toNat)).toNat)) 59 39 (w32 (((mset M 78 ((M 59 39)).toNat (M 77 ((M 68 (x2).toNat)).toNat)) 59 39) + 1)))) (q := (RX11, TX11, 59)) (ci := 10) (j := 39) (p := 39) (by decide +kernel) rfl (by decide) rfl (Or.inl ⟨rfl, rfl⟩) rfl fl_11_327 rfl ?_
        refine A_iinc (i := 2) (n := 1) (by decide +kernel) (by decide) rfl (fun w h0 hw => by simp at hw; first | (rw [← hw]; decide) | (rw [← hw]; simp)) ?_
        refine A_goto (off := (-87)) (tgt := 12) (by decide +kernel) (by omega) ?_
        exact A_weak (lsub.keep (lsub.keep (lsub.keep lsub.nil))) h15
      · have h12 := h9.2 (Decidable.not_not.mp b10)
        refine A_aload_n (i := 0) (f := 0) (by omega) rfl (by decide +kernel) rfl ?_
        refine B_getr (o' := ((68 : Nat) : Int)) (q := (RX11, TX11, 59)) (ci := 10) (j := 10) (by decide +kernel) rfl (by decide) rfl (by omega) fl_11_34 rfl ?_
        refine A_iload_n (i := 2) (f := 2) rfl (by decide +kernel) rfl ?_
        refine B_iald (v := (M 68 (x2).toNat)) (by decide +kernel) h12.1 rfl ?_
        have h16 := h12.2
        refine A_i2l (by decide +kernel) ?_
        refine A_goto (off := 14) (tgt := 85) (by decide +kernel) (by omega) ?_
        refine B_last (M' := (mset M 78 ((M 59 39)).toNat (M 68 (x2).toNat))) (by decide +kernel) h16.1 rfl ?_
        have h17 := h16.2
        refine A_aload_n (i := 0) (f := 0) (by omega) rfl (by decide +kernel) rfl ?_
        refine A_dup (by decide +kernel) (by simp) ?_
        refine B_getp (v := ((mset M 78 ((M 59 39)).toNat (M 68 (x2).toNat)) 59 39)) (q := (RX11, TX11, 59)) (ci := 10) (j := 39) (p := 39) (by decide +kernel) rfl (by decide) rfl (Or.inl rfl) fl_11_327 rfl ?_
        refine A_iconst (a := 1) (by decide +kernel) (by unfold in32; omega) ?_
        refine A_iadd (by decide +kernel) ?_
        refine B_putp (M' := (mset (mset M 78 ((M 59 39)).toNat (M 68 (x2).toNat)) 59 39 (w32 (((mset M 78 ((M 59 39)).toNat (M 68 (x2).toNat)) 59 39) + 1)))) (q := (RX11, TX11, 59)) (ci := 10) (j := 39) (p := 39) (by decide +kernel) rfl (by decide) rfl (Or.inl ⟨rfl, rfl⟩) rfl fl_11_327 rfl ?_
        refine A_iinc (i := 2) (n := 1) (by decide +kernel) (by decide) rfl (fun w h0 hw => by simp at hw; first | (rw [← hw]; decide) | (rw [← hw]; simp)) ?_
        refine A_goto (off := (-87)) (tgt := 12) (by decide +kernel) (by omega) ?_
        exact A_weak (lsub.keep (lsub.keep (lsub.keep lsub.nil))) h17
    · have h8 := h5.2 (Decidable.not_not.mp b6)
      refine A_aload_n (i := 0) (f := 0) (by omega) rfl (by decide +kernel) rfl ?_
      refine A_aload_n (i := 0) (f := 0) (by omega) rfl (by decide +kernel) rfl ?_
      refine B_getr (o' := ((68 : Nat) : Int)) (q := (RX11, TX11, 59)) (ci := 10) (j := 10) (by decide +kernel) rfl (by decide) rfl (by omega) fl_11_34 rfl ?_
      refine A_iload_n (i := 2) (f := 2) rfl (by decide +kernel) rfl ?_
      refine B_iald (v := (M 68 (x2).toNat)) (by decide +kernel) h8.1 rfl ?_
      have h18 := h8.2
      refine A_cVi (q := (RX11, TX11, 59)) (ci := 10) (o := ((59 : Nat) : Int)) (args := [(0, (M 68 (x2).toNat))]) (st := []) (by decide +kernel) cv_m11_works rfl rfl in_m11_works se_m11_works lk_11_344 rfl (by omega) (Nat.le_of_ble_eq_true rfl) h18 (fun r19 M20 _ h21 => ?_)
      refine A_if_ne (off := 54) (tgt := 96) (by decide +kernel) (by omega) (fun b22 => ?_) (fun b22 => ?_)
      · have h23 := h21.1 b22
        refine A_iinc (i := 2) (n := 1) (by decide +kernel) (by decide) rfl (fun w h0 hw => by simp at hw; first | (rw [← hw]; decide) | (rw [← hw]; simp)) ?_
        refine A_goto (off := (-87)) (tgt := 12) (by decide +kernel) (by omega) ?_
        exact A_weak (lsub.keep (lsub.keep (lsub.keep lsub.nil))) h23
      · have h24 := h21.2 (Decidable.not_not.mp b22)
        refine A_iconst (a := 0) (by decide +kernel) (by unfold in32; omega) ?_
        exact A_ret ⟨by decide +kernel, Or.inr ⟨rfl, by decide⟩⟩ ⟨_, rfl, h24⟩
theorem q_11_isSaying {x1 : Int} {x2 : Int} {x3 : Int} {M : Mem} {P : Int → Mem → Prop} (h : (CI m11_areTwo 2 [(20, ((59 : Nat) : Int)), (0, x1), (0, x2)] M (fun r1 M2 => ((r1 = 0 → (P 0 M2)) ∧ (r1 ≠ 0 → (CI m11_areTwo 2 [(20, ((59 : Nat) : Int)), (0, x1), (0, x3)] M2 (fun r7 M8 => ((r7 = 0 → (P 0 M8)) ∧ (r7 ≠ 0 → (P 1 M8)))))))))) : CI m11_isSaying 3 [(20, ((59 : Nat) : Int)), (0, x1), (0, x2), (0, x3)] M P := by
  refine CI_of (by decide +kernel) (Nat.le_of_ble_eq_true rfl) ?_
  show A m11_isSaying 3 0 0 [(20, ((59 : Nat) : Int)), (0, x1), (0, x2), (0, x3)] [] M (Ki P)
  refine A_aload_n (i := 0) (f := 0) (by omega) rfl (by decide +kernel) rfl ?_
  refine A_iload_n (i := 1) (f := 1) rfl (by decide +kernel) rfl ?_
  refine A_iload_n (i := 2) (f := 2) rfl (by decide +kernel) rfl ?_
  refine A_cVi (q := (RX11, TX11, 59)) (ci := 10) (o := ((59 : Nat) : Int)) (args := [(0, x1), (0, x2)]) (st := []) (by decide +kernel) cv_m11_areTwo rfl rfl in_m11_areTwo se_m11_areTwo lk_11_312 rfl (by omega) (Nat.le_of_ble_eq_true rfl) h (fun r1 M2 _ h3 => ?_)
  refine A_if_eq (off := 16) (tgt := 22) (by decide +kernel) (by omega) (fun b4 => ?_) (fun b4 => ?_)
  · have h5 := h3.1 b4
    refine A_iconst (a := 0) (by decide +kernel) (by unfold in32; omega) ?_
    exact A_ret ⟨by decide +kernel, Or.inr ⟨rfl, by decide⟩⟩ ⟨_, rfl, h5⟩
  · have h6 := h3.2 b4
    refine A_aload_n (i := 0) (f := 0) (by omega) rfl (by decide +kernel) rfl ?_
    refine A_iload_n (i := 1) (f := 1) rfl (by decide +kernel) rfl ?_
    refine A_iload_n (i := 3) (f := 3) rfl (by decide +kernel) rfl ?_
    refine A_cVi (q := (RX11, TX11, 59)) (ci := 10) (o := ((59 : Nat) : Int)) (args := [(0, x1), (0, x3)]) (st := []) (by decide +kernel) cv_m11_areTwo rfl rfl in_m11_areTwo se_m11_areTwo lk_11_312 rfl (by omega) (Nat.le_of_ble_eq_true rfl) h6 (fun r7 M8 _ h9 => ?_)
    refine A_if_eq (off := 7) (tgt := 22) (by decide +kernel) (by omega) (fun b10 => ?_) (fun b10 => ?_)
    · have h11 := h9.1 b10
      refine A_iconst (a := 0) (by decide +kernel) (by unfold in32; omega) ?_
      exact A_ret ⟨by decide +kernel, Or.inr ⟨rfl, by decide⟩⟩ ⟨_, rfl, h11⟩
    · have h12 := h9.2 b10
      refine A_iconst (a := 1) (by decide +kernel) (by unfold in32; omega) ?_
      refine A_goto (off := 4) (tgt := 23) (by decide +kernel) (by omega) ?_
      exact A_ret ⟨by decide +kernel, Or.inr ⟨rfl, by decide⟩⟩ ⟨_, rfl, h12⟩
theorem q_11_calls {x1 : Int} {x2 : Int} {x3 : Int} {x4 : Int} {x5 : Int} {x6 : Int} {x7 : Int} {M : Mem} {P : Mem → Prop} (h : ((0 ≤ x2 ∧ x2 < 10) ∧ ((0 ≤ x1 ∧ x1 < 10) ∧ ((((mset (mset (mset M 77 0 x5) 77 1 x6) 77 2 x7) 63 (x2).toNat) ≤ ((mset (mset (mset M 77 0 x5) 77 1 x6) 77 2 x7) 63 (x1).toNat) → (CL m11_is 1 [(0, 0)] (mset (mset (mset M 77 0 x5) 77 1 x6) 77 2 x7) (fun r6 M7 => ((0 ≤ x3 ∧ x3 < 10) ∧ ((0 ≤ x2 ∧ x2 < 10) ∧ ((((mset M7 77 3 r6) 63 (x3).toNat) ≤ ((mset M7 77 3 r6) 63 (x2).toNat) → (CL m11_is 1 [(0, 0)] (mset M7 77 3 r6) (fun r14 M15 => ((x3 ≠ x2 → (CL m11_is 1 [(0, 0)] (mset (mset M15 77 4 r14) 77 5 x4) (fun r20 M21 => (P (mset (mset M21 77 6 r20) 77 7 0))))) ∧ (x3 = x2 → (CL m11_is 1 [(0, 1)] (mset (mset M15 77 4 r14) 77 5 x4) (fun r23 M24 => (P (mset (mset M24 77 6 r23) 77 7 0))))))))) ∧ (((mset M7 77 3 r6) 63 (x2).toNat) < ((mset M7 77 3 r6) 63 (x3).toNat) → (CL m11_is 1 [(0, 1)] (mset M7 77 3 r6) (fun r26 M27 => ((x3 ≠ x2 → (CL m11_is 1 [(0, 0)] (mset (mset M27 77 4 r26) 77 5 x4) (fun r32 M33 => (P (mset (mset M33 77 6 r32) 77 7 0))))) ∧ (x3 = x2 → (CL m11_is 1 [(0, 1)] (mset (mset M27 77 4 r26) 77 5 x4) (fun r35 M36 => (P (mset (mset M36 77 6 r35) 77 7 0))))))))))))))) ∧ (((mset (mset (mset M 77 0 x5) 77 1 x6) 77 2 x7) 63 (x1).toNat) < ((mset (mset (mset M 77 0 x5) 77 1 x6) 77 2 x7) 63 (x2).toNat) → (CL m11_is 1 [(0, 1)] (mset (mset (mset M 77 0 x5) 77 1 x6) 77 2 x7) (fun r38 M39 => ((0 ≤ x3 ∧ x3 < 10) ∧ ((0 ≤ x2 ∧ x2 < 10) ∧ ((((mset M39 77 3 r38) 63 (x3).toNat) ≤ ((mset M39 77 3 r38) 63 (x2).toNat) → (CL m11_is 1 [(0, 0)] (mset M39 77 3 r38) (fun r46 M47 => ((x3 ≠ x2 → (CL m11_is 1 [(0, 0)] (mset (mset M47 77 4 r46) 77 5 x4) (fun r52 M53 => (P (mset (mset M53 77 6 r52) 77 7 0))))) ∧ (x3 = x2 → (CL m11_is 1 [(0, 1)] (mset (mset M47 77 4 r46) 77 5 x4) (fun r55 M56 => (P (mset (mset M56 77 6 r55) 77 7 0))))))))) ∧ (((mset M39 77 3 r38) 63 (x2).toNat) < ((mset M39 77 3 r38) 63 (x3).toNat) → (CL m11_is 1 [(0, 1)] (mset M39 77 3 r38) (fun r58 M59 => ((x3 ≠ x2 → (CL m11_is 1 [(0, 0)] (mset (mset M59 77 4 r58) 77 5 x4) (fun r64 M65 => (P (mset (mset M65 77 6 r64) 77 7 0))))) ∧ (x3 = x2 → (CL m11_is 1 [(0, 1)] (mset (mset M59 77 4 r58) 77 5 x4) (fun r67 M68 => (P (mset (mset M68 77 6 r67) 77 7 0))))))))))))))))))) : CD m11_calls 2 [(20, ((59 : Nat) : Int)), (0, x1), (0, x2), (0, x3), (0, x4), (0, x5), (0, x6), (0, x7)] M P := by
  refine CD_of (by decide +kernel) (Nat.le_of_ble_eq_true rfl) ?_
  show A m11_calls 2 0 0 [(20, ((59 : Nat) : Int)), (0, x1), (0, x2), (0, x3), (0, x4), (0, x5), (0, x6), (0, x7)] [] M (Kd P)
  refine A_aload_n (i := 0) (f := 0) (by omega) rfl (by decide +kernel) rfl ?_
  refine B_getr (o' := ((77 : Nat) : Int)) (q := (RX11, TX11, 59)) (ci := 10) (j := 37) (by decide +kernel) rfl (by decide) rfl (by omega) fl_11_66 rfl ?_
  refine A_iconst (a := 0) (by decide +kernel) (by unfold in32; omega) ?_
  refine A_iload (i := 5) (by decide +kernel) rfl ?_
  refine A_i2l (by decide +kernel) ?_
  refine B_last (M' := (mset M 77 0 x5)) (by decide +kernel) (by decide) rfl ?_
  refine A_aload_n (i := 0) (f := 0) (by omega) rfl (by decide +kernel) rfl ?_
  refine B_getr (o' := ((77 : Nat) : Int)) (q := (RX11, TX11, 59)) (ci := 10) (j := 37) (by decide +kernel) rfl (by decide) rfl (by omega) fl_11_66 rfl ?_
  refine A_iconst (a := 1) (by decide +kernel) (by unfold in32; omega) ?_
  refine A_iload (i := 6) (by decide +kernel) rfl ?_
  refine A_i2l (by decide +kernel) ?_
  refine B_last (M' := (mset (mset M 77 0 x5) 77 1 x6)) (by decide +kernel) (by decide) rfl ?_
  refine A_aload_n (i := 0) (f := 0) (by omega) rfl (by decide +kernel) rfl ?_
  refine B_getr (o' := ((77 : Nat) : Int)) (q := (RX11, TX11, 59)) (ci := 10) (j := 37) (by decide +kernel) rfl (by decide) rfl (by omega) fl_11_66 rfl ?_
  refine A_iconst (a := 2) (by decide +kernel) (by unfold in32; omega) ?_
  refine A_iload (i := 7) (by decide +kernel) rfl ?_
  refine A_i2l (by decide +kernel) ?_
  refine B_last (M' := (mset (mset (mset M 77 0 x5) 77 1 x6) 77 2 x7)) (by decide +kernel) (by decide) rfl ?_
  refine A_aload_n (i := 0) (f := 0) (by omega) rfl (by decide +kernel) rfl ?_
  refine B_getr (o' := ((77 : Nat) : Int)) (q := (RX11, TX11, 59)) (ci := 10) (j := 37) (by decide +kernel) rfl (by decide) rfl (by omega) fl_11_66 rfl ?_
  refine A_iconst (a := 3) (by decide +kernel) (by unfold in32; omega) ?_
  refine A_aload_n (i := 0) (f := 0) (by omega) rfl (by decide +kernel) rfl ?_
  refine B_getr (o' := ((63 : Nat) : Int)) (q := (RX11, TX11, 59)) (ci := 10) (j := 5) (by decide +kernel) rfl (by decide) rfl (by omega) fl_11_19 rfl ?_
  refine A_iload_n (i := 2) (f := 2) rfl (by decide +kernel) rfl ?_
  refine B_iald (v := ((mset (mset (mset M 77 0 x5) 77 1 x6) 77 2 x7) 63 (x2).toNat)) (by decide +kernel) h.1 rfl ?_
  have h1 := h.2
  refine A_aload_n (i := 0) (f := 0) (by omega) rfl (by decide +kernel) rfl ?_
  refine B_getr (o' := ((63 : Nat) : Int)) (q := (RX11, TX11, 59)) (ci := 10) (j := 5) (by decide +kernel) rfl (by decide) rfl (by omega) fl_11_19 rfl ?_
  refine A_iload_n (i := 1) (f := 1) rfl (by decide +kernel) rfl ?_
  refine B_iald (v := ((mset (mset (mset M 77 0 x5) 77 1 x6) 77 2 x7) 63 (x1).toNat)) (by decide +kernel) h1.1 rfl ?_
  have h2 := h1.2
  refine A_ic_le (off := 7) (tgt := 51) (by decide +kernel) (by omega) (fun b3 => ?_) (fun b3 => ?_)
  · have h4 := h2.1 b3
    refine A_iconst (a := 0) (by decide +kernel) (by unfold in32; omega) ?_
    refine A_cSl (args := [(0, 0)]) (st := [(0, 3), (32, ((77 : Nat) : Int))]) (by decide +kernel) cv_m11_is st_m11_is lk_11_330 rfl (by omega) (Nat.le_of_ble_eq_true rfl) h4 (fun r6 M7 _ h8 => ?_)
    refine B_last (M' := (mset M7 77 3 r6)) (by decide +kernel) (by decide) rfl ?_
    refine A_aload_n (i := 0) (f := 0) (by omega) rfl (by decide +kernel) rfl ?_
    refine B_getr (o' := ((77 : Nat) : Int)) (q := (RX11, TX11, 59)) (ci := 10) (j := 37) (by decide +kernel) rfl (by decide) rfl (by omega) fl_11_66 rfl ?_
    refine A_iconst (a := 4) (by decide +kernel) (by unfold in32; omega) ?_
    refine A_aload_n (i := 0) (f := 0) (by omega) rfl (by decide +kernel) rfl ?_
    refine B_getr (o' := ((63 : Nat) : Int)) (q := (RX11, TX11, 59)) (ci := 10) (j := 5) (by decide +kernel) rfl (by decide) rfl (by omega) fl_11_19 rfl ?_
    refine A_iload_n (i := 3) (f := 3) rfl (by decide +kernel) rfl ?_
    refine B_iald (v := ((mset M7 77 3 r6) 63 (x3).toNat)) (by decide +kernel) h8.1 rfl ?_
    have h9 := h8.2
    refine A_aload_n (i := 0) (f := 0) (by omega) rfl (by decide +kernel) rfl ?_
    refine B_getr (o' := ((63 : Nat) : Int)) (q := (RX11, TX11, 59)) (ci := 10) (j := 5) (by decide +kernel) rfl (by decide) rfl (by omega) fl_11_19 rfl ?_
    refine A_iload_n (i := 2) (f := 2) rfl (by decide +kernel) rfl ?_
    refine B_iald (v := ((mset M7 77 3 r6) 63 (x2).toNat)) (by decide +kernel) h9.1 rfl ?_
    have h10 := h9.2
    refine A_ic_le (off := 7) (tgt := 80) (by decide +kernel) (by omega) (fun b11 => ?_) (fun b11 => ?_)
    · have h12 := h10.1 b11
      refine A_iconst (a := 0) (by decide +kernel) (by unfold in32; omega) ?_
      refine A_cSl (args := [(0, 0)]) (st := [(0, 4), (32, ((77 : Nat) : Int))]) (by decide +kernel) cv_m11_is st_m11_is lk_11_330 rfl (by omega) (Nat.le_of_ble_eq_true rfl) h12 (fun r14 M15 _ h16 => ?_)
      refine B_last (M' := (mset M15 77 4 r14)) (by decide +kernel) (by decide) rfl ?_
      refine A_aload_n (i := 0) (f := 0) (by omega) rfl (by decide +kernel) rfl ?_
      refine B_getr (o' := ((77 : Nat) : Int)) (q := (RX11, TX11, 59)) (ci := 10) (j := 37) (by decide +kernel) rfl (by decide) rfl (by omega) fl_11_66 rfl ?_
      refine A_iconst (a := 5) (by decide +kernel) (by unfold in32; omega) ?_
      refine A_iload (i := 4) (by decide +kernel) rfl ?_
      refine A_i2l (by decide +kernel) ?_
      refine B_last (M' := (mset (mset M15 77 4 r14) 77 5 x4)) (by decide +kernel) (by decide) rfl ?_
      refine A_aload_n (i := 0) (f := 0) (by omega) rfl (by decide +kernel) rfl ?_
      refine B_getr (o' := ((77 : Nat) : Int)) (q := (RX11, TX11, 59)) (ci := 10) (j := 37) (by decide +kernel) rfl (by decide) rfl (by omega) fl_11_66 rfl ?_
      refine A_bipush (a := 6) (by decide +kernel) (by unfold in32; omega) (by decide +kernel) ?_
      refine A_iload_n (i := 3) (f := 3) rfl (by decide +kernel) rfl ?_
      refine A_iload_n (i := 2) (f := 2) rfl (by decide +kernel) rfl ?_
      refine A_ic_ne (off := 7) (tgt := 109) (by decide +kernel) (by omega) (fun b17 => ?_) (fun b17 => ?_)
      · have h18 := h16.1 b17
        refine A_iconst (a := 0) (by decide +kernel) (by unfold in32; omega) ?_
        refine A_cSl (args := [(0, 0)]) (st := [(0, 6), (32, ((77 : Nat) : Int))]) (by decide +kernel) cv_m11_is st_m11_is lk_11_330 rfl (by omega) (Nat.le_of_ble_eq_true rfl) h18 (fun r20 M21 _ h22 => ?_)
        refine B_last (M' := (mset M21 77 6 r20)) (by decide +kernel) (by decide) rfl ?_
        refine A_aload_n (i := 0) (f := 0) (by omega) rfl (by decide +kernel) rfl ?_
        refine B_getr (o' := ((77 : Nat) : Int)) (q := (RX11, TX11, 59)) (ci := 10) (j := 37) (by decide +kernel) rfl (by decide) rfl (by omega) fl_11_66 rfl ?_
        refine A_bipush (a := 7) (by decide +kernel) (by unfold in32; omega) (by decide +kernel) ?_
        refine A_lconst (n := 0) (a := 0) (by decide +kernel) (by unfold in64; omega) (by decide +kernel) ?_
        refine B_last (M' := (mset (mset M21 77 6 r20) 77 7 0)) (by decide +kernel) (by decide) rfl ?_
        exact A_ret ⟨by decide +kernel, rfl⟩ ⟨rfl, h22⟩
      · have h19 := h16.2 (Decidable.not_not.mp b17)
        refine A_iconst (a := 1) (by decide +kernel) (by unfold in32; omega) ?_
        refine A_goto (off := 4) (tgt := 110) (by decide +kernel) (by omega) ?_
        refine A_cSl (args := [(0, 1)]) (st := [(0, 6), (32, ((77 : Nat) : Int))]) (by decide +kernel) cv_m11_is st_m11_is lk_11_330 rfl (by omega) (Nat.le_of_ble_eq_true rfl) h19 (fun r23 M24 _ h25 => ?_)
        refine B_last (M' := (mset M24 77 6 r23)) (by decide +kernel) (by decide) rfl ?_
        refine A_aload_n (i := 0) (f := 0) (by omega) rfl (by decide +kernel) rfl ?_
        refine B_getr (o' := ((77 : Nat) : Int)) (q := (RX11, TX11, 59)) (ci := 10) (j := 37) (by decide +kernel) rfl (by decide) rfl (by omega) fl_11_66 rfl ?_
        refine A_bipush (a := 7) (by decide +kernel) (by unfold in32; omega) (by decide +kernel) ?_
        refine A_lconst (n := 0) (a := 0) (by decide +kernel) (by unfold in64; omega) (by decide +kernel) ?_
        refine B_last (M' := (mset (mset M24 77 6 r23) 77 7 0)) (by decide +kernel) (by decide) rfl ?_
        exact A_ret ⟨by decide +kernel, rfl⟩ ⟨rfl, h25⟩
    · have h13 := h10.2 (Int.not_le.mp b11)
      refine A_iconst (a := 1) (by decide +kernel) (by unfold in32; omega) ?_
      refine A_goto (off := 4) (tgt := 81) (by decide +kernel) (by omega) ?_
      refine A_cSl (args := [(0, 1)]) (st := [(0, 4), (32, ((77 : Nat) : Int))]) (by decide +kernel) cv_m11_is st_m11_is lk_11_330 rfl (by omega) (Nat.le_of_ble_eq_true rfl) h13 (fun r26 M27 _ h28 => ?_)
      refine B_last (M' := (mset M27 77 4 r26)) (by decide +kernel) (by decide) rfl ?_
      refine A_aload_n (i := 0) (f := 0) (by omega) rfl (by decide +kernel) rfl ?_
      refine B_getr (o' := ((77 : Nat) : Int)) (q := (RX11, TX11, 59)) (ci := 10) (j := 37) (by decide +kernel) rfl (by decide) rfl (by omega) fl_11_66 rfl ?_
      refine A_iconst (a := 5) (by decide +kernel) (by unfold in32; omega) ?_
      refine A_iload (i := 4) (by decide +kernel) rfl ?_
      refine A_i2l (by decide +kernel) ?_
      refine B_last (M' := (mset (mset M27 77 4 r26) 77 5 x4)) (by decide +kernel) (by decide) rfl ?_
      refine A_aload_n (i := 0) (f := 0) (by omega) rfl (by decide +kernel) rfl ?_
      refine B_getr (o' := ((77 : Nat) : Int)) (q := (RX11, TX11, 59)) (ci := 10) (j := 37) (by decide +kernel) rfl (by decide) rfl (by omega) fl_11_66 rfl ?_
      refine A_bipush (a := 6) (by decide +kernel) (by unfold in32; omega) (by decide +kernel) ?_
      refine A_iload_n (i := 3) (f := 3) rfl (by decide +kernel) rfl ?_
      refine A_iload_n (i := 2) (f := 2) rfl (by decide +kernel) rfl ?_
      refine A_ic_ne (off := 7) (tgt := 109) (by decide +kernel) (by omega) (fun b29 => ?_) (fun b29 => ?_)
      · have h30 := h28.1 b29
        refine A_iconst (a := 0) (by decide +kernel) (by unfold in32; omega) ?_
        refine A_cSl (args := [(0, 0)]) (st := [(0, 6), (32, ((77 : Nat) : Int))]) (by decide +kernel) cv_m11_is st_m11_is lk_11_330 rfl (by omega) (Nat.le_of_ble_eq_true rfl) h30 (fun r32 M33 _ h34 => ?_)
        refine B_last (M' := (mset M33 77 6 r32)) (by decide +kernel) (by decide) rfl ?_
        refine A_aload_n (i := 0) (f := 0) (by omega) rfl (by decide +kernel) rfl ?_
        refine B_getr (o' := ((77 : Nat) : Int)) (q := (RX11, TX11, 59)) (ci := 10) (j := 37) (by decide +kernel) rfl (by decide) rfl (by omega) fl_11_66 rfl ?_
        refine A_bipush (a := 7) (by decide +kernel) (by unfold in32; omega) (by decide +kernel) ?_
        refine A_lconst (n := 0) (a := 0) (by decide +kernel) (by unfold in64; omega) (by decide +kernel) ?_
        refine B_last (M' := (mset (mset M33 77 6 r32) 77 7 0)) (by decide +kernel) (by decide) rfl ?_
        exact A_ret ⟨by decide +kernel, rfl⟩ ⟨rfl, h34⟩
      · have h31 := h28.2 (Decidable.not_not.mp b29)
        refine A_iconst (a := 1) (by decide +kernel) (by unfold in32; omega) ?_
        refine A_goto (off := 4) (tgt := 110) (by decide +kernel) (by omega) ?_
        refine A_cSl (args := [(0, 1)]) (st := [(0, 6), (32, ((77 : Nat) : Int))]) (by decide +kernel) cv_m11_is st_m11_is lk_11_330 rfl (by omega) (Nat.le_of_ble_eq_true rfl) h31 (fun r35 M36 _ h37 => ?_)
        refine B_last (M' := (mset M36 77 6 r35)) (by decide +kernel) (by decide) rfl ?_
        refine A_aload_n (i := 0) (f := 0) (by omega) rfl (by decide +kernel) rfl ?_
        refine B_getr (o' := ((77 : Nat) : Int)) (q := (RX11, TX11, 59)) (ci := 10) (j := 37) (by decide +kernel) rfl (by decide) rfl (by omega) fl_11_66 rfl ?_
        refine A_bipush (a := 7) (by decide +kernel) (by unfold in32; omega) (by decide +kernel) ?_
        refine A_lconst (n := 0) (a := 0) (by decide +kernel) (by unfold in64; omega) (by decide +kernel) ?_
        refine B_last (M' := (mset (mset M36 77 6 r35) 77 7 0)) (by decide +kernel) (by decide) rfl ?_
        exact A_ret ⟨by decide +kernel, rfl⟩ ⟨rfl, h37⟩
  · have h5 := h2.2 (Int.not_le.mp b3)
    refine A_iconst (a := 1) (by decide +kernel) (by unfold in32; omega) ?_
    refine A_goto (off := 4) (tgt := 52) (by decide +kernel) (by omega) ?_
    refine A_cSl (args := [(0, 1)]) (st := [(0, 3), (32, ((77 : Nat) : Int))]) (by decide +kernel) cv_m11_is st_m11_is lk_11_330 rfl (by omega) (Nat.le_of_ble_eq_true rfl) h5 (fun r38 M39 _ h40 => ?_)
    refine B_last (M' := (mset M39 77 3 r38)) (by decide +kernel) (by decide) rfl ?_
    refine A_aload_n (i := 0) (f := 0) (by omega) rfl (by decide +kernel) rfl ?_
    refine B_getr (o' := ((77 : Nat) : Int)) (q := (RX11, TX11, 59)) (ci := 10) (j := 37) (by decide +kernel) rfl (by decide) rfl (by omega) fl_11_66 rfl ?_
    refine A_iconst (a := 4) (by decide +kernel) (by unfold in32; omega) ?_
    refine A_aload_n (i := 0) (f := 0) (by omega) rfl (by decide +kernel) rfl ?_
    refine B_getr (o' := ((63 : Nat) : Int)) (q := (RX11, TX11, 59)) (ci := 10) (j := 5) (by decide +kernel) rfl (by decide) rfl (by omega) fl_11_19 rfl ?_
    refine A_iload_n (i := 3) (f := 3) rfl (by decide +kernel) rfl ?_
    refine B_iald (v := ((mset M39 77 3 r38) 63 (x3).toNat)) (by decide +kernel) h40.1 rfl ?_
    have h41 := h40.2
    refine A_aload_n (i := 0) (f := 0) (by omega) rfl (by decide +kernel) rfl ?_
    refine B_getr (o' := ((63 : Nat) : Int)) (q := (RX11, TX11, 59)) (ci := 10) (j := 5) (by decide +kernel) rfl (by decide) rfl (by omega) fl_11_19 rfl ?_
    refine A_iload_n (i := 2) (f := 2) rfl (by decide +kernel) rfl ?_
    refine B_iald (v := ((mset M39 77 3 r38) 63 (x2).toNat)) (by decide +kernel) h41.1 rfl ?_
    have h42 := h41.2
    refine A_ic_le (off := 7) (tgt := 80) (by decide +kernel) (by omega) (fun b43 => ?_) (fun b43 => ?_)
    · have h44 := h42.1 b43
      refine A_iconst (a := 0) (by decide +kernel) (by unfold in32; omega) ?_
      refine A_cSl (args := [(0, 0)]) (st := [(0, 4), (32, ((77 : Nat) : Int))]) (by decide +kernel) cv_m11_is st_m11_is lk_11_330 rfl (by omega) (Nat.le_of_ble_eq_true rfl) h44 (fun r46 M47 _ h48 => ?_)
      refine B_last (M' := (mset M47 77 4 r46)) (by decide +kernel) (by decide) rfl ?_
      refine A_aload_n (i := 0) (f := 0) (by omega) rfl (by decide +kernel) rfl ?_
      refine B_getr (o' := ((77 : Nat) : Int)) (q := (RX11, TX11, 59)) (ci := 10) (j := 37) (by decide +kernel) rfl (by decide) rfl (by omega) fl_11_66 rfl ?_
      refine A_iconst (a := 5) (by decide +kernel) (by unfold in32; omega) ?_
      refine A_iload (i := 4) (by decide +kernel) rfl ?_
      refine A_i2l (by decide +kernel) ?_
      refine B_last (M' := (mset (mset M47 77 4 r46) 77 5 x4)) (by decide +kernel) (by decide) rfl ?_
      refine A_aload_n (i := 0) (f := 0) (by omega) rfl (by decide +kernel) rfl ?_
      refine B_getr (o' := ((77 : Nat) : Int)) (q := (RX11, TX11, 59)) (ci := 10) (j := 37) (by decide +kernel) rfl (by decide) rfl (by omega) fl_11_66 rfl ?_
      refine A_bipush (a := 6) (by decide +kernel) (by unfold in32; omega) (by decide +kernel) ?_
      refine A_iload_n (i := 3) (f := 3) rfl (by decide +kernel) rfl ?_
      refine A_iload_n (i := 2) (f := 2) rfl (by decide +kernel) rfl ?_
      refine A_ic_ne (off := 7) (tgt := 109) (by decide +kernel) (by omega) (fun b49 => ?_) (fun b49 => ?_)
      · have h50 := h48.1 b49
        refine A_iconst (a := 0) (by decide +kernel) (by unfold in32; omega) ?_
        refine A_cSl (args := [(0, 0)]) (st := [(0, 6), (32, ((77 : Nat) : Int))]) (by decide +kernel) cv_m11_is st_m11_is lk_11_330 rfl (by omega) (Nat.le_of_ble_eq_true rfl) h50 (fun r52 M53 _ h54 => ?_)
        refine B_last (M' := (mset M53 77 6 r52)) (by decide +kernel) (by decide) rfl ?_
        refine A_aload_n (i := 0) (f := 0) (by omega) rfl (by decide +kernel) rfl ?_
        refine B_getr (o' := ((77 : Nat) : Int)) (q := (RX11, TX11, 59)) (ci := 10) (j := 37) (by decide +kernel) rfl (by decide) rfl (by omega) fl_11_66 rfl ?_
        refine A_bipush (a := 7) (by decide +kernel) (by unfold in32; omega) (by decide +kernel) ?_
        refine A_lconst (n := 0) (a := 0) (by decide +kernel) (by unfold in64; omega) (by decide +kernel) ?_
        refine B_last (M' := (mset (mset M53 77 6 r52) 77 7 0)) (by decide +kernel) (by decide) rfl ?_
        exact A_ret ⟨by decide +kernel, rfl⟩ ⟨rfl, h54⟩
      · have h51 := h48.2 (Decidable.not_not.mp b49)
        refine A_iconst (a := 1) (by decide +kernel) (by unfold in32; omega) ?_
        refine A_goto (off := 4) (tgt := 110) (by decide +kernel) (by omega) ?_
        refine A_cSl (args := [(0, 1)]) (st := [(0, 6), (32, ((77 : Nat) : Int))]) (by decide +kernel) cv_m11_is st_m11_is lk_11_330 rfl (by omega) (Nat.le_of_ble_eq_true rfl) h51 (fun r55 M56 _ h57 => ?_)
        refine B_last (M' := (mset M56 77 6 r55)) (by decide +kernel) (by decide) rfl ?_
        refine A_aload_n (i := 0) (f := 0) (by omega) rfl (by decide +kernel) rfl ?_
        refine B_getr (o' := ((77 : Nat) : Int)) (q := (RX11, TX11, 59)) (ci := 10) (j := 37) (by decide +kernel) rfl (by decide) rfl (by omega) fl_11_66 rfl ?_
        refine A_bipush (a := 7) (by decide +kernel) (by unfold in32; omega) (by decide +kernel) ?_
        refine A_lconst (n := 0) (a := 0) (by decide +kernel) (by unfold in64; omega) (by decide +kernel) ?_
        refine B_last (M' := (mset (mset M56 77 6 r55) 77 7 0)) (by decide +kernel) (by decide) rfl ?_
        exact A_ret ⟨by decide +kernel, rfl⟩ ⟨rfl, h57⟩
    · have h45 := h42.2 (Int.not_le.mp b43)
      refine A_iconst (a := 1) (by decide +kernel) (by unfold in32; omega) ?_
      refine A_goto (off := 4) (tgt := 81) (by decide +kernel) (by omega) ?_
      refine A_cSl (args := [(0, 1)]) (st := [(0, 4), (32, ((77 : Nat) : Int))]) (by decide +kernel) cv_m11_is st_m11_is lk_11_330 rfl (by omega) (Nat.le_of_ble_eq_true rfl) h45 (fun r58 M59 _ h60 => ?_)
      refine B_last (M' := (mset M59 77 4 r58)) (by decide +kernel) (by decide) rfl ?_
      refine A_aload_n (i := 0) (f := 0) (by omega) rfl (by decide +kernel) rfl ?_
      refine B_getr (o' := ((77 : Nat) : Int)) (q := (RX11, TX11, 59)) (ci := 10) (j := 37) (by decide +kernel) rfl (by decide) rfl (by omega) fl_11_66 rfl ?_
      refine A_iconst (a := 5) (by decide +kernel) (by unfold in32; omega) ?_
      refine A_iload (i := 4) (by decide +kernel) rfl ?_
      refine A_i2l (by decide +kernel) ?_
      refine B_last (M' := (mset (mset M59 77 4 r58) 77 5 x4)) (by decide +kernel) (by decide) rfl ?_
      refine A_aload_n (i := 0) (f := 0) (by omega) rfl (by decide +kernel) rfl ?_
      refine B_getr (o' := ((77 : Nat) : Int)) (q := (RX11, TX11, 59)) (ci := 10) (j := 37) (by decide +kernel) rfl (by decide) rfl (by omega) fl_11_66 rfl ?_
      refine A_bipush (a := 6) (by decide +kernel) (by unfold in32; omega) (by decide +kernel) ?_
      refine A_iload_n (i := 3) (f := 3) rfl (by decide +kernel) rfl ?_
      refine A_iload_n (i := 2) (f := 2) rfl (by decide +kernel) rfl ?_
      refine A_ic_ne (off := 7) (tgt := 109) (by decide +kernel) (by omega) (fun b61 => ?_) (fun b61 => ?_)
      · have h62 := h60.1 b61
        refine A_iconst (a := 0) (by decide +kernel) (by unfold in32; omega) ?_
        refine A_cSl (args := [(0, 0)]) (st := [(0, 6), (32, ((77 : Nat) : Int))]) (by decide +kernel) cv_m11_is st_m11_is lk_11_330 rfl (by omega) (Nat.le_of_ble_eq_true rfl) h62 (fun r64 M65 _ h66 => ?_)
        refine B_last (M' := (mset M65 77 6 r64)) (by decide +kernel) (by decide) rfl ?_
        refine A_aload_n (i := 0) (f := 0) (by omega) rfl (by decide +kernel) rfl ?_
        refine B_getr (o' := ((77 : Nat) : Int)) (q := (RX11, TX11, 59)) (ci := 10) (j := 37) (by decide +kernel) rfl (by decide) rfl (by omega) fl_11_66 rfl ?_
        refine A_bipush (a := 7) (by decide +kernel) (by unfold in32; omega) (by decide +kernel) ?_
        refine A_lconst (n := 0) (a := 0) (by decide +kernel) (by unfold in64; omega) (by decide +kernel) ?_
        refine B_last (M' := (mset (mset M65 77 6 r64) 77 7 0)) (by decide +kernel) (by decide) rfl ?_
        exact A_ret ⟨by decide +kernel, rfl⟩ ⟨rfl, h66⟩
      · have h63 := h60.2 (Decidable.not_not.mp b61)
        refine A_iconst (a := 1) (by decide +kernel) (by unfold in32; omega) ?_
        refine A_goto (off := 4) (tgt := 110) (by decide +kernel) (by omega) ?_
        refine A_cSl (args := [(0, 1)]) (st := [(0, 6), (32, ((77 : Nat) : Int))]) (by decide +kernel) cv_m11_is st_m11_is lk_11_330 rfl (by omega) (Nat.le_of_ble_eq_true rfl) h63 (fun r67 M68 _ h69 => ?_)
        refine B_last (M' := (mset M68 77 6 r67)) (by decide +kernel) (by decide) rfl ?_
        refine A_aload_n (i := 0) (f := 0) (by omega) rfl (by decide +kernel) rfl ?_
        refine B_getr (o' := ((77 : Nat) : Int)) (q := (RX11, TX11, 59)) (ci := 10) (j := 37) (by decide +kernel) rfl (by decide) rfl (by omega) fl_11_66 rfl ?_
        refine A_bipush (a := 7) (by decide +kernel) (by unfold in32; omega) (by decide +kernel) ?_
        refine A_lconst (n := 0) (a := 0) (by decide +kernel) (by unfold in64; omega) (by decide +kernel) ?_
        refine B_last (M' := (mset (mset M68 77 6 r67) 77 7 0)) (by decide +kernel) (by decide) rfl ?_
        exact A_ret ⟨by decide +kernel, rfl⟩ ⟨rfl, h69⟩
theorem q_11_over {x1 : Int} {x2 : Int} {M : Mem} {P : Int → Mem → Prop} (h : (CI m11_pair 1 [(0, x1), (0, x2)] M (fun r1 M2 => ((0 ≤ r1 ∧ r1 < 25) ∧ (((M2 74 (r1).toNat) = 0 → (CI m11_pair 1 [(0, x2), (0, x1)] M2 (fun r8 M9 => ((0 ≤ r8 ∧ r8 < 25) ∧ (((M9 74 (r8).toNat) = 0 → (P 0 M9)) ∧ ((M9 74 (r8).toNat) ≠ 0 → (P (-1) M9))))))) ∧ ((M2 74 (r1).toNat) ≠ 0 → (P 1 M2))))))) : CI m11_over 2 [(20, ((59 : Nat) : Int)), (0, x1), (0, x2)] M P := by
  refine CI_of (by decide +kernel) (Nat.le_of_ble_eq_true rfl) ?_
  show A m11_over 2 0 0 [(20, ((59 : Nat) : Int)), (0, x1), (0, x2)] [] M (Ki P)
  refine A_aload_n (i := 0) (f := 0) (by omega) rfl (by decide +kernel) rfl ?_
  refine B_getr (o' := ((74 : Nat) : Int)) (q := (RX11, TX11, 59)) (ci := 10) (j := 29) (by decide +kernel) rfl (by decide) rfl (by omega) fl_11_57 rfl ?_
  refine A_iload_n (i := 1) (f := 1) rfl (by decide +kernel) rfl ?_
  refine A_iload_n (i := 2) (f := 2) rfl (by decide +kernel) rfl ?_
  refine A_cSi (args := [(0, x1), (0, x2)]) (st := [(31, ((74 : Nat) : Int))]) (by decide +kernel) cv_m11_pair st_m11_pair lk_11_242 rfl (by omega) (Nat.le_of_ble_eq_true rfl) h (fun r1 M2 _ h3 => ?_)
  refine B_zald (v := (M2 74 (r1).toNat)) (by decide +kernel) h3.1 rfl ?_
  have h4 := h3.2
  refine A_if_eq (off := 7) (tgt := 17) (by decide +kernel) (by omega) (fun b5 => ?_) (fun b5 => ?_)
  · have h6 := h4.1 b5
    refine A_aload_n (i := 0) (f := 0) (by omega) rfl (by decide +kernel) rfl ?_
    refine B_getr (o' := ((74 : Nat) : Int)) (q := (RX11, TX11, 59)) (ci := 10) (j := 29) (by decide +kernel) rfl (by decide) rfl (by omega) fl_11_57 rfl ?_
    refine A_iload_n (i := 2) (f := 2) rfl (by decide +kernel) rfl ?_
    refine A_iload_n (i := 1) (f := 1) rfl (by decide +kernel) rfl ?_
    refine A_cSi (args := [(0, x2), (0, x1)]) (st := [(31, ((74 : Nat) : Int))]) (by decide +kernel) cv_m11_pair st_m11_pair lk_11_242 rfl (by omega) (Nat.le_of_ble_eq_true rfl) h6 (fun r8 M9 _ h10 => ?_)
    refine B_zald (v := (M9 74 (r8).toNat)) (by decide +kernel) h10.1 rfl ?_
    have h11 := h10.2
    refine A_if_eq (off := 7) (tgt := 34) (by decide +kernel) (by omega) (fun b12 => ?_) (fun b12 => ?_)
    · have h13 := h11.1 b12
      refine A_iconst (a := 0) (by decide +kernel) (by unfold in32; omega) ?_
      exact A_ret ⟨by decide +kernel, Or.inl rfl⟩ ⟨_, rfl, h13⟩
    · have h14 := h11.2 b12
      refine A_iconst (a := (-1)) (by decide +kernel) (by unfold in32; omega) ?_
      refine A_goto (off := 4) (tgt := 35) (by decide +kernel) (by omega) ?_
      exact A_ret ⟨by decide +kernel, Or.inl rfl⟩ ⟨_, rfl, h14⟩
  · have h7 := h4.2 b5
    refine A_iconst (a := 1) (by decide +kernel) (by unfold in32; omega) ?_
    refine A_goto (off := 21) (tgt := 35) (by decide +kernel) (by omega) ?_
    exact A_ret ⟨by decide +kernel, Or.inl rfl⟩ ⟨_, rfl, h7⟩
theorem q_11_callsLaid {x1 : Int} {x2 : Int} {x3 : Int} {x4 : Int} {M : Mem} {P : Mem → Prop} (h : (CI m11_over 2 [(20, ((59 : Nat) : Int)), (0, x2), (0, x1)] M (fun r1 M2 => (CI m11_over 2 [(20, ((59 : Nat) : Int)), (0, x3), (0, x1)] M2 (fun r4 M5 => (CI m11_over 2 [(20, ((59 : Nat) : Int)), (0, x3), (0, x2)] M5 (fun r7 M8 => (CD m11_calls 2 [(20, ((59 : Nat) : Int)), (0, x1), (0, x2), (0, x3), (0, x4), (0, r1), (0, r4), (0, r7)] M8 (fun M11 => (P M11)))))))))) : CD m11_callsLaid 3 [(20, ((59 : Nat) : Int)), (0, x1), (0, x2), (0, x3), (0, x4)] M P := by
  refine CD_of (by decide +kernel) (Nat.le_of_ble_eq_true rfl) ?_
  show A m11_callsLaid 3 0 0 [(20, ((59 : Nat) : Int)), (0, x1), (0, x2), (0, x3), (0, x4)] [] M (Kd P)
  refine A_aload_n (i := 0) (f := 0) (by omega) rfl (by decide +kernel) rfl ?_
  refine A_iload_n (i := 1) (f := 1) rfl (by decide +kernel) rfl ?_
  refine A_iload_n (i := 2) (f := 2) rfl (by decide +kernel) rfl ?_
  refine A_iload_n (i := 3) (f := 3) rfl (by decide +kernel) rfl ?_
  refine A_iload (i := 4) (by decide +kernel) rfl ?_
  refine A_aload_n (i := 0) (f := 0) (by omega) rfl (by decide +kernel) rfl ?_
  refine A_iload_n (i := 2) (f := 2) rfl (by decide +kernel) rfl ?_
  refine A_iload_n (i := 1) (f := 1) rfl (by decide +kernel) rfl ?_
  refine A_cVi (q := (RX11, TX11, 59)) (ci := 10) (o := ((59 : Nat) : Int)) (args := [(0, x2), (0, x1)]) (st := [(0, x4), (0, x3), (0, x2), (0, x1), (20, ((59 : Nat) : Int))]) (by decide +kernel) cv_m11_over rfl rfl in_m11_over se_m11_over lk_11_347 rfl (by omega) (Nat.le_of_ble_eq_true rfl) h (fun r1 M2 _ h3 => ?_)
  refine A_aload_n (i := 0) (f := 0) (by omega) rfl (by decide +kernel) rfl ?_
  refine A_iload_n (i := 3) (f := 3) rfl (by decide +kernel) rfl ?_
  refine A_iload_n (i := 1) (f := 1) rfl (by decide +kernel) rfl ?_
  refine A_cVi (q := (RX11, TX11, 59)) (ci := 10) (o := ((59 : Nat) : Int)) (args := [(0, x3), (0, x1)]) (st := [(0, r1), (0, x4), (0, x3), (0, x2), (0, x1), (20, ((59 : Nat) : Int))]) (by decide +kernel) cv_m11_over rfl rfl in_m11_over se_m11_over lk_11_347 rfl (by omega) (Nat.le_of_ble_eq_true rfl) h3 (fun r4 M5 _ h6 => ?_)
  refine A_aload_n (i := 0) (f := 0) (by omega) rfl (by decide +kernel) rfl ?_
  refine A_iload_n (i := 3) (f := 3) rfl (by decide +kernel) rfl ?_
  refine A_iload_n (i := 2) (f := 2) rfl (by decide +kernel) rfl ?_
  refine A_cVi (q := (RX11, TX11, 59)) (ci := 10) (o := ((59 : Nat) : Int)) (args := [(0, x3), (0, x2)]) (st := [(0, r4), (0, r1), (0, x4), (0, x3), (0, x2), (0, x1), (20, ((59 : Nat) : Int))]) (by decide +kernel) cv_m11_over rfl rfl in_m11_over se_m11_over lk_11_347 rfl (by omega) (Nat.le_of_ble_eq_true rfl) h6 (fun r7 M8 _ h9 => ?_)
  refine A_cVd (q := (RX11, TX11, 59)) (ci := 10) (o := ((59 : Nat) : Int)) (args := [(0, x1), (0, x2), (0, x3), (0, x4), (0, r1), (0, r4), (0, r7)]) (st := []) (by decide +kernel) cv_m11_calls rfl rfl in_m11_calls se_m11_calls lk_11_350 rfl (by omega) (Nat.le_of_ble_eq_true rfl) h9 (fun M11 h12 => ?_)
  exact A_ret ⟨by decide +kernel, rfl⟩ ⟨rfl, h12⟩
theorem q_11_arrange  {M : Mem} {P : Mem → Prop} (h : A m11_arrange 4 0 9 [(20, ((59 : Nat) : Int)), (0, (M 61 2)), (0, 0), (2, 0)] [] M (Kd P)) : CD m11_arrange 4 [(20, ((59 : Nat) : Int))] M P := by
  refine CD_of (by decide +kernel) (Nat.le_of_ble_eq_true rfl) ?_
  show A m11_arrange 4 0 0 [(20, ((59 : Nat) : Int)), (2, 0), (2, 0), (2, 0)] [] M (Kd P)
  refine A_aload_n (i := 0) (f := 0) (by omega) rfl (by decide +kernel) rfl ?_
  refine B_getr (o' := ((61 : Nat) : Int)) (q := (RX11, TX11, 59)) (ci := 10) (j := 3) (by decide +kernel) rfl (by decide) rfl (by omega) fl_11_13 rfl ?_
  refine A_iconst (a := 2) (by decide +kernel) (by unfold in32; omega) ?_
  refine B_iald (v := (M 61 2)) (by decide +kernel) (by decide) rfl ?_
  refine A_istore_n (i := 1) (f := 1) rfl (by decide +kernel) (by decide) (fun w h0 hw => by simp at hw; first | (rw [← hw]; decide) | (rw [← hw]; simp)) ?_
  refine A_iconst (a := 0) (by decide +kernel) (by unfold in32; omega) ?_
  refine A_istore_n (i := 2) (f := 2) rfl (by decide +kernel) (by decide) (fun w h0 hw => by simp at hw; first | (rw [← hw]; decide) | (rw [← hw]; simp)) ?_
  exact A_weak (lsub.keep (lsub.keep (lsub.keep (lsub.drop lsub.nil)))) h
theorem r_11_arrange_9 {x1 : Int} {x2 : Int} {M : Mem} {P : Mem → Prop} (h : ((x1 ≤ x2 → (P M)) ∧ (x2 < x1 → (CI m11_goes 3 [(20, ((59 : Nat) : Int)), (0, x2)] M (fun r4 M5 => ((r4 = 0 → ((0 ≤ x2 ∧ x2 < 5) ∧ A m11_arrange 4 0 40 [(20, ((59 : Nat) : Int)), (0, x1), (0, x2), (0, x2)] [] (mset M5 79 (x2).toNat 0) (Kd P))) ∧ (r4 ≠ 0 → ((0 ≤ x2 ∧ x2 < 5) ∧ A m11_arrange 4 0 40 [(20, ((59 : Nat) : Int)), (0, x1), (0, x2), (0, x2)] [] (mset M5 79 (x2).toNat (M5 78 0)) (Kd P))))))))) : A m11_arrange 4 0 9 [(20, ((59 : Nat) : Int)), (0, x1), (0, x2), (2, 0)] [] M (Kd P) := by
  refine A_iload_n (i := 2) (f := 2) rfl (by decide +kernel) rfl ?_
  refine A_iload_n (i := 1) (f := 1) rfl (by decide +kernel) rfl ?_
  refine A_ic_ge (off := 89) (tgt := 100) (by decide +kernel) (by omega) (fun b1 => ?_) (fun b1 => ?_)
  · have h2 := h.1 b1
    exact A_ret ⟨by decide +kernel, rfl⟩ ⟨rfl, h2⟩
  · have h3 := h.2 (Int.not_le.mp b1)
    refine A_aload_n (i := 0) (f := 0) (by omega) rfl (by decide +kernel) rfl ?_
    refine B_getr (o' := ((79 : Nat) : Int)) (q := (RX11, TX11, 59)) (ci := 10) (j := 40) (by decide +kernel) rfl (by decide) rfl (by omega) fl_11_73 rfl ?_
    refine A_iload_n (i := 2) (f := 2) rfl (by decide +kernel) rfl ?_
    refine A_aload_n (i := 0) (f := 0) (by omega) rfl (by decide +kernel) rfl ?_
    refine A_iload_n (i := 2) (f := 2) rfl (by decide +kernel) rfl ?_
    refine A_cVi (q := (RX11, TX11, 59)) (ci := 10) (o := ((59 : Nat) : Int)) (args := [(0, x2)]) (st := [(0, x2), (32, ((79 : Nat) : Int))]) (by decide +kernel) cv_m11_goes rfl rfl in_m11_goes se_m11_goes lk_11_354 rfl (by omega) (Nat.le_of_ble_eq_true rfl) h3 (fun r4 M5 _ h6 => ?_)
    refine A_if_eq (off := 12) (tgt := 36) (by decide +kernel) (by omega) (fun b7 => ?_) (fun b7 => ?_)
    · have h8 := h6.1 b7
      refine A_lconst (n := 0) (a := 0) (by decide +kernel) (by unfold in64; omega) (by decide +kernel) ?_
      refine B_last (M' := (mset M5 79 (x2).toNat 0)) (by decide +kernel) h8.1 rfl ?_
      have h10 := h8.2
      refine A_iload_n (i := 2) (f := 2) rfl (by decide +kernel) rfl ?_
      refine A_istore_n (i := 3) (f := 3) rfl (by decide +kernel) (by decide) (fun w h0 hw => by simp at hw; first | (rw [← hw]; decide) | (rw [← hw]; simp)) ?_
      exact A_weak (lsub.keep (lsub.keep (lsub.keep (lsub.keep lsub.nil)))) h10
    · have h9 := h6.2 b7
      refine A_aload_n (i := 0) (f := 0) (by omega) rfl (by decide +kernel) rfl ?_
      refine B_getr (o' := ((78 : Nat) : Int)) (q := (RX11, TX11, 59)) (ci := 10) (j := 38) (by decide +kernel) rfl (by decide) rfl (by omega) fl_11_70 rfl ?_
      refine A_iconst (a := 0) (by decide +kernel) (by unfold in32; omega) ?_
      refine B_lald (v := (M5 78 0)) (by decide +kernel) (by decide) rfl ?_
      refine A_goto (off := 4) (tgt := 37) (by decide +kernel) (by omega) ?_
      refine B_last (M' := (mset M5 79 (x2).toNat (M5 78 0))) (by decide +kernel) h9.1 rfl ?_
      have h11 := h9.2
      refine A_iload_n (i := 2) (f := 2) rfl (by decide +kernel) rfl ?_
      refine A_istore_n (i := 3) (f := 3) rfl (by decide +kernel) (by decide) (fun w h0 hw => by simp at hw; first | (rw [← hw]; decide) | (rw [← hw]; simp)) ?_
      exact A_weak (lsub.keep (lsub.keep (lsub.keep (lsub.keep lsub.nil)))) h11
theorem r_11_arrange_40 {x1 : Int} {x2 : Int} {x3 : Int} {M : Mem} {P : Mem → Prop} (h : ((x3 ≤ 0 → ((0 ≤ x3 ∧ x3 < 5) ∧ A m11_arrange 4 0 9 [(20, ((59 : Nat) : Int)), (0, x1), (0, (w32 (x2 + 1))), (2, 0)] [] (mset M 80 (x3).toNat x2) (Kd P))) ∧ (0 < x3 → ((0 ≤ (w32 (x3 - 1)) ∧ (w32 (x3 - 1)) < 5) ∧ ((0 ≤ (M 80 ((w32 (x3 - 1))).toNat) ∧ (M 80 ((w32 (x3 - 1))).toNat) < 5) ∧ ((0 ≤ x2 ∧ x2 < 5) ∧ (((M 79 ((M 80 ((w32 (x3 - 1))).toNat)).toNat) ≤ (M 79 (x2).toNat) → ((0 ≤ x3 ∧ x3 < 5) ∧ A m11_arrange 4 0 9 [(20, ((59 : Nat) : Int)), (0, x1), (0, (w32 (x2 + 1))), (2, 0)] [] (mset M 80 (x3).toNat x2) (Kd P))) ∧ ((M 79 (x2).toNat) < (M 79 ((M 80 ((w32 (x3 - 1))).toNat)).toNat) → ((0 ≤ (w32 (x3 - 1)) ∧ (w32 (x3 - 1)) < 5) ∧ ((0 ≤ x3 ∧ x3 < 5) ∧ A m11_arrange 4 0 40 [(20, ((59 : Nat) : Int)), (0, x1), (0, x2), (0, (w32 (x3 + (-1))))] [] (mset M 80 (x3).toNat (M 80 ((w32 (x3 - 1))).toNat)) (Kd P))))))))))) : A m11_arrange 4 0 40 [(20, ((59 : Nat) : Int)), (0, x1), (0, x2), (0, x3)] [] M (Kd P) := by
  refine A_iload_n (i := 3) (f := 3) rfl (by decide +kernel) rfl ?_
  refine A_if_le (off := 46) (tgt := 87) (by decide +kernel) (by omega) (fun b1 => ?_) (fun b1 => ?_)
  · have h2 := h.1 b1
    refine A_aload_n (i := 0) (f := 0) (by omega) rfl (by decide +kernel) rfl ?_
    refine B_getr (o' := ((80 : Nat) : Int)) (q := (RX11, TX11, 59)) (ci := 10) (j := 41) (by decide +kernel) rfl (by decide) rfl (by omega) fl_11_76 rfl ?_
    refine A_iload_n (i := 3) (f := 3) rfl (by decide +kernel) rfl ?_
    refine A_iload_n (i := 2) (f := 2) rfl (by decide +kernel) rfl ?_
    refine B_iast (M' := (mset M 80 (x3).toNat x2)) (by decide +kernel) h2.1 rfl ?_
    have h4 := h2.2
    refine A_iinc (i := 2) (n := 1) (by decide +kernel) (by decide) rfl (fun w h0 hw => by simp at hw; first | (rw [← hw]; decide) | (rw [← hw]; simp)) ?_
    refine A_goto (off := (-88)) (tgt := 9) (by decide +kernel) (by omega) ?_
    exact A_weak (lsub.keep (lsub.keep (lsub.keep (lsub.drop lsub.nil)))) h4
  · have h3 := h.2 (Int.not_le.mp b1)
    refine A_aload_n (i := 0) (f := 0) (by omega) rfl (by decide +kernel) rfl ?_
    refine B_getr (o' := ((79 : Nat) : Int)) (q := (RX11, TX11, 59)) (ci := 10) (j := 40) (by decide +kernel) rfl (by decide) rfl (by omega) fl_11_73 rfl ?_
    refine A_aload_n (i := 0) (f := 0) (by omega) rfl (by decide +kernel) rfl ?_
    refine B_getr (o' := ((80 : Nat) : Int)) (q := (RX11, TX11, 59)) (ci := 10) (j := 41) (by decide +kernel) rfl (by decide) rfl (by omega) fl_11_76 rfl ?_
    refine A_iload_n (i := 3) (f := 3) rfl (by decide +kernel) rfl ?_
    refine A_iconst (a := 1) (by decide +kernel) (by unfold in32; omega) ?_
    refine A_isub (by decide +kernel) ?_
    refine B_iald (v := (M 80 ((w32 (x3 - 1))).toNat)) (by decide +kernel) h3.1 rfl ?_
    have h5 := h3.2
    refine B_lald (v := (M 79 ((M 80 ((w32 (x3 - 1))).toNat)).toNat)) (by decide +kernel) h5.1 rfl ?_
    have h6 := h5.2
    refine A_aload_n (i := 0) (f := 0) (by omega) rfl (by decide +kernel) rfl ?_
    refine B_getr (o' := ((79 : Nat) : Int)) (q := (RX11, TX11, 59)) (ci := 10) (j := 40) (by decide +kernel) rfl (by decide) rfl (by omega) fl_11_73 rfl ?_
    refine A_iload_n (i := 2) (f := 2) rfl (by decide +kernel) rfl ?_
    refine B_lald (v := (M 79 (x2).toNat)) (by decide +kernel) h6.1 rfl ?_
    have h7 := h6.2
    refine A_lcmp (by decide +kernel) ?_
    refine A_if_le (off := 23) (tgt := 87) (by decide +kernel) (by omega) (fun b8 => ?_) (fun b8 => ?_)
    · have h9 := h7.1 (lcmp_le.mp b8)
      refine A_aload_n (i := 0) (f := 0) (by omega) rfl (by decide +kernel) rfl ?_
      refine B_getr (o' := ((80 : Nat) : Int)) (q := (RX11, TX11, 59)) (ci := 10) (j := 41) (by decide +kernel) rfl (by decide) rfl (by omega) fl_11_76 rfl ?_
      refine A_iload_n (i := 3) (f := 3) rfl (by decide +kernel) rfl ?_
      refine A_iload_n (i := 2) (f := 2) rfl (by decide +kernel) rfl ?_
      refine B_iast (M' := (mset M 80 (x3).toNat x2)) (by decide +kernel) h9.1 rfl ?_
      have h11 := h9.2
      refine A_iinc (i := 2) (n := 1) (by decide +kernel) (by decide) rfl (fun w h0 hw => by simp at hw; first | (rw [← hw]; decide) | (rw [← hw]; simp)) ?_
      refine A_goto (off := (-88)) (tgt := 9) (by decide +kernel) (by omega) ?_
      exact A_weak (lsub.keep (lsub.keep (lsub.keep (lsub.drop lsub.nil)))) h11
    · have h10 := h7.2 (Int.not_le.mp (fun e => b8 (lcmp_le.mpr e)))
      refine A_aload_n (i := 0) (f := 0) (by omega) rfl (by decide +kernel) rfl ?_
      refine B_getr (o' := ((80 : Nat) : Int)) (q := (RX11, TX11, 59)) (ci := 10) (j := 41) (by decide +kernel) rfl (by decide) rfl (by omega) fl_11_76 rfl ?_
      refine A_iload_n (i := 3) (f := 3) rfl (by decide +kernel) rfl ?_
      refine A_aload_n (i := 0) (f := 0) (by omega) rfl (by decide +kernel) rfl ?_
      refine B_getr (o' := ((80 : Nat) : Int)) (q := (RX11, TX11, 59)) (ci := 10) (j := 41) (by decide +kernel) rfl (by decide) rfl (by omega) fl_11_76 rfl ?_
      refine A_iload_n (i := 3) (f := 3) rfl (by decide +kernel) rfl ?_
      refine A_iconst (a := 1) (by decide +kernel) (by unfold in32; omega) ?_
      refine A_isub (by decide +kernel) ?_
      refine B_iald (v := (M 80 ((w32 (x3 - 1))).toNat)) (by decide +kernel) h10.1 rfl ?_
      have h12 := h10.2
      refine B_iast (M' := (mset M 80 (x3).toNat (M 80 ((w32 (x3 - 1))).toNat))) (by decide +kernel) h12.1 rfl ?_
      have h13 := h12.2
      refine A_iinc (i := 3) (n := (-1)) (by decide +kernel) (by decide) rfl (fun w h0 hw => by simp at hw; first | (rw [← hw]; decide) | (rw [← hw]; simp)) ?_
      refine A_goto (off := (-44)) (tgt := 40) (by decide +kernel) (by omega) ?_
      exact A_weak (lsub.keep (lsub.keep (lsub.keep (lsub.keep lsub.nil)))) h13
theorem q_11_rowOf  {M : Mem} {P : Int → Mem → Prop} (h : A m11_rowOf 1 0 4 [(20, ((59 : Nat) : Int)), (0, 0), (0, 0)] [] M (Ki P)) : CI m11_rowOf 1 [(20, ((59 : Nat) : Int))] M P := by
  refine CI_of (by decide +kernel) (Nat.le_of_ble_eq_true rfl) ?_
  show A m11_rowOf 1 0 0 [(20, ((59 : Nat) : Int)), (2, 0), (2, 0)] [] M (Ki P)
  refine A_iconst (a := 0) (by decide +kernel) (by unfold in32; omega) ?_
  refine A_istore_n (i := 1) (f := 1) rfl (by decide +kernel) (by decide) (fun w h0 hw => by simp at hw; first | (rw [← hw]; decide) | (rw [← hw]; simp)) ?_
  refine A_iconst (a := 0) (by decide +kernel) (by unfold in32; omega) ?_
  refine A_istore_n (i := 2) (f := 2) rfl (by decide +kernel) (by decide) (fun w h0 hw => by simp at hw; first | (rw [← hw]; decide) | (rw [← hw]; simp)) ?_
  exact A_weak (lsub.keep (lsub.keep (lsub.keep lsub.nil))) h
theorem r_11_rowOf_4 {x1 : Int} {x2 : Int} {M : Mem} {P : Int → Mem → Prop} (h : (((M 61 2) ≤ x2 → (P x1 M)) ∧ (x2 < (M 61 2) → ((0 ≤ x2 ∧ x2 < 5) ∧ A m11_rowOf 1 0 4 [(20, ((59 : Nat) : Int)), (0, (ior x1 (ishl (M 80 (x2).toNat) (w32 (3 * x2))))), (0, (w32 (x2 + 1)))] [] M (Ki P))))) : A m11_rowOf 1 0 4 [(20, ((59 : Nat) : Int)), (0, x1), (0, x2)] [] M (Ki P) := by
  refine A_iload_n (i := 2) (f := 2) rfl (by decide +kernel) rfl ?_
  refine A_aload_n (i := 0) (f := 0) (by omega) rfl (by decide +kernel) rfl ?_
  refine B_getr (o' := ((61 : Nat) : Int)) (q := (RX11, TX11, 59)) (ci := 10) (j := 3) (by decide +kernel) rfl (by decide) rfl (by omega) fl_11_13 rfl ?_
  refine A_iconst (a := 2) (by decide +kernel) (by unfold in32; omega) ?_
  refine B_iald (v := (M 61 2)) (by decide +kernel) (by decide) rfl ?_
  refine A_ic_ge (off := 22) (tgt := 33) (by decide +kernel) (by omega) (fun b1 => ?_) (fun b1 => ?_)
  · have h2 := h.1 b1
    refine A_iload_n (i := 1) (f := 1) rfl (by decide +kernel) rfl ?_
    exact A_ret ⟨by decide +kernel, Or.inl rfl⟩ ⟨_, rfl, h2⟩
  · have h3 := h.2 (Int.not_le.mp b1)
    refine A_iload_n (i := 1) (f := 1) rfl (by decide +kernel) rfl ?_
    refine A_aload_n (i := 0) (f := 0) (by omega) rfl (by decide +kernel) rfl ?_
    refine B_getr (o' := ((80 : Nat) : Int)) (q := (RX11, TX11, 59)) (ci := 10) (j := 41) (by decide +kernel) rfl (by decide) rfl (by omega) fl_11_76 rfl ?_
    refine A_iload_n (i := 2) (f := 2) rfl (by decide +kernel) rfl ?_
    refine B_iald (v := (M 80 (x2).toNat)) (by decide +kernel) h3.1 rfl ?_
    have h4 := h3.2
    refine A_iconst (a := 3) (by decide +kernel) (by unfold in32; omega) ?_
    refine A_iload_n (i := 2) (f := 2) rfl (by decide +kernel) rfl ?_
    refine A_imul (by decide +kernel) ?_
    refine A_ishl (by decide +kernel) ?_
    refine A_ior (by decide +kernel) ?_
    refine A_istore_n (i := 1) (f := 1) rfl (by decide +kernel) (by decide) (fun w h0 hw => by simp at hw; first | (rw [← hw]; decide) | (rw [← hw]; simp)) ?_
    refine A_iinc (i := 2) (n := 1) (by decide +kernel) (by decide) rfl (fun w h0 hw => by simp at hw; first | (rw [← hw]; decide) | (rw [← hw]; simp)) ?_
    refine A_goto (off := (-26)) (tgt := 4) (by decide +kernel) (by omega) ?_
    exact A_weak (lsub.keep (lsub.keep (lsub.keep lsub.nil))) h4
theorem q_11_right {x1 : Int} {x2 : Int} {x3 : Int} {x4 : Int} {M : Mem} {P : Int → Mem → Prop} (h : (CD m11_callsLaid 3 [(20, ((59 : Nat) : Int)), (0, x1), (0, x2), (0, x3), (0, x4)] M (fun M2 => (CD m11_arrange 4 [(20, ((59 : Nat) : Int))] M2 (fun M5 => (CI m11_rowOf 1 [(20, ((59 : Nat) : Int))] M5 (fun r7 M8 => (P r7 M8)))))))) : CI m11_right 5 [(20, ((59 : Nat) : Int)), (0, x1), (0, x2), (0, x3), (0, x4)] M P := by
  refine CI_of (by decide +kernel) (Nat.le_of_ble_eq_true rfl) ?_
  show A m11_right 5 0 0 [(20, ((59 : Nat) : Int)), (0, x1), (0, x2), (0, x3), (0, x4)] [] M (Ki P)
  refine A_aload_n (i := 0) (f := 0) (by omega) rfl (by decide +kernel) rfl ?_
  refine A_iload_n (i := 1) (f := 1) rfl (by decide +kernel) rfl ?_
  refine A_iload_n (i := 2) (f := 2) rfl (by decide +kernel) rfl ?_
  refine A_iload_n (i := 3) (f := 3) rfl (by decide +kernel) rfl ?_
  refine A_iload (i := 4) (by decide +kernel) rfl ?_
  refine A_cVd (q := (RX11, TX11, 59)) (ci := 10) (o := ((59 : Nat) : Int)) (args := [(0, x1), (0, x2), (0, x3), (0, x4)]) (st := []) (by decide +kernel) cv_m11_callsLaid rfl rfl in_m11_callsLaid se_m11_callsLaid lk_11_357 rfl (by omega) (Nat.le_of_ble_eq_true rfl) h (fun M2 h3 => ?_)
  refine A_aload_n (i := 0) (f := 0) (by omega) rfl (by decide +kernel) rfl ?_
  refine A_cVd (q := (RX11, TX11, 59)) (ci := 10) (o := ((59 : Nat) : Int)) (args := []) (st := []) (by decide +kernel) cv_m11_arrange rfl rfl in_m11_arrange se_m11_arrange lk_11_360 rfl (by omega) (Nat.le_of_ble_eq_true rfl) h3 (fun M5 h6 => ?_)
  refine A_aload_n (i := 0) (f := 0) (by omega) rfl (by decide +kernel) rfl ?_
  refine A_cVi (q := (RX11, TX11, 59)) (ci := 10) (o := ((59 : Nat) : Int)) (args := []) (st := []) (by decide +kernel) cv_m11_rowOf rfl rfl in_m11_rowOf se_m11_rowOf lk_11_363 rfl (by omega) (Nat.le_of_ble_eq_true rfl) h6 (fun r7 M8 _ h9 => ?_)
  exact A_ret ⟨by decide +kernel, Or.inl rfl⟩ ⟨_, rfl, h9⟩
theorem q_11_say {x1 : Int} {x2 : Int} {x3 : Int} {M : Mem} {P : Int → Mem → Prop} (h : (CI m11_isSaying 3 [(20, ((59 : Nat) : Int)), (0, x1), (0, x2), (0, x3)] (mset M 59 0 0) (fun r1 M2 => ((r1 ≠ 0 → (CD m11_layNow 3 [(20, ((59 : Nat) : Int)), (0, (M2 59 32))] M2 (fun M8 => (CI m11_right 5 [(20, ((59 : Nat) : Int)), (0, x1), (0, x2), (0, x3), (0, (M8 59 32))] M8 (fun r10 M11 => (P r10 M11)))))) ∧ (r1 = 0 → (P (-1) M2)))))) : CI m11_say 6 [(20, ((59 : Nat) : Int)), (0, x1), (0, x2), (0, x3)] M P := by
  refine CI_of (by decide +kernel) (Nat.le_of_ble_eq_true rfl) ?_
  show A m11_say 6 0 0 [(20, ((59 : Nat) : Int)), (0, x1), (0, x2), (0, x3)] [] M (Ki P)
  refine A_aload_n (i := 0) (f := 0) (by omega) rfl (by decide +kernel) rfl ?_
  refine A_iconst (a := 0) (by decide +kernel) (by unfold in32; omega) ?_
  refine B_putp (M' := (mset M 59 0 0)) (q := (RX11, TX11, 59)) (ci := 10) (j := 0) (p := 0) (by decide +kernel) rfl (by decide) rfl (Or.inl ⟨rfl, rfl⟩) rfl fl_11_118 rfl ?_
  refine A_aload_n (i := 0) (f := 0) (by omega) rfl (by decide +kernel) rfl ?_
  refine A_iload_n (i := 1) (f := 1) rfl (by decide +kernel) rfl ?_
  refine A_iload_n (i := 2) (f := 2) rfl (by decide +kernel) rfl ?_
  refine A_iload_n (i := 3) (f := 3) rfl (by decide +kernel) rfl ?_
  refine A_cVi (q := (RX11, TX11, 59)) (ci := 10) (o := ((59 : Nat) : Int)) (args := [(0, x1), (0, x2), (0, x3)]) (st := []) (by decide +kernel) cv_m11_isSaying rfl rfl in_m11_isSaying se_m11_isSaying lk_11_366 rfl (by omega) (Nat.le_of_ble_eq_true rfl) h (fun r1 M2 _ h3 => ?_)
  refine A_if_ne (off := 5) (tgt := 17) (by decide +kernel) (by omega) (fun b4 => ?_) (fun b4 => ?_)
  · have h5 := h3.1 b4
    refine A_aload_n (i := 0) (f := 0) (by omega) rfl (by decide +kernel) rfl ?_
    refine A_aload_n (i := 0) (f := 0) (by omega) rfl (by decide +kernel) rfl ?_
    refine B_getp (v := (M2 59 32)) (q := (RX11, TX11, 59)) (ci := 10) (j := 32) (p := 32) (by decide +kernel) rfl (by decide) rfl (Or.inl rfl) fl_11_296 rfl ?_
    refine A_cVd (q := (RX11, TX11, 59)) (ci := 10) (o := ((59 : Nat) : Int)) (args := [(0, (M2 59 32))]) (st := []) (by decide +kernel) cv_m11_layNow rfl rfl in_m11_layNow se_m11_layNow lk_11_309 rfl (by omega) (Nat.le_of_ble_eq_true rfl) h5 (fun M8 h9 => ?_)
    refine A_aload_n (i := 0) (f := 0) (by omega) rfl (by decide +kernel) rfl ?_
    refine A_iload_n (i := 1) (f := 1) rfl (by decide +kernel) rfl ?_
    refine A_iload_n (i := 2) (f := 2) rfl (by decide +kernel) rfl ?_
    refine A_iload_n (i := 3) (f := 3) rfl (by decide +kernel) rfl ?_
    refine A_aload_n (i := 0) (f := 0) (by omega) rfl (by decide +kernel) rfl ?_
    refine B_getp (v := (M8 59 32)) (q := (RX11, TX11, 59)) (ci := 10) (j := 32) (p := 32) (by decide +kernel) rfl (by decide) rfl (Or.inl rfl) fl_11_296 rfl ?_
    refine A_cVi (q := (RX11, TX11, 59)) (ci := 10) (o := ((59 : Nat) : Int)) (args := [(0, x1), (0, x2), (0, x3), (0, (M8 59 32))]) (st := []) (by decide +kernel) cv_m11_right rfl rfl in_m11_right se_m11_right lk_11_369 rfl (by omega) (Nat.le_of_ble_eq_true rfl) h9 (fun r10 M11 _ h12 => ?_)
    exact A_ret ⟨by decide +kernel, Or.inl rfl⟩ ⟨_, rfl, h12⟩
  · have h6 := h3.2 (Decidable.not_not.mp b4)
    refine A_iconst (a := (-1)) (by decide +kernel) (by unfold in32; omega) ?_
    exact A_ret ⟨by decide +kernel, Or.inl rfl⟩ ⟨_, rfl, h6⟩
theorem q_11_place {x1 : Int} {x2 : Int} {x3 : Int} {x4 : Int} {M : Mem} {P : Int → Mem → Prop} (h : ((x1 < 0 → (P (-9223372036854775808) (mset M 59 0 0))) ∧ (0 ≤ x1 → ((((mset M 59 0 0) 61 2) ≤ x1 → (P (-9223372036854775808) (mset M 59 0 0))) ∧ (x1 < ((mset M 59 0 0) 61 2) → (CI m11_isSaying 3 [(20, ((59 : Nat) : Int)), (0, x2), (0, x3), (0, x4)] (mset M 59 0 0) (fun r7 M8 => ((r7 ≠ 0 → (CD m11_layNow 3 [(20, ((59 : Nat) : Int)), (0, (M8 59 32))] M8 (fun M14 => (CD m11_callsLaid 3 [(20, ((59 : Nat) : Int)), (0, x2), (0, x3), (0, x4), (0, (M14 59 32))] M14 (fun M17 => (CI m11_goes 3 [(20, ((59 : Nat) : Int)), (0, x1)] M17 (fun r19 M20 => ((r19 = 0 → (P (-9223372036854775808) M20)) ∧ (r19 ≠ 0 → (P (M20 78 0) M20)))))))))) ∧ (r7 = 0 → (P (-9223372036854775808) M8)))))))))) : CL m11_place 4 [(20, ((59 : Nat) : Int)), (0, x1), (0, x2), (0, x3), (0, x4)] M P := by
  refine CL_of (by decide +kernel) (Nat.le_of_ble_eq_true rfl) ?_
  show A m11_place 4 0 0 [(20, ((59 : Nat) : Int)), (0, x1), (0, x2), (0, x3), (0, x4)] [] M (Kl P)
  refine A_aload_n (i := 0) (f := 0) (by omega) rfl (by decide +kernel) rfl ?_
  refine A_iconst (a := 0) (by decide +kernel) (by unfold in32; omega) ?_
  refine B_putp (M' := (mset M 59 0 0)) (q := (RX11, TX11, 59)) (ci := 10) (j := 0) (p := 0) (by decide +kernel) rfl (by decide) rfl (Or.inl ⟨rfl, rfl⟩) rfl fl_11_118 rfl ?_
  refine A_iload_n (i := 1) (f := 1) rfl (by decide +kernel) rfl ?_
  refine A_if_lt (off := 24) (tgt := 30) (by decide +kernel) (by omega) (fun b1 => ?_) (fun b1 => ?_)
  · have h2 := h.1 b1
    refine A_ldc2 (by decide +kernel) (by unfold in64; omega) kl_11_375 rfl ?_
    exact A_ret ⟨by decide +kernel, rfl⟩ ⟨_, rfl, h2⟩
  · have h3 := h.2 (Int.not_lt.mp b1)
    refine A_iload_n (i := 1) (f := 1) rfl (by decide +kernel) rfl ?_
    refine A_aload_n (i := 0) (f := 0) (by omega) rfl (by decide +kernel) rfl ?_
    refine B_getr (o' := ((61 : Nat) : Int)) (q := (RX11, TX11, 59)) (ci := 10) (j := 3) (by decide +kernel) rfl (by decide) rfl (by omega) fl_11_13 rfl ?_
    refine A_iconst (a := 2) (by decide +kernel) (by unfold in32; omega) ?_
    refine B_iald (v := ((mset M 59 0 0) 61 2)) (by decide +kernel) (by decide) rfl ?_
    refine A_ic_ge (off := 14) (tgt := 30) (by decide +kernel) (by omega) (fun b4 => ?_) (fun b4 => ?_)
    · have h5 := h3.1 b4
      refine A_ldc2 (by decide +kernel) (by unfold in64; omega) kl_11_375 rfl ?_
      exact A_ret ⟨by decide +kernel, rfl⟩ ⟨_, rfl, h5⟩
    · have h6 := h3.2 (Int.not_le.mp b4)
      refine A_aload_n (i := 0) (f := 0) (by omega) rfl (by decide +kernel) rfl ?_
      refine A_iload_n (i := 2) (f := 2) rfl (by decide +kernel) rfl ?_
      refine A_iload_n (i := 3) (f := 3) rfl (by decide +kernel) rfl ?_
      refine A_iload (i := 4) (by decide +kernel) rfl ?_
      refine A_cVi (q := (RX11, TX11, 59)) (ci := 10) (o := ((59 : Nat) : Int)) (args := [(0, x2), (0, x3), (0, x4)]) (st := []) (by decide +kernel) cv_m11_isSaying rfl rfl in_m11_isSaying se_m11_isSaying lk_11_366 rfl (by omega) (Nat.le_of_ble_eq_true rfl) h6 (fun r7 M8 _ h9 => ?_)
      refine A_if_ne (off := 7) (tgt := 34) (by decide +kernel) (by omega) (fun b10 => ?_) (fun b10 => ?_)
      · have h11 := h9.1 b10
        refine A_aload_n (i := 0) (f := 0) (by omega) rfl (by decide +kernel) rfl ?_
        refine A_aload_n (i := 0) (f := 0) (by omega) rfl (by decide +kernel) rfl ?_
        refine B_getp (v := (M8 59 32)) (q := (RX11, TX11, 59)) (ci := 10) (j := 32) (p := 32) (by decide +kernel) rfl (by decide) rfl (Or.inl rfl) fl_11_296 rfl ?_
        refine A_cVd (q := (RX11, TX11, 59)) (ci := 10) (o := ((59 : Nat) : Int)) (args := [(0, (M8 59 32))]) (st := []) (by decide +kernel) cv_m11_layNow rfl rfl in_m11_layNow se_m11_layNow lk_11_309 rfl (by omega) (Nat.le_of_ble_eq_true rfl) h11 (fun M14 h15 => ?_)
        refine A_aload_n (i := 0) (f := 0) (by omega) rfl (by decide +kernel) rfl ?_
        refine A_iload_n (i := 2) (f := 2) rfl (by decide +kernel) rfl ?_
        refine A_iload_n (i := 3) (f := 3) rfl (by decide +kernel) rfl ?_
        refine A_iload (i := 4) (by decide +kernel) rfl ?_
        refine A_aload_n (i := 0) (f := 0) (by omega) rfl (by decide +kernel) rfl ?_
        refine B_getp (v := (M14 59 32)) (q := (RX11, TX11, 59)) (ci := 10) (j := 32) (p := 32) (by decide +kernel) rfl (by decide) rfl (Or.inl rfl) fl_11_296 rfl ?_
        refine A_cVd (q := (RX11, TX11, 59)) (ci := 10) (o := ((59 : Nat) : Int)) (args := [(0, x2), (0, x3), (0, x4), (0, (M14 59 32))]) (st := []) (by decide +kernel) cv_m11_callsLaid rfl rfl in_m11_callsLaid se_m11_callsLaid lk_11_357 rfl (by omega) (Nat.le_of_ble_eq_true rfl) h15 (fun M17 h18 => ?_)
        refine A_aload_n (i := 0) (f := 0) (by omega) rfl (by decide +kernel) rfl ?_
        refine A_iload_n (i := 1) (f := 1) rfl (by decide +kernel) rfl ?_
        refine A_cVi (q := (RX11, TX11, 59)) (ci := 10) (o := ((59 : Nat) : Int)) (args := [(0, x1)]) (st := []) (by decide +kernel) cv_m11_goes rfl rfl in_m11_goes se_m11_goes lk_11_354 rfl (by omega) (Nat.le_of_ble_eq_true rfl) h18 (fun r19 M20 _ h21 => ?_)
        refine A_if_eq (off := 12) (tgt := 71) (by decide +kernel) (by omega) (fun b22 => ?_) (fun b22 => ?_)
        · have h23 := h21.1 b22
          refine A_ldc2 (by decide +kernel) (by unfold in64; omega) kl_11_375 rfl ?_
          exact A_ret ⟨by decide +kernel, rfl⟩ ⟨_, rfl, h23⟩
        · have h24 := h21.2 b22
          refine A_aload_n (i := 0) (f := 0) (by omega) rfl (by decide +kernel) rfl ?_
          refine B_getr (o' := ((78 : Nat) : Int)) (q := (RX11, TX11, 59)) (ci := 10) (j := 38) (by decide +kernel) rfl (by decide) rfl (by omega) fl_11_70 rfl ?_
          refine A_iconst (a := 0) (by decide +kernel) (by unfold in32; omega) ?_
          refine B_lald (v := (M20 78 0)) (by decide +kernel) (by decide) rfl ?_
          refine A_goto (off := 6) (tgt := 74) (by decide +kernel) (by omega) ?_
          exact A_ret ⟨by decide +kernel, rfl⟩ ⟨_, rfl, h24⟩
      · have h12 := h9.2 (Decidable.not_not.mp b10)
        refine A_ldc2 (by decide +kernel) (by unfold in64; omega) kl_11_375 rfl ?_
        exact A_ret ⟨by decide +kernel, rfl⟩ ⟨_, rfl, h12⟩
theorem q_11_wordOf {x0 : Int} {x1 : Int} {M : Mem} {P : Int → Mem → Prop} (h : (P (iand (ishr x0 (w32 (3 * x1))) 7) M)) : CI m11_wordOf 1 [(0, x0), (0, x1)] M P := by
  refine CI_of (by decide +kernel) (Nat.le_of_ble_eq_true rfl) ?_
  show A m11_wordOf 1 0 0 [(0, x0), (0, x1)] [] M (Ki P)
  refine A_iload_n (i := 0) (f := 0) rfl (by decide +kernel) rfl ?_
  refine A_iconst (a := 3) (by decide +kernel) (by unfold in32; omega) ?_
  refine A_iload_n (i := 1) (f := 1) rfl (by decide +kernel) rfl ?_
  refine A_imul (by decide +kernel) ?_
  refine A_ishr (by decide +kernel) ?_
  refine A_bipush (a := 7) (by decide +kernel) (by unfold in32; omega) (by decide +kernel) ?_
  refine A_iand (by decide +kernel) ?_
  exact A_ret ⟨by decide +kernel, Or.inl rfl⟩ ⟨_, rfl, h⟩
theorem q_11_isRow {x1 : Int} {M : Mem} {P : Int → Mem → Prop} (h : ((x1 < 0 → (P 0 M)) ∧ (0 ≤ x1 → (((ishr x1 (w32 (3 * (M 61 2)))) = 0 → A m11_isRow 2 0 26 [(2, 0), (0, x1), (0, (M 61 2)), (0, 0), (0, 0), (2, 0)] [] M (Ki P)) ∧ ((ishr x1 (w32 (3 * (M 61 2)))) ≠ 0 → (P 0 M)))))) : CI m11_isRow 2 [(20, ((59 : Nat) : Int)), (0, x1)] M P := by
  refine CI_of (by decide +kernel) (Nat.le_of_ble_eq_true rfl) ?_
  show A m11_isRow 2 0 0 [(20, ((59 : Nat) : Int)), (0, x1), (2, 0), (2, 0), (2, 0), (2, 0)] [] M (Ki P)
  refine A_aload_n (i := 0) (f := 0) (by omega) rfl (by decide +kernel) rfl ?_
  refine B_getr (o' := ((61 : Nat) : Int)) (q := (RX11, TX11, 59)) (ci := 10) (j := 3) (by decide +kernel) rfl (by decide) rfl (by omega) fl_11_13 rfl ?_
  refine A_iconst (a := 2) (by decide +kernel) (by unfold in32; omega) ?_
  refine B_iald (v := (M 61 2)) (by decide +kernel) (by decide) rfl ?_
  refine A_istore_n (i := 2) (f := 2) rfl (by decide +kernel) (by decide) (fun w h0 hw => by simp at hw; first | (rw [← hw]; decide) | (rw [← hw]; simp)) ?_
  refine A_iload_n (i := 1) (f := 1) rfl (by decide +kernel) rfl ?_
  refine A_if_lt (off := 11) (tgt := 19) (by decide +kernel) (by omega) (fun b1 => ?_) (fun b1 => ?_)
  · have h2 := h.1 b1
    refine A_iconst (a := 0) (by decide +kernel) (by unfold in32; omega) ?_
    exact A_ret ⟨by decide +kernel, Or.inr ⟨rfl, by decide⟩⟩ ⟨_, rfl, h2⟩
  · have h3 := h.2 (Int.not_lt.mp b1)
    refine A_iload_n (i := 1) (f := 1) rfl (by decide +kernel) rfl ?_
    refine A_iconst (a := 3) (by decide +kernel) (by unfold in32; omega) ?_
    refine A_iload_n (i := 2) (f := 2) rfl (by decide +kernel) rfl ?_
    refine A_imul (by decide +kernel) ?_
    refine A_ishr (by decide +kernel) ?_
    refine A_if_eq (off := 5) (tgt := 21) (by decide +kernel) (by omega) (fun b4 => ?_) (fun b4 => ?_)
    · have h5 := h3.1 b4
      refine A_iconst (a := 0) (by decide +kernel) (by unfold in32; omega) ?_
      refine A_istore_n (i := 3) (f := 3) rfl (by decide +kernel) (by decide) (fun w h0 hw => by simp at hw; first | (rw [← hw]; decide) | (rw [← hw]; simp)) ?_
      refine A_iconst (a := 0) (by decide +kernel) (by unfold in32; omega) ?_
      refine A_istore (i := 4) (by decide +kernel) (by decide) (fun w h0 hw => by simp at hw; first | (rw [← hw]; decide) | (rw [← hw]; simp)) ?_
      exact A_weak (lsub.drop (lsub.keep (lsub.keep (lsub.keep (lsub.keep (lsub.drop lsub.nil)))))) h5
    · have h6 := h3.2 b4
      refine A_iconst (a := 0) (by decide +kernel) (by unfold in32; omega) ?_
      exact A_ret ⟨by decide +kernel, Or.inr ⟨rfl, by decide⟩⟩ ⟨_, rfl, h6⟩
theorem r_11_isRow_26 {x1 : Int} {x2 : Int} {x3 : Int} {x4 : Int} {M : Mem} {P : Int → Mem → Prop} (h : ((x2 ≤ x4 → (P 1 M)) ∧ (x4 < x2 → (CI m11_wordOf 1 [(0, x1), (0, x4)] M (fun r4 M5 => ((x2 ≤ r4 → (P 0 M5)) ∧ (r4 < x2 → (((iand (ishr x3 r4) 1) ≠ 1 → A m11_isRow 2 0 26 [(2, 0), (0, x1), (0, x2), (0, (ior x3 (ishl 1 r4))), (0, (w32 (x4 + 1))), (2, 0)] [] M5 (Ki P)) ∧ ((iand (ishr x3 r4) 1) = 1 → (P 0 M5)))))))))) : A m11_isRow 2 0 26 [(2, 0), (0, x1), (0, x2), (0, x3), (0, x4), (2, 0)] [] M (Ki P) := by
  refine A_iload (i := 4) (by decide +kernel) rfl ?_
  refine A_iload_n (i := 2) (f := 2) rfl (by decide +kernel) rfl ?_
  refine A_ic_ge (off := 42) (tgt := 71) (by decide +kernel) (by omega) (fun b1 => ?_) (fun b1 => ?_)
  · have h2 := h.1 b1
    refine A_iconst (a := 1) (by decide +kernel) (by unfold in32; omega) ?_
    exact A_ret ⟨by decide +kernel, Or.inr ⟨rfl, by decide⟩⟩ ⟨_, rfl, h2⟩
  · have h3 := h.2 (Int.not_le.mp b1)
    refine A_iload_n (i := 1) (f := 1) rfl (by decide +kernel) rfl ?_
    refine A_iload (i := 4) (by decide +kernel) rfl ?_
    refine A_cSi (args := [(0, x1), (0, x4)]) (st := []) (by decide +kernel) cv_m11_wordOf st_m11_wordOf lk_11_377 rfl (by omega) (Nat.le_of_ble_eq_true rfl) h3 (fun r4 M5 _ h6 => ?_)
    refine A_istore (i := 5) (by decide +kernel) (by decide) (fun w h0 hw => by simp at hw; first | (rw [← hw]; decide) | (rw [← hw]; simp)) ?_
    refine A_iload (i := 5) (by decide +kernel) rfl ?_
    refine A_iload_n (i := 2) (f := 2) rfl (by decide +kernel) rfl ?_
    refine A_ic_ge (off := 13) (tgt := 56) (by decide +kernel) (by omega) (fun b7 => ?_) (fun b7 => ?_)
    · have h8 := h6.1 b7
      refine A_iconst (a := 0) (by decide +kernel) (by unfold in32; omega) ?_
      exact A_ret ⟨by decide +kernel, Or.inr ⟨rfl, by decide⟩⟩ ⟨_, rfl, h8⟩
    · have h9 := h6.2 (Int.not_le.mp b7)
      refine A_iload_n (i := 3) (f := 3) rfl (by decide +kernel) rfl ?_
      refine A_iload (i := 5) (by decide +kernel) rfl ?_
      refine A_ishr (by decide +kernel) ?_
      refine A_iconst (a := 1) (by decide +kernel) (by unfold in32; omega) ?_
      refine A_iand (by decide +kernel) ?_
      refine A_iconst (a := 1) (by decide +kernel) (by unfold in32; omega) ?_
      refine A_ic_ne (off := 5) (tgt := 58) (by decide +kernel) (by omega) (fun b10 => ?_) (fun b10 => ?_)
      · have h11 := h9.1 b10
        refine A_iload_n (i := 3) (f := 3) rfl (by decide +kernel) rfl ?_
        refine A_iconst (a := 1) (by decide +kernel) (by unfold in32; omega) ?_
        refine A_iload (i := 5) (by decide +kernel) rfl ?_
        refine A_ishl (by decide +kernel) ?_
        refine A_ior (by decide +kernel) ?_
        refine A_istore_n (i := 3) (f := 3) rfl (by decide +kernel) (by decide) (fun w h0 hw => by simp at hw; first | (rw [← hw]; decide) | (rw [← hw]; simp)) ?_
        refine A_iinc (i := 4) (n := 1) (by decide +kernel) (by decide) rfl (fun w h0 hw => by simp at hw; first | (rw [← hw]; decide) | (rw [← hw]; simp)) ?_
        refine A_goto (off := (-42)) (tgt := 26) (by decide +kernel) (by omega) ?_
        exact A_weak (lsub.drop (lsub.keep (lsub.keep (lsub.keep (lsub.keep (lsub.drop lsub.nil)))))) h11
      · have h12 := h9.2 (Decidable.not_not.mp b10)
        refine A_iconst (a := 0) (by decide +kernel) (by unfold in32; omega) ?_
        exact A_ret ⟨by decide +kernel, Or.inr ⟨rfl, by decide⟩⟩ ⟨_, rfl, h12⟩
theorem q_11_placeIn {x1 : Int} {x2 : Int} {M : Mem} {P : Int → Mem → Prop} (h : A m11_placeIn 2 0 2 [(2, 0), (0, x1), (0, x2), (0, 0)] [] M (Ki P)) : CI m11_placeIn 2 [(20, ((59 : Nat) : Int)), (0, x1), (0, x2)] M P := by
  refine CI_of (by decide +kernel) (Nat.le_of_ble_eq_true rfl) ?_
  show A m11_placeIn 2 0 0 [(20, ((59 : Nat) : Int)), (0, x1), (0, x2), (2, 0)] [] M (Ki P)
  refine A_iconst (a := 0) (by decide +kernel) (by unfold in32; omega) ?_
  refine A_istore_n (i := 3) (f := 3) rfl (by decide +kernel) (by decide) (fun w h0 hw => by simp at hw; first | (rw [← hw]; decide) | (rw [← hw]; simp)) ?_
  exact A_weak (lsub.drop (lsub.keep (lsub.keep (lsub.keep lsub.nil)))) h
theorem r_11_placeIn_2 {x1 : Int} {x2 : Int} {x3 : Int} {M : Mem} {P : Int → Mem → Prop} (h : (CI m11_wordOf 1 [(0, x1), (0, x3)] M (fun r1 M2 => ((r1 = x2 → (P x3 M2)) ∧ (r1 ≠ x2 → A m11_placeIn 2 0 2 [(2, 0), (0, x1), (0, x2), (0, (w32 (x3 + 1)))] [] M2 (Ki P)))))) : A m11_placeIn 2 0 2 [(2, 0), (0, x1), (0, x2), (0, x3)] [] M (Ki P) := by
  refine A_iload_n (i := 1) (f := 1) rfl (by decide +kernel) rfl ?_
  refine A_iload_n (i := 3) (f := 3) rfl (by decide +kernel) rfl ?_
  refine A_cSi (args := [(0, x1), (0, x3)]) (st := []) (by decide +kernel) cv_m11_wordOf st_m11_wordOf lk_11_377 rfl (by omega) (Nat.le_of_ble_eq_true rfl) h (fun r1 M2 _ h3 => ?_)
  refine A_iload_n (i := 2) (f := 2) rfl (by decide +kernel) rfl ?_
  refine A_ic_eq (off := 9) (tgt := 17) (by decide +kernel) (by omega) (fun b4 => ?_) (fun b4 => ?_)
  · have h5 := h3.1 b4
    refine A_iload_n (i := 3) (f := 3) rfl (by decide +kernel) rfl ?_
    exact A_ret ⟨by decide +kernel, Or.inl rfl⟩ ⟨_, rfl, h5⟩
  · have h6 := h3.2 b4
    refine A_iinc (i := 3) (n := 1) (by decide +kernel) (by decide) rfl (fun w h0 hw => by simp at hw; first | (rw [← hw]; decide) | (rw [← hw]; simp)) ?_
    refine A_goto (off := (-12)) (tgt := 2) (by decide +kernel) (by omega) ?_
    exact A_weak (lsub.drop (lsub.keep (lsub.keep (lsub.keep lsub.nil)))) h6
theorem q_11_turned {x1 : Int} {x2 : Int} {M : Mem} {P : Int → Mem → Prop} (h : A m11_turned 3 0 5 [(20, ((59 : Nat) : Int)), (0, x1), (0, x2), (0, 0), (0, 0), (2, 0)] [] M (Ki P)) : CI m11_turned 3 [(20, ((59 : Nat) : Int)), (0, x1), (0, x2)] M P := by
  refine CI_of (by decide +kernel) (Nat.le_of_ble_eq_true rfl) ?_
  show A m11_turned 3 0 0 [(20, ((59 : Nat) : Int)), (0, x1), (0, x2), (2, 0), (2, 0), (2, 0)] [] M (Ki P)
  refine A_iconst (a := 0) (by decide +kernel) (by unfold in32; omega) ?_
  refine A_istore_n (i := 3) (f := 3) rfl (by decide +kernel) (by decide) (fun w h0 hw => by simp at hw; first | (rw [← hw]; decide) | (rw [← hw]; simp)) ?_
  refine A_iconst (a := 0) (by decide +kernel) (by unfold in32; omega) ?_
  refine A_istore (i := 4) (by decide +kernel) (by decide) (fun w h0 hw => by simp at hw; first | (rw [← hw]; decide) | (rw [← hw]; simp)) ?_
  exact A_weak (lsub.keep (lsub.keep (lsub.keep (lsub.keep (lsub.keep (lsub.drop lsub.nil)))))) h
theorem r_11_turned_5 {x1 : Int} {x2 : Int} {x3 : Int} {x4 : Int} {M : Mem} {P : Int → Mem → Prop} (h : (((M 61 2) ≤ x4 → (P x3 M)) ∧ (x4 < (M 61 2) → A m11_turned 3 0 19 [(20, ((59 : Nat) : Int)), (0, x1), (0, x2), (0, x3), (0, x4), (0, 0)] [] M (Ki P)))) : A m11_turned 3 0 5 [(20, ((59 : Nat) : Int)), (0, x1), (0, x2), (0, x3), (0, x4), (2, 0)] [] M (Ki P) := by
  refine A_iload (i := 4) (by decide +kernel) rfl ?_
  refine A_aload_n (i := 0) (f := 0) (by omega) rfl (by decide +kernel) rfl ?_
  refine B_getr (o' := ((61 : Nat) : Int)) (q := (RX11, TX11, 59)) (ci := 10) (j := 3) (by decide +kernel) rfl (by decide) rfl (by omega) fl_11_13 rfl ?_
  refine A_iconst (a := 2) (by decide +kernel) (by unfold in32; omega) ?_
  refine B_iald (v := (M 61 2)) (by decide +kernel) (by decide) rfl ?_
  refine A_ic_ge (off := 80) (tgt := 93) (by decide +kernel) (by omega) (fun b1 => ?_) (fun b1 => ?_)
  · have h2 := h.1 b1
    refine A_iload_n (i := 3) (f := 3) rfl (by decide +kernel) rfl ?_
    exact A_ret ⟨by decide +kernel, Or.inl rfl⟩ ⟨_, rfl, h2⟩
  · have h3 := h.2 (Int.not_le.mp b1)
    refine A_iconst (a := 0) (by decide +kernel) (by unfold in32; omega) ?_
    refine A_istore (i := 5) (by decide +kernel) (by decide) (fun w h0 hw => by simp at hw; first | (rw [← hw]; decide) | (rw [← hw]; simp)) ?_
    exact A_weak (lsub.keep (lsub.keep (lsub.keep (lsub.keep (lsub.keep (lsub.keep lsub.nil)))))) h3
theorem r_11_turned_19 {x1 : Int} {x2 : Int} {x3 : Int} {x4 : Int} {x5 : Int} {M : Mem} {P : Int → Mem → Prop} (h : ((x4 ≤ x5 → A m11_turned 3 0 5 [(20, ((59 : Nat) : Int)), (0, x1), (0, x2), (0, x3), (0, (w32 (x4 + 1))), (2, 0)] [] M (Ki P)) ∧ (x5 < x4 → (CI m11_placeIn 2 [(20, ((59 : Nat) : Int)), (0, x1), (0, x4)] M (fun r4 M5 => (CI m11_placeIn 2 [(20, ((59 : Nat) : Int)), (0, x1), (0, x5)] M5 (fun r7 M8 => ((r7 ≤ r4 → (CI m11_placeIn 2 [(20, ((59 : Nat) : Int)), (0, x2), (0, x4)] M8 (fun r13 M14 => (CI m11_placeIn 2 [(20, ((59 : Nat) : Int)), (0, x2), (0, x5)] M14 (fun r16 M17 => ((r16 ≤ r13 → A m11_turned 3 0 19 [(20, ((59 : Nat) : Int)), (0, x1), (0, x2), (0, (w32 (x3 + 0))), (0, x4), (0, (w32 (x5 + 1)))] [] M17 (Ki P)) ∧ (r13 < r16 → A m11_turned 3 0 19 [(20, ((59 : Nat) : Int)), (0, x1), (0, x2), (0, (w32 (x3 + 1))), (0, x4), (0, (w32 (x5 + 1)))] [] M17 (Ki P)))))))) ∧ (r4 < r7 → (CI m11_placeIn 2 [(20, ((59 : Nat) : Int)), (0, x2), (0, x4)] M8 (fun r22 M23 => (CI m11_placeIn 2 [(20, ((59 : Nat) : Int)), (0, x2), (0, x5)] M23 (fun r25 M26 => ((r25 ≤ r22 → A m11_turned 3 0 19 [(20, ((59 : Nat) : Int)), (0, x1), (0, x2), (0, (w32 (x3 + 1))), (0, x4), (0, (w32 (x5 + 1)))] [] M26 (Ki P)) ∧ (r22 < r25 → A m11_turned 3 0 19 [(20, ((59 : Nat) : Int)), (0, x1), (0, x2), (0, (w32 (x3 + 0))), (0, x4), (0, (w32 (x5 + 1)))] [] M26 (Ki P)))))))))))))))) : A m11_turned 3 0 19 [(20, ((59 : Nat) : Int)), (0, x1), (0, x2), (0, x3), (0, x4), (0, x5)] [] M (Ki P) := by
  refine A_iload (i := 5) (by decide +kernel) rfl ?_
  refine A_iload (i := 4) (by decide +kernel) rfl ?_
  refine A_ic_ge (off := 64) (tgt := 87) (by decide +kernel) (by omega) (fun b1 => ?_) (fun b1 => ?_)
  · have h2 := h.1 b1
    refine A_iinc (i := 4) (n := 1) (by decide +kernel) (by decide) rfl (fun w h0 hw => by simp at hw; first | (rw [← hw]; decide) | (rw [← hw]; simp)) ?_
    refine A_goto (off := (-85)) (tgt := 5) (by decide +kernel) (by omega) ?_
    exact A_weak (lsub.keep (lsub.keep (lsub.keep (lsub.keep (lsub.keep (lsub.drop lsub.nil)))))) h2
  · have h3 := h.2 (Int.not_le.mp b1)
    refine A_iload_n (i := 3) (f := 3) rfl (by decide +kernel) rfl ?_
    refine A_aload_n (i := 0) (f := 0) (by omega) rfl (by decide +kernel) rfl ?_
    refine A_iload_n (i := 1) (f := 1) rfl (by decide +kernel) rfl ?_
    refine A_iload (i := 4) (by decide +kernel) rfl ?_
    refine A_cVi (q := (RX11, TX11, 59)) (ci := 10) (o := ((59 : Nat) : Int)) (args := [(0, x1), (0, x4)]) (st := [(0, x3)]) (by decide +kernel) cv_m11_placeIn rfl rfl in_m11_placeIn se_m11_placeIn lk_11_380 rfl (by omega) (Nat.le_of_ble_eq_true rfl) h3 (fun r4 M5 _ h6 => ?_)
    refine A_aload_n (i := 0) (f := 0) (by omega) rfl (by decide +kernel) rfl ?_
    refine A_iload_n (i := 1) (f := 1) rfl (by decide +kernel) rfl ?_
    refine A_iload (i := 5) (by decide +kernel) rfl ?_
    refine A_cVi (q := (RX11, TX11, 59)) (ci := 10) (o := ((59 : Nat) : Int)) (args := [(0, x1), (0, x5)]) (st := [(0, r4), (0, x3)]) (by decide +kernel) cv_m11_placeIn rfl rfl in_m11_placeIn se_m11_placeIn lk_11_380 rfl (by omega) (Nat.le_of_ble_eq_true rfl) h6 (fun r7 M8 _ h9 => ?_)
    refine A_ic_ge (off := 7) (tgt := 48) (by decide +kernel) (by omega) (fun b10 => ?_) (fun b10 => ?_)
    · have h11 := h9.1 b10
      refine A_iconst (a := 0) (by decide +kernel) (by unfold in32; omega) ?_
      refine A_aload_n (i := 0) (f := 0) (by omega) rfl (by decide +kernel) rfl ?_
      refine A_iload_n (i := 2) (f := 2) rfl (by decide +kernel) rfl ?_
      refine A_iload (i := 4) (by decide +kernel) rfl ?_
      refine A_cVi (q := (RX11, TX11, 59)) (ci := 10) (o := ((59 : Nat) : Int)) (args := [(0, x2), (0, x4)]) (st := [(0, 0), (0, x3)]) (by decide +kernel) cv_m11_placeIn rfl rfl in_m11_placeIn se_m11_placeIn lk_11_380 rfl (by omega) (Nat.le_of_ble_eq_true rfl) h11 (fun r13 M14 _ h15 => ?_)
      refine A_aload_n (i := 0) (f := 0) (by omega) rfl (by decide +kernel) rfl ?_
      refine A_iload_n (i := 2) (f := 2) rfl (by decide +kernel) rfl ?_
      refine A_iload (i := 5) (by decide +kernel) rfl ?_
      refine A_cVi (q := (RX11, TX11, 59)) (ci := 10) (o := ((59 : Nat) : Int)) (args := [(0, x2), (0, x5)]) (st := [(0, r13), (0, 0), (0, x3)]) (by decide +kernel) cv_m11_placeIn rfl rfl in_m11_placeIn se_m11_placeIn lk_11_380 rfl (by omega) (Nat.le_of_ble_eq_true rfl) h15 (fun r16 M17 _ h18 => ?_)
      refine A_ic_ge (off := 7) (tgt := 70) (by decide +kernel) (by omega) (fun b19 => ?_) (fun b19 => ?_)
      · have h20 := h18.1 b19
        refine A_iconst (a := 0) (by decide +kernel) (by unfold in32; omega) ?_
        refine A_ic_ne (off := 7) (tgt := 78) (by decide +kernel) (by omega) (fun hb => absurd hb (by decide)) (fun _ => ?_)
        refine A_iconst (a := 0) (by decide +kernel) (by unfold in32; omega) ?_
        refine A_goto (off := 4) (tgt := 79) (by decide +kernel) (by omega) ?_
        refine A_iadd (by decide +kernel) ?_
        refine A_istore_n (i := 3) (f := 3) rfl (by decide +kernel) (by decide) (fun w h0 hw => by simp at hw; first | (rw [← hw]; decide) | (rw [← hw]; simp)) ?_
        refine A_iinc (i := 5) (n := 1) (by decide +kernel) (by decide) rfl (fun w h0 hw => by simp at hw; first | (rw [← hw]; decide) | (rw [← hw]; simp)) ?_
        refine A_goto (off := (-65)) (tgt := 19) (by decide +kernel) (by omega) ?_
        exact A_weak (lsub.keep (lsub.keep (lsub.keep (lsub.keep (lsub.keep (lsub.keep lsub.nil)))))) h20
      · have h21 := h18.2 (Int.not_le.mp b19)
        refine A_iconst (a := 1) (by decide +kernel) (by unfold in32; omega) ?_
        refine A_goto (off := 4) (tgt := 71) (by decide +kernel) (by omega) ?_
        refine A_ic_ne (off := 7) (tgt := 78) (by decide +kernel) (by omega) (fun _ => ?_) (fun hb => absurd (by decide) hb)
        refine A_iconst (a := 1) (by decide +kernel) (by unfold in32; omega) ?_
        refine A_iadd (by decide +kernel) ?_
        refine A_istore_n (i := 3) (f := 3) rfl (by decide +kernel) (by decide) (fun w h0 hw => by simp at hw; first | (rw [← hw]; decide) | (rw [← hw]; simp)) ?_
        refine A_iinc (i := 5) (n := 1) (by decide +kernel) (by decide) rfl (fun w h0 hw => by simp at hw; first | (rw [← hw]; decide) | (rw [← hw]; simp)) ?_
        refine A_goto (off := (-65)) (tgt := 19) (by decide +kernel) (by omega) ?_
        exact A_weak (lsub.keep (lsub.keep (lsub.keep (lsub.keep (lsub.keep (lsub.keep lsub.nil)))))) h21
    · have h12 := h9.2 (Int.not_le.mp b10)
      refine A_iconst (a := 1) (by decide +kernel) (by unfold in32; omega) ?_
      refine A_goto (off := 4) (tgt := 49) (by decide +kernel) (by omega) ?_
      refine A_aload_n (i := 0) (f := 0) (by omega) rfl (by decide +kernel) rfl ?_
      refine A_iload_n (i := 2) (f := 2) rfl (by decide +kernel) rfl ?_
      refine A_iload (i := 4) (by decide +kernel) rfl ?_
      refine A_cVi (q := (RX11, TX11, 59)) (ci := 10) (o := ((59 : Nat) : Int)) (args := [(0, x2), (0, x4)]) (st := [(0, 1), (0, x3)]) (by decide +kernel) cv_m11_placeIn rfl rfl in_m11_placeIn se_m11_placeIn lk_11_380 rfl (by omega) (Nat.le_of_ble_eq_true rfl) h12 (fun r22 M23 _ h24 => ?_)
      refine A_aload_n (i := 0) (f := 0) (by omega) rfl (by decide +kernel) rfl ?_
      refine A_iload_n (i := 2) (f := 2) rfl (by decide +kernel) rfl ?_
      refine A_iload (i := 5) (by decide +kernel) rfl ?_
      refine A_cVi (q := (RX11, TX11, 59)) (ci := 10) (o := ((59 : Nat) : Int)) (args := [(0, x2), (0, x5)]) (st := [(0, r22), (0, 1), (0, x3)]) (by decide +kernel) cv_m11_placeIn rfl rfl in_m11_placeIn se_m11_placeIn lk_11_380 rfl (by omega) (Nat.le_of_ble_eq_true rfl) h24 (fun r25 M26 _ h27 => ?_)
      refine A_ic_ge (off := 7) (tgt := 70) (by decide +kernel) (by omega) (fun b28 => ?_) (fun b28 => ?_)
      · have h29 := h27.1 b28
        refine A_iconst (a := 0) (by decide +kernel) (by unfold in32; omega) ?_
        refine A_ic_ne (off := 7) (tgt := 78) (by decide +kernel) (by omega) (fun _ => ?_) (fun hb => absurd (by decide) hb)
        refine A_iconst (a := 1) (by decide +kernel) (by unfold in32; omega) ?_
        refine A_iadd (by decide +kernel) ?_
        refine A_istore_n (i := 3) (f := 3) rfl (by decide +kernel) (by decide) (fun w h0 hw => by simp at hw; first | (rw [← hw]; decide) | (rw [← hw]; simp)) ?_
        refine A_iinc (i := 5) (n := 1) (by decide +kernel) (by decide) rfl (fun w h0 hw => by simp at hw; first | (rw [← hw]; decide) | (rw [← hw]; simp)) ?_
        refine A_goto (off := (-65)) (tgt := 19) (by decide +kernel) (by omega) ?_
        exact A_weak (lsub.keep (lsub.keep (lsub.keep (lsub.keep (lsub.keep (lsub.keep lsub.nil)))))) h29
      · have h30 := h27.2 (Int.not_le.mp b28)
        refine A_iconst (a := 1) (by decide +kernel) (by unfold in32; omega) ?_
        refine A_goto (off := 4) (tgt := 71) (by decide +kernel) (by omega) ?_
        refine A_ic_ne (off := 7) (tgt := 78) (by decide +kernel) (by omega) (fun hb => absurd hb (by decide)) (fun _ => ?_)
        refine A_iconst (a := 0) (by decide +kernel) (by unfold in32; omega) ?_
        refine A_goto (off := 4) (tgt := 79) (by decide +kernel) (by omega) ?_
        refine A_iadd (by decide +kernel) ?_
        refine A_istore_n (i := 3) (f := 3) rfl (by decide +kernel) (by decide) (fun w h0 hw => by simp at hw; first | (rw [← hw]; decide) | (rw [← hw]; simp)) ?_
        refine A_iinc (i := 5) (n := 1) (by decide +kernel) (by decide) rfl (fun w h0 hw => by simp at hw; first | (rw [← hw]; decide) | (rw [← hw]; simp)) ?_
        refine A_goto (off := (-65)) (tgt := 19) (by decide +kernel) (by omega) ?_
        exact A_weak (lsub.keep (lsub.keep (lsub.keep (lsub.keep (lsub.keep (lsub.keep lsub.nil)))))) h30
theorem q_11_isSaid {x1 : Int} {x2 : Int} {x3 : Int} {x4 : Int} {M : Mem} {P : Int → Mem → Prop} (h : (CI m11_isSaying 3 [(20, ((59 : Nat) : Int)), (0, x1), (0, x2), (0, x3)] M (fun r1 M2 => ((r1 = 0 → (P 0 M2)) ∧ (r1 ≠ 0 → (CI m11_isRow 2 [(20, ((59 : Nat) : Int)), (0, x4)] M2 (fun r7 M8 => ((r7 = 0 → (P 0 M8)) ∧ (r7 ≠ 0 → (P 1 M8)))))))))) : CI m11_isSaid 4 [(20, ((59 : Nat) : Int)), (0, x1), (0, x2), (0, x3), (0, x4)] M P := by
  refine CI_of (by decide +kernel) (Nat.le_of_ble_eq_true rfl) ?_
  show A m11_isSaid 4 0 0 [(20, ((59 : Nat) : Int)), (0, x1), (0, x2), (0, x3), (0, x4)] [] M (Ki P)
  refine A_aload_n (i := 0) (f := 0) (by omega) rfl (by decide +kernel) rfl ?_
  refine A_iload_n (i := 1) (f := 1) rfl (by decide +kernel) rfl ?_
  refine A_iload_n (i := 2) (f := 2) rfl (by decide +kernel) rfl ?_
  refine A_iload_n (i := 3) (f := 3) rfl (by decide +kernel) rfl ?_
  refine A_cVi (q := (RX11, TX11, 59)) (ci := 10) (o := ((59 : Nat) : Int)) (args := [(0, x1), (0, x2), (0, x3)]) (st := []) (by decide +kernel) cv_m11_isSaying rfl rfl in_m11_isSaying se_m11_isSaying lk_11_366 rfl (by omega) (Nat.le_of_ble_eq_true rfl) h (fun r1 M2 _ h3 => ?_)
  refine A_if_eq (off := 16) (tgt := 23) (by decide +kernel) (by omega) (fun b4 => ?_) (fun b4 => ?_)
  · have h5 := h3.1 b4
    refine A_iconst (a := 0) (by decide +kernel) (by unfold in32; omega) ?_
    exact A_ret ⟨by decide +kernel, Or.inr ⟨rfl, by decide⟩⟩ ⟨_, rfl, h5⟩
  · have h6 := h3.2 b4
    refine A_aload_n (i := 0) (f := 0) (by omega) rfl (by decide +kernel) rfl ?_
    refine A_iload (i := 4) (by decide +kernel) rfl ?_
    refine A_cVi (q := (RX11, TX11, 59)) (ci := 10) (o := ((59 : Nat) : Int)) (args := [(0, x4)]) (st := []) (by decide +kernel) cv_m11_isRow rfl rfl in_m11_isRow se_m11_isRow lk_11_383 rfl (by omega) (Nat.le_of_ble_eq_true rfl) h6 (fun r7 M8 _ h9 => ?_)
    refine A_if_eq (off := 7) (tgt := 23) (by decide +kernel) (by omega) (fun b10 => ?_) (fun b10 => ?_)
    · have h11 := h9.1 b10
      refine A_iconst (a := 0) (by decide +kernel) (by unfold in32; omega) ?_
      exact A_ret ⟨by decide +kernel, Or.inr ⟨rfl, by decide⟩⟩ ⟨_, rfl, h11⟩
    · have h12 := h9.2 b10
      refine A_iconst (a := 1) (by decide +kernel) (by unfold in32; omega) ?_
      refine A_goto (off := 4) (tgt := 24) (by decide +kernel) (by omega) ?_
      exact A_ret ⟨by decide +kernel, Or.inr ⟨rfl, by decide⟩⟩ ⟨_, rfl, h12⟩
theorem q_11_offence {x1 : Int} {x2 : Int} {x3 : Int} {x4 : Int} {M : Mem} {P : Int → Mem → Prop} (h : (CI m11_isSaid 4 [(20, ((59 : Nat) : Int)), (0, x1), (0, x2), (0, x3), (0, x4)] (mset M 59 0 0) (fun r1 M2 => ((r1 ≠ 0 → (CD m11_layNow 3 [(20, ((59 : Nat) : Int)), (0, (M2 59 32))] M2 (fun M8 => (CI m11_right 5 [(20, ((59 : Nat) : Int)), (0, x1), (0, x2), (0, x3), (0, (M8 59 32))] M8 (fun r10 M11 => (CI m11_turned 3 [(20, ((59 : Nat) : Int)), (0, x4), (0, r10)] M11 (fun r13 M14 => (P r13 M14)))))))) ∧ (r1 = 0 → (P (-1) M2)))))) : CI m11_offence 6 [(20, ((59 : Nat) : Int)), (0, x1), (0, x2), (0, x3), (0, x4)] M P := by
  refine CI_of (by decide +kernel) (Nat.le_of_ble_eq_true rfl) ?_
  show A m11_offence 6 0 0 [(20, ((59 : Nat) : Int)), (0, x1), (0, x2), (0, x3), (0, x4)] [] M (Ki P)
  refine A_aload_n (i := 0) (f := 0) (by omega) rfl (by decide +kernel) rfl ?_
  refine A_iconst (a := 0) (by decide +kernel) (by unfold in32; omega) ?_
  refine B_putp (M' := (mset M 59 0 0)) (q := (RX11, TX11, 59)) (ci := 10) (j := 0) (p := 0) (by decide +kernel) rfl (by decide) rfl (Or.inl ⟨rfl, rfl⟩) rfl fl_11_118 rfl ?_
  refine A_aload_n (i := 0) (f := 0) (by omega) rfl (by decide +kernel) rfl ?_
  refine A_iload_n (i := 1) (f := 1) rfl (by decide +kernel) rfl ?_
  refine A_iload_n (i := 2) (f := 2) rfl (by decide +kernel) rfl ?_
  refine A_iload_n (i := 3) (f := 3) rfl (by decide +kernel) rfl ?_
  refine A_iload (i := 4) (by decide +kernel) rfl ?_
  refine A_cVi (q := (RX11, TX11, 59)) (ci := 10) (o := ((59 : Nat) : Int)) (args := [(0, x1), (0, x2), (0, x3), (0, x4)]) (st := []) (by decide +kernel) cv_m11_isSaid rfl rfl in_m11_isSaid se_m11_isSaid lk_11_386 rfl (by omega) (Nat.le_of_ble_eq_true rfl) h (fun r1 M2 _ h3 => ?_)
  refine A_if_ne (off := 5) (tgt := 19) (by decide +kernel) (by omega) (fun b4 => ?_) (fun b4 => ?_)
  · have h5 := h3.1 b4
    refine A_aload_n (i := 0) (f := 0) (by omega) rfl (by decide +kernel) rfl ?_
    refine A_aload_n (i := 0) (f := 0) (by omega) rfl (by decide +kernel) rfl ?_
    refine B_getp (v := (M2 59 32)) (q := (RX11, TX11, 59)) (ci := 10) (j := 32) (p := 32) (by decide +kernel) rfl (by decide) rfl (Or.inl rfl) fl_11_296 rfl ?_
    refine A_cVd (q := (RX11, TX11, 59)) (ci := 10) (o := ((59 : Nat) : Int)) (args := [(0, (M2 59 32))]) (st := []) (by decide +kernel) cv_m11_layNow rfl rfl in_m11_layNow se_m11_layNow lk_11_309 rfl (by omega) (Nat.le_of_ble_eq_true rfl) h5 (fun M8 h9 => ?_)
    refine A_aload_n (i := 0) (f := 0) (by omega) rfl (by decide +kernel) rfl ?_
    refine A_iload (i := 4) (by decide +kernel) rfl ?_
    refine A_aload_n (i := 0) (f := 0) (by omega) rfl (by decide +kernel) rfl ?_
    refine A_iload_n (i := 1) (f := 1) rfl (by decide +kernel) rfl ?_
    refine A_iload_n (i := 2) (f := 2) rfl (by decide +kernel) rfl ?_
    refine A_iload_n (i := 3) (f := 3) rfl (by decide +kernel) rfl ?_
    refine A_aload_n (i := 0) (f := 0) (by omega) rfl (by decide +kernel) rfl ?_
    refine B_getp (v := (M8 59 32)) (q := (RX11, TX11, 59)) (ci := 10) (j := 32) (p := 32) (by decide +kernel) rfl (by decide) rfl (Or.inl rfl) fl_11_296 rfl ?_
    refine A_cVi (q := (RX11, TX11, 59)) (ci := 10) (o := ((59 : Nat) : Int)) (args := [(0, x1), (0, x2), (0, x3), (0, (M8 59 32))]) (st := [(0, x4), (20, ((59 : Nat) : Int))]) (by decide +kernel) cv_m11_right rfl rfl in_m11_right se_m11_right lk_11_369 rfl (by omega) (Nat.le_of_ble_eq_true rfl) h9 (fun r10 M11 _ h12 => ?_)
    refine A_cVi (q := (RX11, TX11, 59)) (ci := 10) (o := ((59 : Nat) : Int)) (args := [(0, x4), (0, r10)]) (st := []) (by decide +kernel) cv_m11_turned rfl rfl in_m11_turned se_m11_turned lk_11_390 rfl (by omega) (Nat.le_of_ble_eq_true rfl) h12 (fun r13 M14 _ h15 => ?_)
    exact A_ret ⟨by decide +kernel, Or.inl rfl⟩ ⟨_, rfl, h15⟩
  · have h6 := h3.2 (Decidable.not_not.mp b4)
    refine A_iconst (a := (-1)) (by decide +kernel) (by unfold in32; omega) ?_
    exact A_ret ⟨by decide +kernel, Or.inl rfl⟩ ⟨_, rfl, h6⟩
theorem q_11_bitsOf {x0 : Int} {M : Mem} {P : Int → Mem → Prop} (h : A m11_bitsOf 1 0 4 [(0, x0), (0, 0), (0, 0)] [] M (Ki P)) : CI m11_bitsOf 1 [(0, x0)] M P := by
  refine CI_of (by decide +kernel) (Nat.le_of_ble_eq_true rfl) ?_
  show A m11_bitsOf 1 0 0 [(0, x0), (2, 0), (2, 0)] [] M (Ki P)
  refine A_iconst (a := 0) (by decide +kernel) (by unfold in32; omega) ?_
  refine A_istore_n (i := 1) (f := 1) rfl (by decide +kernel) (by decide) (fun w h0 hw => by simp at hw; first | (rw [← hw]; decide) | (rw [← hw]; simp)) ?_
  refine A_iconst (a := 0) (by decide +kernel) (by unfold in32; omega) ?_
  refine A_istore_n (i := 2) (f := 2) rfl (by decide +kernel) (by decide) (fun w h0 hw => by simp at hw; first | (rw [← hw]; decide) | (rw [← hw]; simp)) ?_
  exact A_weak (lsub.keep (lsub.keep (lsub.keep lsub.nil))) h
theorem r_11_bitsOf_4 {x0 : Int} {x1 : Int} {x2 : Int} {M : Mem} {P : Int → Mem → Prop} (h : ((31 ≤ x2 → (P x1 M)) ∧ (x2 < 31 → A m11_bitsOf 1 0 4 [(0, x0), (0, (w32 (x1 + (iand (ishr x0 x2) 1)))), (0, (w32 (x2 + 1)))] [] M (Ki P)))) : A m11_bitsOf 1 0 4 [(0, x0), (0, x1), (0, x2)] [] M (Ki P) := by
  refine A_iload_n (i := 2) (f := 2) rfl (by decide +kernel) rfl ?_
  refine A_bipush (a := 31) (by decide +kernel) (by unfold in32; omega) (by decide +kernel) ?_
  refine A_ic_ge (off := 17) (tgt := 24) (by decide +kernel) (by omega) (fun b1 => ?_) (fun b1 => ?_)
  · have h2 := h.1 b1
    refine A_iload_n (i := 1) (f := 1) rfl (by decide +kernel) rfl ?_
    exact A_ret ⟨by decide +kernel, Or.inl rfl⟩ ⟨_, rfl, h2⟩
  · have h3 := h.2 (Int.not_le.mp b1)
    refine A_iload_n (i := 1) (f := 1) rfl (by decide +kernel) rfl ?_
    refine A_iload_n (i := 0) (f := 0) rfl (by decide +kernel) rfl ?_
    refine A_iload_n (i := 2) (f := 2) rfl (by decide +kernel) rfl ?_
    refine A_ishr (by decide +kernel) ?_
    refine A_iconst (a := 1) (by decide +kernel) (by unfold in32; omega) ?_
    refine A_iand (by decide +kernel) ?_
    refine A_iadd (by decide +kernel) ?_
    refine A_istore_n (i := 1) (f := 1) rfl (by decide +kernel) (by decide) (fun w h0 hw => by simp at hw; first | (rw [← hw]; decide) | (rw [← hw]; simp)) ?_
    refine A_iinc (i := 2) (n := 1) (by decide +kernel) (by decide) rfl (fun w h0 hw => by simp at hw; first | (rw [← hw]; decide) | (rw [← hw]; simp)) ?_
    refine A_goto (off := (-17)) (tgt := 4) (by decide +kernel) (by omega) ?_
    exact A_weak (lsub.keep (lsub.keep (lsub.keep lsub.nil))) h3
theorem q_11_amends {x1 : Int} {x2 : Int} {x3 : Int} {x4 : Int} {M : Mem} {P : Int → Mem → Prop} (h : (CI m11_isSaid 4 [(20, ((59 : Nat) : Int)), (0, x1), (0, x2), (0, x3), (0, x4)] (mset M 59 0 0) (fun r1 M2 => ((r1 ≠ 0 → (CD m11_layNow 3 [(20, ((59 : Nat) : Int)), (0, (M2 59 32))] M2 (fun M8 => (CI m11_right 5 [(20, ((59 : Nat) : Int)), (0, x1), (0, x2), (0, x3), (0, (M8 59 32))] M8 (fun r10 M11 => A m11_amends 6 0 46 [(20, ((59 : Nat) : Int)), (2, 0), (2, 0), (2, 0), (0, x4), (0, r10), (0, 0), (0, 0)] [] M11 (Ki P)))))) ∧ (r1 = 0 → (P (-1) M2)))))) : CI m11_amends 6 [(20, ((59 : Nat) : Int)), (0, x1), (0, x2), (0, x3), (0, x4)] M P := by
  refine CI_of (by decide +kernel) (Nat.le_of_ble_eq_true rfl) ?_
  show A m11_amends 6 0 0 [(20, ((59 : Nat) : Int)), (0, x1), (0, x2), (0, x3), (0, x4), (2, 0), (2, 0), (2, 0)] [] M (Ki P)
  refine A_aload_n (i := 0) (f := 0) (by omega) rfl (by decide +kernel) rfl ?_
  refine A_iconst (a := 0) (by decide +kernel) (by unfold in32; omega) ?_
  refine B_putp (M' := (mset M 59 0 0)) (q := (RX11, TX11, 59)) (ci := 10) (j := 0) (p := 0) (by decide +kernel) rfl (by decide) rfl (Or.inl ⟨rfl, rfl⟩) rfl fl_11_118 rfl ?_
  refine A_aload_n (i := 0) (f := 0) (by omega) rfl (by decide +kernel) rfl ?_
  refine A_iload_n (i := 1) (f := 1) rfl (by decide +kernel) rfl ?_
  refine A_iload_n (i := 2) (f := 2) rfl (by decide +kernel) rfl ?_
  refine A_iload_n (i := 3) (f := 3) rfl (by decide +kernel) rfl ?_
  refine A_iload (i := 4) (by decide +kernel) rfl ?_
  refine A_cVi (q := (RX11, TX11, 59)) (ci := 10) (o := ((59 : Nat) : Int)) (args := [(0, x1), (0, x2), (0, x3), (0, x4)]) (st := []) (by decide +kernel) cv_m11_isSaid rfl rfl in_m11_isSaid se_m11_isSaid lk_11_386 rfl (by omega) (Nat.le_of_ble_eq_true rfl) h (fun r1 M2 _ h3 => ?_)
  refine A_if_ne (off := 5) (tgt := 19) (by decide +kernel) (by omega) (fun b4 => ?_) (fun b4 => ?_)
  · have h5 := h3.1 b4
    refine A_aload_n (i := 0) (f := 0) (by omega) rfl (by decide +kernel) rfl ?_
    refine A_aload_n (i := 0) (f := 0) (by omega) rfl (by decide +kernel) rfl ?_
    refine B_getp (v := (M2 59 32)) (q := (RX11, TX11, 59)) (ci := 10) (j := 32) (p := 32) (by decide +kernel) rfl (by decide) rfl (Or.inl rfl) fl_11_296 rfl ?_
    refine A_cVd (q := (RX11, TX11, 59)) (ci := 10) (o := ((59 : Nat) : Int)) (args := [(0, (M2 59 32))]) (st := []) (by decide +kernel) cv_m11_layNow rfl rfl in_m11_layNow se_m11_layNow lk_11_309 rfl (by omega) (Nat.le_of_ble_eq_true rfl) h5 (fun M8 h9 => ?_)
    refine A_aload_n (i := 0) (f := 0) (by omega) rfl (by decide +kernel) rfl ?_
    refine A_iload_n (i := 1) (f := 1) rfl (by decide +kernel) rfl ?_
    refine A_iload_n (i := 2) (f := 2) rfl (by decide +kernel) rfl ?_
    refine A_iload_n (i := 3) (f := 3) rfl (by decide +kernel) rfl ?_
    refine A_aload_n (i := 0) (f := 0) (by omega) rfl (by decide +kernel) rfl ?_
    refine B_getp (v := (M8 59 32)) (q := (RX11, TX11, 59)) (ci := 10) (j := 32) (p := 32) (by decide +kernel) rfl (by decide) rfl (Or.inl rfl) fl_11_296 rfl ?_
    refine A_cVi (q := (RX11, TX11, 59)) (ci := 10) (o := ((59 : Nat) : Int)) (args := [(0, x1), (0, x2), (0, x3), (0, (M8 59 32))]) (st := []) (by decide +kernel) cv_m11_right rfl rfl in_m11_right se_m11_right lk_11_369 rfl (by omega) (Nat.le_of_ble_eq_true rfl) h9 (fun r10 M11 _ h12 => ?_)
    refine A_istore (i := 5) (by decide +kernel) (by decide) (fun w h0 hw => by simp at hw; first | (rw [← hw]; decide) | (rw [← hw]; simp)) ?_
    refine A_iconst (a := 0) (by decide +kernel) (by unfold in32; omega) ?_
    refine A_istore (i := 6) (by decide +kernel) (by decide) (fun w h0 hw => by simp at hw; first | (rw [← hw]; decide) | (rw [← hw]; simp)) ?_
    refine A_iconst (a := 0) (by decide +kernel) (by unfold in32; omega) ?_
    refine A_istore (i := 7) (by decide +kernel) (by decide) (fun w h0 hw => by simp at hw; first | (rw [← hw]; decide) | (rw [← hw]; simp)) ?_
    exact A_weak (lsub.keep (lsub.drop (lsub.drop (lsub.drop (lsub.keep (lsub.keep (lsub.keep (lsub.keep lsub.nil)))))))) h12
  · have h6 := h3.2 (Decidable.not_not.mp b4)
    refine A_iconst (a := (-1)) (by decide +kernel) (by unfold in32; omega) ?_
    exact A_ret ⟨by decide +kernel, Or.inl rfl⟩ ⟨_, rfl, h6⟩
theorem r_11_amends_46 {x4 : Int} {x5 : Int} {x6 : Int} {x7 : Int} {M : Mem} {P : Int → Mem → Prop} (h : (((ishl 1 (M 61 2)) ≤ x7 → (P (w32 ((M 61 2) - x6)) M)) ∧ (x7 < (ishl 1 (M 61 2)) → (CI m11_stays 3 [(20, ((59 : Nat) : Int)), (0, x7), (0, x4), (0, x5)] M (fun r4 M5 => ((r4 = 0 → A m11_amends 6 0 46 [(20, ((59 : Nat) : Int)), (2, 0), (2, 0), (2, 0), (0, x4), (0, x5), (0, x6), (0, (w32 (x7 + 1)))] [] M5 (Ki P)) ∧ (r4 ≠ 0 → (CI m11_bitsOf 1 [(0, x7)] M5 (fun r10 M11 => A m11_amends 6 0 46 [(20, ((59 : Nat) : Int)), (2, 0), (2, 0), (2, 0), (0, x4), (0, x5), (0, (if x6 < r10 then r10 else x6)), (0, (w32 (x7 + 1)))] [] M11 (Ki P)))))))))) : A m11_amends 6 0 46 [(20, ((59 : Nat) : Int)), (2, 0), (2, 0), (2, 0), (0, x4), (0, x5), (0, x6), (0, x7)] [] M (Ki P) := by
  refine A_iload (i := 7) (by decide +kernel) rfl ?_
  refine A_iconst (a := 1) (by decide +kernel) (by unfold in32; omega) ?_
  refine A_aload_n (i := 0) (f := 0) (by omega) rfl (by decide +kernel) rfl ?_
  refine B_getr (o' := ((61 : Nat) : Int)) (q := (RX11, TX11, 59)) (ci := 10) (j := 3) (by decide +kernel) rfl (by decide) rfl (by omega) fl_11_13 rfl ?_
  refine A_iconst (a := 2) (by decide +kernel) (by unfold in32; omega) ?_
  refine B_iald (v := (M 61 2)) (by decide +kernel) (by decide) rfl ?_
  refine A_ishl (by decide +kernel) ?_
  refine A_ic_ge (off := 34) (tgt := 90) (by decide +kernel) (by omega) (fun b1 => ?_) (fun b1 => ?_)
  · have h2 := h.1 b1
    refine A_aload_n (i := 0) (f := 0) (by omega) rfl (by decide +kernel) rfl ?_
    refine B_getr (o' := ((61 : Nat) : Int)) (q := (RX11, TX11, 59)) (ci := 10) (j := 3) (by decide +kernel) rfl (by decide) rfl (by omega) fl_11_13 rfl ?_
    refine A_iconst (a := 2) (by decide +kernel) (by unfold in32; omega) ?_
    refine B_iald (v := (M 61 2)) (by decide +kernel) (by decide) rfl ?_
    refine A_iload (i := 6) (by decide +kernel) rfl ?_
    refine A_isub (by decide +kernel) ?_
    exact A_ret ⟨by decide +kernel, Or.inl rfl⟩ ⟨_, rfl, h2⟩
  · have h3 := h.2 (Int.not_le.mp b1)
    refine A_aload_n (i := 0) (f := 0) (by omega) rfl (by decide +kernel) rfl ?_
    refine A_iload (i := 7) (by decide +kernel) rfl ?_
    refine A_iload (i := 4) (by decide +kernel) rfl ?_
    refine A_iload (i := 5) (by decide +kernel) rfl ?_
    refine A_cVi (q := (RX11, TX11, 59)) (ci := 10) (o := ((59 : Nat) : Int)) (args := [(0, x7), (0, x4), (0, x5)]) (st := []) (by decide +kernel) cv_m11_stays rfl rfl in_m11_stays se_m11_stays lk_11_393 rfl (by omega) (Nat.le_of_ble_eq_true rfl) h3 (fun r4 M5 _ h6 => ?_)
    refine A_if_eq (off := 15) (tgt := 84) (by decide +kernel) (by omega) (fun b7 => ?_) (fun b7 => ?_)
    · have h8 := h6.1 b7
      refine A_iinc (i := 7) (n := 1) (by decide +kernel) (by decide) rfl (fun w h0 hw => by simp at hw; first | (rw [← hw]; decide) | (rw [← hw]; simp)) ?_
      refine A_goto (off := (-41)) (tgt := 46) (by decide +kernel) (by omega) ?_
      exact A_weak (lsub.keep (lsub.drop (lsub.drop (lsub.drop (lsub.keep (lsub.keep (lsub.keep (lsub.keep lsub.nil)))))))) h8
    · have h9 := h6.2 b7
      refine A_iload (i := 6) (by decide +kernel) rfl ?_
      refine A_iload (i := 7) (by decide +kernel) rfl ?_
      refine A_cSi (args := [(0, x7)]) (st := [(0, x6)]) (by decide +kernel) cv_m11_bitsOf st_m11_bitsOf lk_11_396 rfl (by omega) (Nat.le_of_ble_eq_true rfl) h9 (fun r10 M11 _ h12 => ?_)
      refine A_max (by decide +kernel) (by omega) (Nat.le_of_ble_eq_true rfl) lk_11_399 jst_max jin_math jcd_max ?_
      refine A_istore (i := 6) (by decide +kernel) (by decide) (fun w h0 hw => by simp at hw; first | (rw [← hw]; decide) | (rw [← hw]; simp)) ?_
      refine A_iinc (i := 7) (n := 1) (by decide +kernel) (by decide) rfl (fun w h0 hw => by simp at hw; first | (rw [← hw]; decide) | (rw [← hw]; simp)) ?_
      refine A_goto (off := (-41)) (tgt := 46) (by decide +kernel) (by omega) ?_
      exact A_weak (lsub.keep (lsub.drop (lsub.drop (lsub.drop (lsub.keep (lsub.keep (lsub.keep (lsub.keep lsub.nil)))))))) h12
theorem q_11_stays {x1 : Int} {x2 : Int} {x3 : Int} {M : Mem} {P : Int → Mem → Prop} (h : A m11_stays 3 0 6 [(20, ((59 : Nat) : Int)), (0, x1), (0, x2), (0, x3), (0, (-1)), (0, 0), (2, 0)] [] M (Ki P)) : CI m11_stays 3 [(20, ((59 : Nat) : Int)), (0, x1), (0, x2), (0, x3)] M P := by
  refine CI_of (by decide +kernel) (Nat.le_of_ble_eq_true rfl) ?_
  show A m11_stays 3 0 0 [(20, ((59 : Nat) : Int)), (0, x1), (0, x2), (0, x3), (2, 0), (2, 0), (2, 0)] [] M (Ki P)
  refine A_iconst (a := (-1)) (by decide +kernel) (by unfold in32; omega) ?_
  refine A_istore (i := 4) (by decide +kernel) (by decide) (fun w h0 hw => by simp at hw; first | (rw [← hw]; decide) | (rw [← hw]; simp)) ?_
  refine A_iconst (a := 0) (by decide +kernel) (by unfold in32; omega) ?_
  refine A_istore (i := 5) (by decide +kernel) (by decide) (fun w h0 hw => by simp at hw; first | (rw [← hw]; decide) | (rw [← hw]; simp)) ?_
  exact A_weak (lsub.keep (lsub.keep (lsub.keep (lsub.keep (lsub.keep (lsub.keep (lsub.drop lsub.nil))))))) h
theorem r_11_stays_6 {x1 : Int} {x2 : Int} {x3 : Int} {x4 : Int} {x5 : Int} {M : Mem} {P : Int → Mem → Prop} (h : (((M 61 2) ≤ x5 → (P 1 M)) ∧ (x5 < (M 61 2) → (CI m11_wordOf 1 [(0, x2), (0, x5)] M (fun r4 M5 => (((iand (ishr x1 r4) 1) ≠ 0 → (CI m11_wordOf 1 [(0, x2), (0, x5)] M5 (fun r10 M11 => (CI m11_placeIn 2 [(20, ((59 : Nat) : Int)), (0, x3), (0, r10)] M11 (fun r13 M14 => ((x4 ≤ r13 → A m11_stays 3 0 6 [(20, ((59 : Nat) : Int)), (0, x1), (0, x2), (0, x3), (0, r13), (0, (w32 (x5 + 1))), (2, 0)] [] M14 (Ki P)) ∧ (r13 < x4 → (P 0 M14)))))))) ∧ ((iand (ishr x1 r4) 1) = 0 → A m11_stays 3 0 6 [(20, ((59 : Nat) : Int)), (0, x1), (0, x2), (0, x3), (0, x4), (0, (w32 (x5 + 1))), (2, 0)] [] M5 (Ki P)))))))) : A m11_stays 3 0 6 [(20, ((59 : Nat) : Int)), (0, x1), (0, x2), (0, x3), (0, x4), (0, x5), (2, 0)] [] M (Ki P) := by
  refine A_iload (i := 5) (by decide +kernel) rfl ?_
  refine A_aload_n (i := 0) (f := 0) (by omega) rfl (by decide +kernel) rfl ?_
  refine B_getr (o' := ((61 : Nat) : Int)) (q := (RX11, TX11, 59)) (ci := 10) (j := 3) (by decide +kernel) rfl (by decide) rfl (by omega) fl_11_13 rfl ?_
  refine A_iconst (a := 2) (by decide +kernel) (by unfold in32; omega) ?_
  refine B_iald (v := (M 61 2)) (by decide +kernel) (by decide) rfl ?_
  refine A_ic_ge (off := 51) (tgt := 65) (by decide +kernel) (by omega) (fun b1 => ?_) (fun b1 => ?_)
  · have h2 := h.1 b1
    refine A_iconst (a := 1) (by decide +kernel) (by unfold in32; omega) ?_
    exact A_ret ⟨by decide +kernel, Or.inr ⟨rfl, by decide⟩⟩ ⟨_, rfl, h2⟩
  · have h3 := h.2 (Int.not_le.mp b1)
    refine A_iload_n (i := 1) (f := 1) rfl (by decide +kernel) rfl ?_
    refine A_iload_n (i := 2) (f := 2) rfl (by decide +kernel) rfl ?_
    refine A_iload (i := 5) (by decide +kernel) rfl ?_
    refine A_cSi (args := [(0, x2), (0, x5)]) (st := [(0, x1)]) (by decide +kernel) cv_m11_wordOf st_m11_wordOf lk_11_377 rfl (by omega) (Nat.le_of_ble_eq_true rfl) h3 (fun r4 M5 _ h6 => ?_)
    refine A_ishr (by decide +kernel) ?_
    refine A_iconst (a := 1) (by decide +kernel) (by unfold in32; omega) ?_
    refine A_iand (by decide +kernel) ?_
    refine A_if_ne (off := 6) (tgt := 33) (by decide +kernel) (by omega) (fun b7 => ?_) (fun b7 => ?_)
    · have h8 := h6.1 b7
      refine A_aload_n (i := 0) (f := 0) (by omega) rfl (by decide +kernel) rfl ?_
      refine A_iload_n (i := 3) (f := 3) rfl (by decide +kernel) rfl ?_
      refine A_iload_n (i := 2) (f := 2) rfl (by decide +kernel) rfl ?_
      refine A_iload (i := 5) (by decide +kernel) rfl ?_
      refine A_cSi (args := [(0, x2), (0, x5)]) (st := [(0, x3), (20, ((59 : Nat) : Int))]) (by decide +kernel) cv_m11_wordOf st_m11_wordOf lk_11_377 rfl (by omega) (Nat.le_of_ble_eq_true rfl) h8 (fun r10 M11 _ h12 => ?_)
      refine A_cVi (q := (RX11, TX11, 59)) (ci := 10) (o := ((59 : Nat) : Int)) (args := [(0, x3), (0, r10)]) (st := []) (by decide +kernel) cv_m11_placeIn rfl rfl in_m11_placeIn se_m11_placeIn lk_11_380 rfl (by omega) (Nat.le_of_ble_eq_true rfl) h12 (fun r13 M14 _ h15 => ?_)
      refine A_istore (i := 6) (by decide +kernel) (by decide) (fun w h0 hw => by simp at hw; first | (rw [← hw]; decide) | (rw [← hw]; simp)) ?_
      refine A_iload (i := 6) (by decide +kernel) rfl ?_
      refine A_iload (i := 4) (by decide +kernel) rfl ?_
      refine A_ic_ge (off := 5) (tgt := 55) (by decide +kernel) (by omega) (fun b16 => ?_) (fun b16 => ?_)
      · have h17 := h15.1 b16
        refine A_iload (i := 6) (by decide +kernel) rfl ?_
        refine A_istore (i := 4) (by decide +kernel) (by decide) (fun w h0 hw => by simp at hw; first | (rw [← hw]; decide) | (rw [← hw]; simp)) ?_
        refine A_iinc (i := 5) (n := 1) (by decide +kernel) (by decide) rfl (fun w h0 hw => by simp at hw; first | (rw [← hw]; decide) | (rw [← hw]; simp)) ?_
        refine A_goto (off := (-56)) (tgt := 6) (by decide +kernel) (by omega) ?_
        exact A_weak (lsub.keep (lsub.keep (lsub.keep (lsub.keep (lsub.keep (lsub.keep (lsub.drop lsub.nil))))))) h17
      · have h18 := h15.2 (Int.not_le.mp b16)
        refine A_iconst (a := 0) (by decide +kernel) (by unfold in32; omega) ?_
        exact A_ret ⟨by decide +kernel, Or.inr ⟨rfl, by decide⟩⟩ ⟨_, rfl, h18⟩
    · have h9 := h6.2 (Decidable.not_not.mp b7)
      refine A_goto (off := 29) (tgt := 59) (by decide +kernel) (by omega) ?_
      refine A_iinc (i := 5) (n := 1) (by decide +kernel) (by decide) rfl (fun w h0 hw => by simp at hw; first | (rw [← hw]; decide) | (rw [← hw]; simp)) ?_
      refine A_goto (off := (-56)) (tgt := 6) (by decide +kernel) (by omega) ?_
      exact A_weak (lsub.keep (lsub.keep (lsub.keep (lsub.keep (lsub.keep (lsub.keep (lsub.drop lsub.nil))))))) h9
theorem q_11_clash {x1 : Int} {x2 : Int} {M : Mem} {P : Int → Mem → Prop} (h : A m11_clash 1 0 2 [(20, ((59 : Nat) : Int)), (0, x1), (0, x2), (0, 0), (2, 0)] [] M (Ki P)) : CI m11_clash 1 [(20, ((59 : Nat) : Int)), (0, x1), (0, x2)] M P := by
  refine CI_of (by decide +kernel) (Nat.le_of_ble_eq_true rfl) ?_
  show A m11_clash 1 0 0 [(20, ((59 : Nat) : Int)), (0, x1), (0, x2), (2, 0), (2, 0)] [] M (Ki P)
  refine A_iconst (a := 0) (by decide +kernel) (by unfold in32; omega) ?_
  refine A_istore_n (i := 3) (f := 3) rfl (by decide +kernel) (by decide) (fun w h0 hw => by simp at hw; first | (rw [← hw]; decide) | (rw [← hw]; simp)) ?_
  exact A_weak (lsub.keep (lsub.keep (lsub.keep (lsub.keep (lsub.drop lsub.nil))))) h
theorem r_11_clash_2 {x1 : Int} {x2 : Int} {x3 : Int} {M : Mem} {P : Int → Mem → Prop} (h : ((5 ≤ x3 → (P (-1) M)) ∧ (x3 < 5 → A m11_clash 1 0 12 [(20, ((59 : Nat) : Int)), (0, x1), (0, x2), (0, x3), (0, (w32 (x3 + 1)))] [] M (Ki P)))) : A m11_clash 1 0 2 [(20, ((59 : Nat) : Int)), (0, x1), (0, x2), (0, x3), (2, 0)] [] M (Ki P) := by
  refine A_iload_n (i := 3) (f := 3) rfl (by decide +kernel) rfl ?_
  refine A_iconst (a := 5) (by decide +kernel) (by unfold in32; omega) ?_
  refine A_ic_ge (off := 72) (tgt := 76) (by decide +kernel) (by omega) (fun b1 => ?_) (fun b1 => ?_)
  · have h2 := h.1 b1
    refine A_iconst (a := (-1)) (by decide +kernel) (by unfold in32; omega) ?_
    exact A_ret ⟨by decide +kernel, Or.inl rfl⟩ ⟨_, rfl, h2⟩
  · have h3 := h.2 (Int.not_le.mp b1)
    refine A_iload_n (i := 3) (f := 3) rfl (by decide +kernel) rfl ?_
    refine A_iconst (a := 1) (by decide +kernel) (by unfold in32; omega) ?_
    refine A_iadd (by decide +kernel) ?_
    refine A_istore (i := 4) (by decide +kernel) (by decide) (fun w h0 hw => by simp at hw; first | (rw [← hw]; decide) | (rw [← hw]; simp)) ?_
    exact A_weak (lsub.keep (lsub.keep (lsub.keep (lsub.keep (lsub.keep lsub.nil))))) h3
theorem r_11_clash_12 {x1 : Int} {x2 : Int} {x3 : Int} {x4 : Int} {M : Mem} {P : Int → Mem → Prop} (h : ((5 ≤ x4 → A m11_clash 1 0 2 [(20, ((59 : Nat) : Int)), (0, x1), (0, x2), (0, (w32 (x3 + 1))), (2, 0)] [] M (Ki P)) ∧ (x4 < 5 → (((iand (ishr x1 x3) 1) ≠ 1 → A m11_clash 1 0 12 [(20, ((59 : Nat) : Int)), (0, x1), (0, x2), (0, x3), (0, (w32 (x4 + 1)))] [] M (Ki P)) ∧ ((iand (ishr x1 x3) 1) = 1 → (((iand (ishr x1 x4) 1) ≠ 1 → A m11_clash 1 0 12 [(20, ((59 : Nat) : Int)), (0, x1), (0, x2), (0, x3), (0, (w32 (x4 + 1)))] [] M (Ki P)) ∧ ((iand (ishr x1 x4) 1) = 1 → ((0 ≤ x3 ∧ x3 < 5) ∧ ((0 ≤ x4 ∧ x4 < 5) ∧ (((M 81 (x3).toNat) = (M 81 (x4).toNat) → A m11_clash 1 0 12 [(20, ((59 : Nat) : Int)), (0, x1), (0, x2), (0, x3), (0, (w32 (x4 + 1)))] [] M (Ki P)) ∧ ((M 81 (x3).toNat) ≠ (M 81 (x4).toNat) → ((x2 = 0 → (P x4 M)) ∧ (x2 ≠ 0 → (P x3 M)))))))))))))) : A m11_clash 1 0 12 [(20, ((59 : Nat) : Int)), (0, x1), (0, x2), (0, x3), (0, x4)] [] M (Ki P) := by
  refine A_iload (i := 4) (by decide +kernel) rfl ?_
  refine A_iconst (a := 5) (by decide +kernel) (by unfold in32; omega) ?_
  refine A_ic_ge (off := 55) (tgt := 70) (by decide +kernel) (by omega) (fun b1 => ?_) (fun b1 => ?_)
  · have h2 := h.1 b1
    refine A_iinc (i := 3) (n := 1) (by decide +kernel) (by decide) rfl (fun w h0 hw => by simp at hw; first | (rw [← hw]; decide) | (rw [← hw]; simp)) ?_
    refine A_goto (off := (-71)) (tgt := 2) (by decide +kernel) (by omega) ?_
    exact A_weak (lsub.keep (lsub.keep (lsub.keep (lsub.keep (lsub.drop lsub.nil))))) h2
  · have h3 := h.2 (Int.not_le.mp b1)
    refine A_iload_n (i := 1) (f := 1) rfl (by decide +kernel) rfl ?_
    refine A_iload_n (i := 3) (f := 3) rfl (by decide +kernel) rfl ?_
    refine A_ishr (by decide +kernel) ?_
    refine A_iconst (a := 1) (by decide +kernel) (by unfold in32; omega) ?_
    refine A_iand (by decide +kernel) ?_
    refine A_iconst (a := 1) (by decide +kernel) (by unfold in32; omega) ?_
    refine A_ic_ne (off := 40) (tgt := 64) (by decide +kernel) (by omega) (fun b4 => ?_) (fun b4 => ?_)
    · have h5 := h3.1 b4
      refine A_iinc (i := 4) (n := 1) (by decide +kernel) (by decide) rfl (fun w h0 hw => by simp at hw; first | (rw [← hw]; decide) | (rw [← hw]; simp)) ?_
      refine A_goto (off := (-55)) (tgt := 12) (by decide +kernel) (by omega) ?_
      exact A_weak (lsub.keep (lsub.keep (lsub.keep (lsub.keep (lsub.keep lsub.nil))))) h5
    · have h6 := h3.2 (Decidable.not_not.mp b4)
      refine A_iload_n (i := 1) (f := 1) rfl (by decide +kernel) rfl ?_
      refine A_iload (i := 4) (by decide +kernel) rfl ?_
      refine A_ishr (by decide +kernel) ?_
      refine A_iconst (a := 1) (by decide +kernel) (by unfold in32; omega) ?_
      refine A_iand (by decide +kernel) ?_
      refine A_iconst (a := 1) (by decide +kernel) (by unfold in32; omega) ?_
      refine A_ic_ne (off := 30) (tgt := 64) (by decide +kernel) (by omega) (fun b7 => ?_) (fun b7 => ?_)
      · have h8 := h6.1 b7
        refine A_iinc (i := 4) (n := 1) (by decide +kernel) (by decide) rfl (fun w h0 hw => by simp at hw; first | (rw [← hw]; decide) | (rw [← hw]; simp)) ?_
        refine A_goto (off := (-55)) (tgt := 12) (by decide +kernel) (by omega) ?_
        exact A_weak (lsub.keep (lsub.keep (lsub.keep (lsub.keep (lsub.keep lsub.nil))))) h8
      · have h9 := h6.2 (Decidable.not_not.mp b7)
        refine A_aload_n (i := 0) (f := 0) (by omega) rfl (by decide +kernel) rfl ?_
        refine B_getr (o' := ((81 : Nat) : Int)) (q := (RX11, TX11, 59)) (ci := 10) (j := 42) (by decide +kernel) rfl (by decide) rfl (by omega) fl_11_79 rfl ?_
        refine A_iload_n (i := 3) (f := 3) rfl (by decide +kernel) rfl ?_
        refine B_iald (v := (M 81 (x3).toNat)) (by decide +kernel) h9.1 rfl ?_
        have h10 := h9.2
        refine A_aload_n (i := 0) (f := 0) (by omega) rfl (by decide +kernel) rfl ?_
        refine B_getr (o' := ((81 : Nat) : Int)) (q := (RX11, TX11, 59)) (ci := 10) (j := 42) (by decide +kernel) rfl (by decide) rfl (by omega) fl_11_79 rfl ?_
        refine A_iload (i := 4) (by decide +kernel) rfl ?_
        refine B_iald (v := (M 81 (x4).toNat)) (by decide +kernel) h10.1 rfl ?_
        have h11 := h10.2
        refine A_ic_eq (off := 14) (tgt := 64) (by decide +kernel) (by omega) (fun b12 => ?_) (fun b12 => ?_)
        · have h13 := h11.1 b12
          refine A_iinc (i := 4) (n := 1) (by decide +kernel) (by decide) rfl (fun w h0 hw => by simp at hw; first | (rw [← hw]; decide) | (rw [← hw]; simp)) ?_
          refine A_goto (off := (-55)) (tgt := 12) (by decide +kernel) (by omega) ?_
          exact A_weak (lsub.keep (lsub.keep (lsub.keep (lsub.keep (lsub.keep lsub.nil))))) h13
        · have h14 := h11.2 b12
          refine A_iload_n (i := 2) (f := 2) rfl (by decide +kernel) rfl ?_
          refine A_if_eq (off := 7) (tgt := 61) (by decide +kernel) (by omega) (fun b15 => ?_) (fun b15 => ?_)
          · have h16 := h14.1 b15
            refine A_iload (i := 4) (by decide +kernel) rfl ?_
            exact A_ret ⟨by decide +kernel, Or.inl rfl⟩ ⟨_, rfl, h16⟩
          · have h17 := h14.2 b15
            refine A_iload_n (i := 3) (f := 3) rfl (by decide +kernel) rfl ?_
            refine A_goto (off := 5) (tgt := 63) (by decide +kernel) (by omega) ?_
            exact A_ret ⟨by decide +kernel, Or.inl rfl⟩ ⟨_, rfl, h17⟩
theorem q_11_canBe {x0 : Int} {x1 : Int} {x2 : Int} {M : Mem} {P : Int → Mem → Prop} (h : ((x0 ≠ 1 → A m11_canBe 1 0 15 [(0, x0), (0, x1), (0, x2)] [] M (Ki P)) ∧ (x0 = 1 → ((x1 ≠ (-1) → A m11_canBe 1 0 15 [(0, x0), (0, x1), (0, x2)] [] M (Ki P)) ∧ (x1 = (-1) → ((x2 ≠ (-1) → A m11_canBe 1 0 30 [(2, 0), (2, 0), (2, 0)] [] M (Ki P)) ∧ (x2 = (-1) → A m11_canBe 1 0 15 [(0, x0), (0, x1), (0, x2)] [] M (Ki P)))))))) : CI m11_canBe 1 [(0, x0), (0, x1), (0, x2)] M P := by
  refine CI_of (by decide +kernel) (Nat.le_of_ble_eq_true rfl) ?_
  show A m11_canBe 1 0 0 [(0, x0), (0, x1), (0, x2)] [] M (Ki P)
  refine A_iload_n (i := 0) (f := 0) rfl (by decide +kernel) rfl ?_
  refine A_iconst (a := 1) (by decide +kernel) (by unfold in32; omega) ?_
  refine A_ic_ne (off := 13) (tgt := 15) (by decide +kernel) (by omega) (fun b1 => ?_) (fun b1 => ?_)
  · have h2 := h.1 b1
    exact A_weak (lsub.keep (lsub.keep (lsub.keep lsub.nil))) h2
  · have h3 := h.2 (Decidable.not_not.mp b1)
    refine A_iload_n (i := 1) (f := 1) rfl (by decide +kernel) rfl ?_
    refine A_iconst (a := (-1)) (by decide +kernel) (by unfold in32; omega) ?_
    refine A_ic_ne (off := 8) (tgt := 15) (by decide +kernel) (by omega) (fun b4 => ?_) (fun b4 => ?_)
    · have h5 := h3.1 b4
      exact A_weak (lsub.keep (lsub.keep (lsub.keep lsub.nil))) h5
    · have h6 := h3.2 (Decidable.not_not.mp b4)
      refine A_iload_n (i := 2) (f := 2) rfl (by decide +kernel) rfl ?_
      refine A_iconst (a := (-1)) (by decide +kernel) (by unfold in32; omega) ?_
      refine A_ic_ne (off := 18) (tgt := 30) (by decide +kernel) (by omega) (fun b7 => ?_) (fun b7 => ?_)
      · have h8 := h6.1 b7
        exact A_weak (lsub.drop (lsub.drop (lsub.drop lsub.nil))) h8
      · have h9 := h6.2 (Decidable.not_not.mp b7)
        exact A_weak (lsub.keep (lsub.keep (lsub.keep lsub.nil))) h9
theorem r_11_canBe_15 {x0 : Int} {x1 : Int} {x2 : Int} {M : Mem} {P : Int → Mem → Prop} (h : ((x0 ≠ (-1) → A m11_canBe 1 0 32 [(0, x0), (0, x1), (0, x2)] [] M (Ki P)) ∧ (x0 = (-1) → ((x1 ≠ 1 → A m11_canBe 1 0 32 [(0, x0), (0, x1), (0, x2)] [] M (Ki P)) ∧ (x1 = 1 → ((x2 = 1 → A m11_canBe 1 0 32 [(0, x0), (0, x1), (0, x2)] [] M (Ki P)) ∧ (x2 ≠ 1 → A m11_canBe 1 0 30 [(2, 0), (2, 0), (2, 0)] [] M (Ki P)))))))) : A m11_canBe 1 0 15 [(0, x0), (0, x1), (0, x2)] [] M (Ki P) := by
  refine A_iload_n (i := 0) (f := 0) rfl (by decide +kernel) rfl ?_
  refine A_iconst (a := (-1)) (by decide +kernel) (by unfold in32; omega) ?_
  refine A_ic_ne (off := 15) (tgt := 32) (by decide +kernel) (by omega) (fun b1 => ?_) (fun b1 => ?_)
  · have h2 := h.1 b1
    exact A_weak (lsub.keep (lsub.keep (lsub.keep lsub.nil))) h2
  · have h3 := h.2 (Decidable.not_not.mp b1)
    refine A_iload_n (i := 1) (f := 1) rfl (by decide +kernel) rfl ?_
    refine A_iconst (a := 1) (by decide +kernel) (by unfold in32; omega) ?_
    refine A_ic_ne (off := 10) (tgt := 32) (by decide +kernel) (by omega) (fun b4 => ?_) (fun b4 => ?_)
    · have h5 := h3.1 b4
      exact A_weak (lsub.keep (lsub.keep (lsub.keep lsub.nil))) h5
    · have h6 := h3.2 (Decidable.not_not.mp b4)
      refine A_iload_n (i := 2) (f := 2) rfl (by decide +kernel) rfl ?_
      refine A_iconst (a := 1) (by decide +kernel) (by unfold in32; omega) ?_
      refine A_ic_eq (off := 5) (tgt := 32) (by decide +kernel) (by omega) (fun b7 => ?_) (fun b7 => ?_)
      · have h8 := h6.1 b7
        exact A_weak (lsub.keep (lsub.keep (lsub.keep lsub.nil))) h8
      · have h9 := h6.2 b7
        exact A_weak (lsub.drop (lsub.drop (lsub.drop lsub.nil))) h9
theorem r_11_canBe_30  {M : Mem} {P : Int → Mem → Prop} (h : (P 0 M)) : A m11_canBe 1 0 30 [(2, 0), (2, 0), (2, 0)] [] M (Ki P) := by
  refine A_iconst (a := 0) (by decide +kernel) (by unfold in32; omega) ?_
  exact A_ret ⟨by decide +kernel, Or.inr ⟨rfl, by decide⟩⟩ ⟨_, rfl, h⟩
theorem r_11_canBe_32 {x0 : Int} {x1 : Int} {x2 : Int} {M : Mem} {P : Int → Mem → Prop} (h : ((x0 ≠ (-1) → A m11_canBe 1 0 47 [(0, x0), (0, x1), (0, x2)] [] M (Ki P)) ∧ (x0 = (-1) → ((x2 ≠ (-1) → A m11_canBe 1 0 47 [(0, x0), (0, x1), (0, x2)] [] M (Ki P)) ∧ (x2 = (-1) → ((x1 ≠ (-1) → A m11_canBe 1 0 62 [(2, 0), (2, 0), (2, 0)] [] M (Ki P)) ∧ (x1 = (-1) → A m11_canBe 1 0 47 [(0, x0), (0, x1), (0, x2)] [] M (Ki P)))))))) : A m11_canBe 1 0 32 [(0, x0), (0, x1), (0, x2)] [] M (Ki P) := by
  refine A_iload_n (i := 0) (f := 0) rfl (by decide +kernel) rfl ?_
  refine A_iconst (a := (-1)) (by decide +kernel) (by unfold in32; omega) ?_
  refine A_ic_ne (off := 13) (tgt := 47) (by decide +kernel) (by omega) (fun b1 => ?_) (fun b1 => ?_)
  · have h2 := h.1 b1
    exact A_weak (lsub.keep (lsub.keep (lsub.keep lsub.nil))) h2
  · have h3 := h.2 (Decidable.not_not.mp b1)
    refine A_iload_n (i := 2) (f := 2) rfl (by decide +kernel) rfl ?_
    refine A_iconst (a := (-1)) (by decide +kernel) (by unfold in32; omega) ?_
    refine A_ic_ne (off := 8) (tgt := 47) (by decide +kernel) (by omega) (fun b4 => ?_) (fun b4 => ?_)
    · have h5 := h3.1 b4
      exact A_weak (lsub.keep (lsub.keep (lsub.keep lsub.nil))) h5
    · have h6 := h3.2 (Decidable.not_not.mp b4)
      refine A_iload_n (i := 1) (f := 1) rfl (by decide +kernel) rfl ?_
      refine A_iconst (a := (-1)) (by decide +kernel) (by unfold in32; omega) ?_
      refine A_ic_ne (off := 18) (tgt := 62) (by decide +kernel) (by omega) (fun b7 => ?_) (fun b7 => ?_)
      · have h8 := h6.1 b7
        exact A_weak (lsub.drop (lsub.drop (lsub.drop lsub.nil))) h8
      · have h9 := h6.2 (Decidable.not_not.mp b7)
        exact A_weak (lsub.keep (lsub.keep (lsub.keep lsub.nil))) h9
theorem r_11_canBe_47 {x0 : Int} {x1 : Int} {x2 : Int} {M : Mem} {P : Int → Mem → Prop} (h : ((x0 ≠ 1 → A m11_canBe 1 0 64 [(0, x0), (0, x1), (0, x2)] [] M (Ki P)) ∧ (x0 = 1 → ((x2 ≠ 1 → A m11_canBe 1 0 64 [(0, x0), (0, x1), (0, x2)] [] M (Ki P)) ∧ (x2 = 1 → ((x1 = 1 → A m11_canBe 1 0 64 [(0, x0), (0, x1), (0, x2)] [] M (Ki P)) ∧ (x1 ≠ 1 → A m11_canBe 1 0 62 [(2, 0), (2, 0), (2, 0)] [] M (Ki P)))))))) : A m11_canBe 1 0 47 [(0, x0), (0, x1), (0, x2)] [] M (Ki P) := by
  refine A_iload_n (i := 0) (f := 0) rfl (by decide +kernel) rfl ?_
  refine A_iconst (a := 1) (by decide +kernel) (by unfold in32; omega) ?_
  refine A_ic_ne (off := 15) (tgt := 64) (by decide +kernel) (by omega) (fun b1 => ?_) (fun b1 => ?_)
  · have h2 := h.1 b1
    exact A_weak (lsub.keep (lsub.keep (lsub.keep lsub.nil))) h2
  · have h3 := h.2 (Decidable.not_not.mp b1)
    refine A_iload_n (i := 2) (f := 2) rfl (by decide +kernel) rfl ?_
    refine A_iconst (a := 1) (by decide +kernel) (by unfold in32; omega) ?_
    refine A_ic_ne (off := 10) (tgt := 64) (by decide +kernel) (by omega) (fun b4 => ?_) (fun b4 => ?_)
    · have h5 := h3.1 b4
      exact A_weak (lsub.keep (lsub.keep (lsub.keep lsub.nil))) h5
    · have h6 := h3.2 (Decidable.not_not.mp b4)
      refine A_iload_n (i := 1) (f := 1) rfl (by decide +kernel) rfl ?_
      refine A_iconst (a := 1) (by decide +kernel) (by unfold in32; omega) ?_
      refine A_ic_eq (off := 5) (tgt := 64) (by decide +kernel) (by omega) (fun b7 => ?_) (fun b7 => ?_)
      · have h8 := h6.1 b7
        exact A_weak (lsub.keep (lsub.keep (lsub.keep lsub.nil))) h8
      · have h9 := h6.2 b7
        exact A_weak (lsub.drop (lsub.drop (lsub.drop lsub.nil))) h9
theorem r_11_canBe_62  {M : Mem} {P : Int → Mem → Prop} (h : (P 0 M)) : A m11_canBe 1 0 62 [(2, 0), (2, 0), (2, 0)] [] M (Ki P) := by
  refine A_iconst (a := 0) (by decide +kernel) (by unfold in32; omega) ?_
  exact A_ret ⟨by decide +kernel, Or.inr ⟨rfl, by decide⟩⟩ ⟨_, rfl, h⟩
theorem r_11_canBe_64 {x0 : Int} {x1 : Int} {x2 : Int} {M : Mem} {P : Int → Mem → Prop} (h : ((x1 ≠ 1 → A m11_canBe 1 0 79 [(0, x0), (0, x1), (0, x2)] [] M (Ki P)) ∧ (x1 = 1 → ((x2 ≠ (-1) → A m11_canBe 1 0 79 [(0, x0), (0, x1), (0, x2)] [] M (Ki P)) ∧ (x2 = (-1) → ((x0 ≠ 1 → A m11_canBe 1 0 98 [(2, 0), (2, 0), (2, 0)] [] M (Ki P)) ∧ (x0 = 1 → A m11_canBe 1 0 79 [(0, x0), (0, x1), (0, x2)] [] M (Ki P)))))))) : A m11_canBe 1 0 64 [(0, x0), (0, x1), (0, x2)] [] M (Ki P) := by
  refine A_iload_n (i := 1) (f := 1) rfl (by decide +kernel) rfl ?_
  refine A_iconst (a := 1) (by decide +kernel) (by unfold in32; omega) ?_
  refine A_ic_ne (off := 13) (tgt := 79) (by decide +kernel) (by omega) (fun b1 => ?_) (fun b1 => ?_)
  · have h2 := h.1 b1
    exact A_weak (lsub.keep (lsub.keep (lsub.keep lsub.nil))) h2
  · have h3 := h.2 (Decidable.not_not.mp b1)
    refine A_iload_n (i := 2) (f := 2) rfl (by decide +kernel) rfl ?_
    refine A_iconst (a := (-1)) (by decide +kernel) (by unfold in32; omega) ?_
    refine A_ic_ne (off := 8) (tgt := 79) (by decide +kernel) (by omega) (fun b4 => ?_) (fun b4 => ?_)
    · have h5 := h3.1 b4
      exact A_weak (lsub.keep (lsub.keep (lsub.keep lsub.nil))) h5
    · have h6 := h3.2 (Decidable.not_not.mp b4)
      refine A_iload_n (i := 0) (f := 0) rfl (by decide +kernel) rfl ?_
      refine A_iconst (a := 1) (by decide +kernel) (by unfold in32; omega) ?_
      refine A_ic_ne (off := 22) (tgt := 98) (by decide +kernel) (by omega) (fun b7 => ?_) (fun b7 => ?_)
      · have h8 := h6.1 b7
        exact A_weak (lsub.drop (lsub.drop (lsub.drop lsub.nil))) h8
      · have h9 := h6.2 (Decidable.not_not.mp b7)
        exact A_weak (lsub.keep (lsub.keep (lsub.keep lsub.nil))) h9
theorem r_11_canBe_79 {x0 : Int} {x1 : Int} {x2 : Int} {M : Mem} {P : Int → Mem → Prop} (h : ((x1 ≠ (-1) → A m11_canBe 1 0 94 [(2, 0), (2, 0), (2, 0)] [] M (Ki P)) ∧ (x1 = (-1) → ((x2 ≠ 1 → A m11_canBe 1 0 94 [(2, 0), (2, 0), (2, 0)] [] M (Ki P)) ∧ (x2 = 1 → ((x0 ≠ (-1) → A m11_canBe 1 0 98 [(2, 0), (2, 0), (2, 0)] [] M (Ki P)) ∧ (x0 = (-1) → A m11_canBe 1 0 94 [(2, 0), (2, 0), (2, 0)] [] M (Ki P)))))))) : A m11_canBe 1 0 79 [(0, x0), (0, x1), (0, x2)] [] M (Ki P) := by
  refine A_iload_n (i := 1) (f := 1) rfl (by decide +kernel) rfl ?_
  refine A_iconst (a := (-1)) (by decide +kernel) (by unfold in32; omega) ?_
  refine A_ic_ne (off := 13) (tgt := 94) (by decide +kernel) (by omega) (fun b1 => ?_) (fun b1 => ?_)
  · have h2 := h.1 b1
    exact A_weak (lsub.drop (lsub.drop (lsub.drop lsub.nil))) h2
  · have h3 := h.2 (Decidable.not_not.mp b1)
    refine A_iload_n (i := 2) (f := 2) rfl (by decide +kernel) rfl ?_
    refine A_iconst (a := 1) (by decide +kernel) (by unfold in32; omega) ?_
    refine A_ic_ne (off := 8) (tgt := 94) (by decide +kernel) (by omega) (fun b4 => ?_) (fun b4 => ?_)
    · have h5 := h3.1 b4
      exact A_weak (lsub.drop (lsub.drop (lsub.drop lsub.nil))) h5
    · have h6 := h3.2 (Decidable.not_not.mp b4)
      refine A_iload_n (i := 0) (f := 0) rfl (by decide +kernel) rfl ?_
      refine A_iconst (a := (-1)) (by decide +kernel) (by unfold in32; omega) ?_
      refine A_ic_ne (off := 7) (tgt := 98) (by decide +kernel) (by omega) (fun b7 => ?_) (fun b7 => ?_)
      · have h8 := h6.1 b7
        exact A_weak (lsub.drop (lsub.drop (lsub.drop lsub.nil))) h8
      · have h9 := h6.2 (Decidable.not_not.mp b7)
        exact A_weak (lsub.drop (lsub.drop (lsub.drop lsub.nil))) h9
theorem r_11_canBe_94  {M : Mem} {P : Int → Mem → Prop} (h : (P 1 M)) : A m11_canBe 1 0 94 [(2, 0), (2, 0), (2, 0)] [] M (Ki P) := by
  refine A_iconst (a := 1) (by decide +kernel) (by unfold in32; omega) ?_
  refine A_goto (off := 4) (tgt := 99) (by decide +kernel) (by omega) ?_
  exact A_ret ⟨by decide +kernel, Or.inr ⟨rfl, by decide⟩⟩ ⟨_, rfl, h⟩
theorem r_11_canBe_98  {M : Mem} {P : Int → Mem → Prop} (h : (P 0 M)) : A m11_canBe 1 0 98 [(2, 0), (2, 0), (2, 0)] [] M (Ki P) := by
  refine A_iconst (a := 0) (by decide +kernel) (by unfold in32; omega) ?_
  exact A_ret ⟨by decide +kernel, Or.inr ⟨rfl, by decide⟩⟩ ⟨_, rfl, h⟩
theorem q_11_isWay {x0 : Int} {x1 : Int} {M : Mem} {P : Int → Mem → Prop} (h : ((x1 = 0 → (CI m11_canBe 1 [(0, (w32 ((w32 (Int.tdiv x0 9)) - 1))), (0, (w32 ((w32 (Int.tmod (w32 (Int.tdiv x0 3)) 3)) - 1))), (0, (w32 ((w32 (Int.tmod x0 3)) - 1)))] M (fun r4 M5 => ((r4 = 0 ∨ r4 = 1) ∧ P r4 M5)))) ∧ (x1 ≠ 0 → (((w32 ((w32 (Int.tmod (w32 (Int.tdiv x0 3)) 3)) - 1)) ≠ (w32 ((w32 (Int.tdiv x0 9)) - 1)) → (P 0 M)) ∧ ((w32 ((w32 (Int.tmod (w32 (Int.tdiv x0 3)) 3)) - 1)) = (w32 ((w32 (Int.tdiv x0 9)) - 1)) → (((w32 ((w32 (Int.tmod x0 3)) - 1)) ≠ 0 → (P 0 M)) ∧ ((w32 ((w32 (Int.tmod x0 3)) - 1)) = 0 → (P 1 M)))))))) : CI m11_isWay 2 [(0, x0), (0, x1)] M P := by
  refine CI_of (by decide +kernel) (Nat.le_of_ble_eq_true rfl) ?_
  show A m11_isWay 2 0 0 [(0, x0), (0, x1), (2, 0), (2, 0), (2, 0)] [] M (Ki P)
  refine A_iload_n (i := 0) (f := 0) rfl (by decide +kernel) rfl ?_
  refine A_bipush (a := 9) (by decide +kernel) (by unfold in32; omega) (by decide +kernel) ?_
  refine A_idiv (by decide +kernel) (by omega) ?_
  refine A_iconst (a := 1) (by decide +kernel) (by unfold in32; omega) ?_
  refine A_isub (by decide +kernel) ?_
  refine A_istore_n (i := 2) (f := 2) rfl (by decide +kernel) (by decide) (fun w h0 hw => by simp at hw; first | (rw [← hw]; decide) | (rw [← hw]; simp)) ?_
  refine A_iload_n (i := 0) (f := 0) rfl (by decide +kernel) rfl ?_
  refine A_iconst (a := 3) (by decide +kernel) (by unfold in32; omega) ?_
  refine A_idiv (by decide +kernel) (by omega) ?_
  refine A_iconst (a := 3) (by decide +kernel) (by unfold in32; omega) ?_
  refine A_irem (by decide +kernel) (by omega) ?_
  refine A_iconst (a := 1) (by decide +kernel) (by unfold in32; omega) ?_
  refine A_isub (by decide +kernel) ?_
  refine A_istore_n (i := 3) (f := 3) rfl (by decide +kernel) (by decide) (fun w h0 hw => by simp at hw; first | (rw [← hw]; decide) | (rw [← hw]; simp)) ?_
  refine A_iload_n (i := 0) (f := 0) rfl (by decide +kernel) rfl ?_
  refine A_iconst (a := 3) (by decide +kernel) (by unfold in32; omega) ?_
  refine A_irem (by decide +kernel) (by omega) ?_
  refine A_iconst (a := 1) (by decide +kernel) (by unfold in32; omega) ?_
  refine A_isub (by decide +kernel) ?_
  refine A_istore (i := 4) (by decide +kernel) (by decide) (fun w h0 hw => by simp at hw; first | (rw [← hw]; decide) | (rw [← hw]; simp)) ?_
  refine A_iload_n (i := 1) (f := 1) rfl (by decide +kernel) rfl ?_
  refine A_if_eq (off := 21) (tgt := 44) (by decide +kernel) (by omega) (fun b1 => ?_) (fun b1 => ?_)
  · have h2 := h.1 b1
    refine A_iload_n (i := 2) (f := 2) rfl (by decide +kernel) rfl ?_
    refine A_iload_n (i := 3) (f := 3) rfl (by decide +kernel) rfl ?_
    refine A_iload (i := 4) (by decide +kernel) rfl ?_
    refine A_cSi (args := [(0, (w32 ((w32 (Int.tdiv x0 9)) - 1))), (0, (w32 ((w32 (Int.tmod (w32 (Int.tdiv x0 3)) 3)) - 1))), (0, (w32 ((w32 (Int.tmod x0 3)) - 1)))]) (st := []) (by decide +kernel) cv_m11_canBe st_m11_canBe lk_11_418 rfl (by omega) (Nat.le_of_ble_eq_true rfl) h2 (fun r4 M5 _ h6 => ?_)
    exact A_ret ⟨by decide +kernel, Or.inr ⟨rfl, h6.1⟩⟩ ⟨_, rfl, h6.2⟩
  · have h3 := h.2 b1
    refine A_iload_n (i := 3) (f := 3) rfl (by decide +kernel) rfl ?_
    refine A_iload_n (i := 2) (f := 2) rfl (by decide +kernel) rfl ?_
    refine A_ic_ne (off := 12) (tgt := 40) (by decide +kernel) (by omega) (fun b7 => ?_) (fun b7 => ?_)
    · have h8 := h3.1 b7
      refine A_iconst (a := 0) (by decide +kernel) (by unfold in32; omega) ?_
      refine A_goto (off := 10) (tgt := 51) (by decide +kernel) (by omega) ?_
      exact A_ret ⟨by decide +kernel, Or.inr ⟨rfl, by decide⟩⟩ ⟨_, rfl, h8⟩
    · have h9 := h3.2 (Decidable.not_not.mp b7)
      refine A_iload (i := 4) (by decide +kernel) rfl ?_
      refine A_if_ne (off := 7) (tgt := 40) (by decide +kernel) (by omega) (fun b10 => ?_) (fun b10 => ?_)
      · have h11 := h9.1 b10
        refine A_iconst (a := 0) (by decide +kernel) (by unfold in32; omega) ?_
        refine A_goto (off := 10) (tgt := 51) (by decide +kernel) (by omega) ?_
        exact A_ret ⟨by decide +kernel, Or.inr ⟨rfl, by decide⟩⟩ ⟨_, rfl, h11⟩
      · have h12 := h9.2 (Decidable.not_not.mp b10)
        refine A_iconst (a := 1) (by decide +kernel) (by unfold in32; omega) ?_
        refine A_goto (off := 14) (tgt := 51) (by decide +kernel) (by omega) ?_
        exact A_ret ⟨by decide +kernel, Or.inr ⟨rfl, by decide⟩⟩ ⟨_, rfl, h12⟩
theorem q_11_rightBy {x1 : Int} {x2 : Int} {x3 : Int} {x4 : Int} {M : Mem} {P : Int → Mem → Prop} (h : (CD m11_calls 2 [(20, ((59 : Nat) : Int)), (0, x1), (0, x2), (0, x3), (0, (M 59 32)), (0, (w32 ((w32 (Int.tdiv x4 9)) - 1))), (0, (w32 ((w32 (Int.tmod (w32 (Int.tdiv x4 3)) 3)) - 1))), (0, (w32 ((w32 (Int.tmod x4 3)) - 1)))] M (fun M2 => (CD m11_arrange 4 [(20, ((59 : Nat) : Int))] M2 (fun M5 => (CI m11_rowOf 1 [(20, ((59 : Nat) : Int))] M5 (fun r7 M8 => (P r7 M8)))))))) : CI m11_rightBy 5 [(20, ((59 : Nat) : Int)), (0, x1), (0, x2), (0, x3), (0, x4)] M P := by
  refine CI_of (by decide +kernel) (Nat.le_of_ble_eq_true rfl) ?_
  show A m11_rightBy 5 0 0 [(20, ((59 : Nat) : Int)), (0, x1), (0, x2), (0, x3), (0, x4)] [] M (Ki P)
  refine A_aload_n (i := 0) (f := 0) (by omega) rfl (by decide +kernel) rfl ?_
  refine A_iload_n (i := 1) (f := 1) rfl (by decide +kernel) rfl ?_
  refine A_iload_n (i := 2) (f := 2) rfl (by decide +kernel) rfl ?_
  refine A_iload_n (i := 3) (f := 3) rfl (by decide +kernel) rfl ?_
  refine A_aload_n (i := 0) (f := 0) (by omega) rfl (by decide +kernel) rfl ?_
  refine B_getp (v := (M 59 32)) (q := (RX11, TX11, 59)) (ci := 10) (j := 32) (p := 32) (by decide +kernel) rfl (by decide) rfl (Or.inl rfl) fl_11_296 rfl ?_
  refine A_iload (i := 4) (by decide +kernel) rfl ?_
  refine A_bipush (a := 9) (by decide +kernel) (by unfold in32; omega) (by decide +kernel) ?_
  refine A_idiv (by decide +kernel) (by omega) ?_
  refine A_iconst (a := 1) (by decide +kernel) (by unfold in32; omega) ?_
  refine A_isub (by decide +kernel) ?_
  refine A_iload (i := 4) (by decide +kernel) rfl ?_
  refine A_iconst (a := 3) (by decide +kernel) (by unfold in32; omega) ?_
  refine A_idiv (by decide +kernel) (by omega) ?_
  refine A_iconst (a := 3) (by decide +kernel) (by unfold in32; omega) ?_
  refine A_irem (by decide +kernel) (by omega) ?_
  refine A_iconst (a := 1) (by decide +kernel) (by unfold in32; omega) ?_
  refine A_isub (by decide +kernel) ?_
  refine A_iload (i := 4) (by decide +kernel) rfl ?_
  refine A_iconst (a := 3) (by decide +kernel) (by unfold in32; omega) ?_
  refine A_irem (by decide +kernel) (by omega) ?_
  refine A_iconst (a := 1) (by decide +kernel) (by unfold in32; omega) ?_
  refine A_isub (by decide +kernel) ?_
  refine A_cVd (q := (RX11, TX11, 59)) (ci := 10) (o := ((59 : Nat) : Int)) (args := [(0, x1), (0, x2), (0, x3), (0, (M 59 32)), (0, (w32 ((w32 (Int.tdiv x4 9)) - 1))), (0, (w32 ((w32 (Int.tmod (w32 (Int.tdiv x4 3)) 3)) - 1))), (0, (w32 ((w32 (Int.tmod x4 3)) - 1)))]) (st := []) (by decide +kernel) cv_m11_calls rfl rfl in_m11_calls se_m11_calls lk_11_350 rfl (by omega) (Nat.le_of_ble_eq_true rfl) h (fun M2 h3 => ?_)
  refine A_aload_n (i := 0) (f := 0) (by omega) rfl (by decide +kernel) rfl ?_
  refine A_cVd (q := (RX11, TX11, 59)) (ci := 10) (o := ((59 : Nat) : Int)) (args := []) (st := []) (by decide +kernel) cv_m11_arrange rfl rfl in_m11_arrange se_m11_arrange lk_11_360 rfl (by omega) (Nat.le_of_ble_eq_true rfl) h3 (fun M5 h6 => ?_)
  refine A_aload_n (i := 0) (f := 0) (by omega) rfl (by decide +kernel) rfl ?_
  refine A_cVi (q := (RX11, TX11, 59)) (ci := 10) (o := ((59 : Nat) : Int)) (args := []) (st := []) (by decide +kernel) cv_m11_rowOf rfl rfl in_m11_rowOf se_m11_rowOf lk_11_363 rfl (by omega) (Nat.le_of_ble_eq_true rfl) h6 (fun r7 M8 _ h9 => ?_)
  exact A_ret ⟨by decide +kernel, Or.inl rfl⟩ ⟨_, rfl, h9⟩
theorem q_11_claims {x1 : Int} {x2 : Int} {x3 : Int} {x4 : Int} {M : Mem} {P : Int → Mem → Prop} (h : (CI m11_isSaid 4 [(20, ((59 : Nat) : Int)), (0, x1), (0, x2), (0, x3), (0, x4)] (mset M 59 0 0) (fun r1 M2 => ((r1 ≠ 0 → A m11_claims 6 0 25 [(20, ((59 : Nat) : Int)), (0, x1), (0, x2), (0, x3), (0, x4), (0, 0), (0, 0)] [] M2 (Ki P)) ∧ (r1 = 0 → (P (-1) M2)))))) : CI m11_claims 6 [(20, ((59 : Nat) : Int)), (0, x1), (0, x2), (0, x3), (0, x4)] M P := by
  refine CI_of (by decide +kernel) (Nat.le_of_ble_eq_true rfl) ?_
  show A m11_claims 6 0 0 [(20, ((59 : Nat) : Int)), (0, x1), (0, x2), (0, x3), (0, x4), (2, 0), (2, 0)] [] M (Ki P)
  refine A_aload_n (i := 0) (f := 0) (by omega) rfl (by decide +kernel) rfl ?_
  refine A_iconst (a := 0) (by decide +kernel) (by unfold in32; omega) ?_
  refine B_putp (M' := (mset M 59 0 0)) (q := (RX11, TX11, 59)) (ci := 10) (j := 0) (p := 0) (by decide +kernel) rfl (by decide) rfl (Or.inl ⟨rfl, rfl⟩) rfl fl_11_118 rfl ?_
  refine A_aload_n (i := 0) (f := 0) (by omega) rfl (by decide +kernel) rfl ?_
  refine A_iload_n (i := 1) (f := 1) rfl (by decide +kernel) rfl ?_
  refine A_iload_n (i := 2) (f := 2) rfl (by decide +kernel) rfl ?_
  refine A_iload_n (i := 3) (f := 3) rfl (by decide +kernel) rfl ?_
  refine A_iload (i := 4) (by decide +kernel) rfl ?_
  refine A_cVi (q := (RX11, TX11, 59)) (ci := 10) (o := ((59 : Nat) : Int)) (args := [(0, x1), (0, x2), (0, x3), (0, x4)]) (st := []) (by decide +kernel) cv_m11_isSaid rfl rfl in_m11_isSaid se_m11_isSaid lk_11_386 rfl (by omega) (Nat.le_of_ble_eq_true rfl) h (fun r1 M2 _ h3 => ?_)
  refine A_if_ne (off := 5) (tgt := 19) (by decide +kernel) (by omega) (fun b4 => ?_) (fun b4 => ?_)
  · have h5 := h3.1 b4
    refine A_iconst (a := 0) (by decide +kernel) (by unfold in32; omega) ?_
    refine A_istore (i := 5) (by decide +kernel) (by decide) (fun w h0 hw => by simp at hw; first | (rw [← hw]; decide) | (rw [← hw]; simp)) ?_
    refine A_iconst (a := 0) (by decide +kernel) (by unfold in32; omega) ?_
    refine A_istore (i := 6) (by decide +kernel) (by decide) (fun w h0 hw => by simp at hw; first | (rw [← hw]; decide) | (rw [← hw]; simp)) ?_
    exact A_weak (lsub.keep (lsub.keep (lsub.keep (lsub.keep (lsub.keep (lsub.keep (lsub.keep lsub.nil))))))) h5
  · have h6 := h3.2 (Decidable.not_not.mp b4)
    refine A_iconst (a := (-1)) (by decide +kernel) (by unfold in32; omega) ?_
    exact A_ret ⟨by decide +kernel, Or.inl rfl⟩ ⟨_, rfl, h6⟩
theorem r_11_claims_25 {x1 : Int} {x2 : Int} {x3 : Int} {x4 : Int} {x5 : Int} {x6 : Int} {M : Mem} {P : Int → Mem → Prop} (h : ((27 ≤ x6 → (P x5 M)) ∧ (x6 < 27 → ((x2 ≠ x3 → (CI m11_isWay 2 [(0, x6), (0, 0)] M (fun r7 M8 => ((r7 = 0 → A m11_claims 6 0 25 [(20, ((59 : Nat) : Int)), (0, x1), (0, x2), (0, x3), (0, x4), (0, x5), (0, (w32 (x6 + 1)))] [] M8 (Ki P)) ∧ (r7 ≠ 0 → (CI m11_rightBy 5 [(20, ((59 : Nat) : Int)), (0, x1), (0, x2), (0, x3), (0, x6)] M8 (fun r13 M14 => ((r13 ≠ x4 → A m11_claims 6 0 25 [(20, ((59 : Nat) : Int)), (0, x1), (0, x2), (0, x3), (0, x4), (0, x5), (0, (w32 (x6 + 1)))] [] M14 (Ki P)) ∧ (r13 = x4 → A m11_claims 6 0 25 [(20, ((59 : Nat) : Int)), (0, x1), (0, x2), (0, x3), (0, x4), (0, (ior x5 (ishl 1 x6))), (0, (w32 (x6 + 1)))] [] M14 (Ki P)))))))))) ∧ (x2 = x3 → (CI m11_isWay 2 [(0, x6), (0, 1)] M (fun r19 M20 => ((r19 = 0 → A m11_claims 6 0 25 [(20, ((59 : Nat) : Int)), (0, x1), (0, x2), (0, x3), (0, x4), (0, x5), (0, (w32 (x6 + 1)))] [] M20 (Ki P)) ∧ (r19 ≠ 0 → (CI m11_rightBy 5 [(20, ((59 : Nat) : Int)), (0, x1), (0, x2), (0, x3), (0, x6)] M20 (fun r25 M26 => ((r25 ≠ x4 → A m11_claims 6 0 25 [(20, ((59 : Nat) : Int)), (0, x1), (0, x2), (0, x3), (0, x4), (0, x5), (0, (w32 (x6 + 1)))] [] M26 (Ki P)) ∧ (r25 = x4 → A m11_claims 6 0 25 [(20, ((59 : Nat) : Int)), (0, x1), (0, x2), (0, x3), (0, x4), (0, (ior x5 (ishl 1 x6))), (0, (w32 (x6 + 1)))] [] M26 (Ki P)))))))))))))) : A m11_claims 6 0 25 [(20, ((59 : Nat) : Int)), (0, x1), (0, x2), (0, x3), (0, x4), (0, x5), (0, x6)] [] M (Ki P) := by
  refine A_iload (i := 6) (by decide +kernel) rfl ?_
  refine A_bipush (a := 27) (by decide +kernel) (by unfold in32; omega) (by decide +kernel) ?_
  refine A_ic_ge (off := 50) (tgt := 79) (by decide +kernel) (by omega) (fun b1 => ?_) (fun b1 => ?_)
  · have h2 := h.1 b1
    refine A_iload (i := 5) (by decide +kernel) rfl ?_
    exact A_ret ⟨by decide +kernel, Or.inl rfl⟩ ⟨_, rfl, h2⟩
  · have h3 := h.2 (Int.not_le.mp b1)
    refine A_iload (i := 6) (by decide +kernel) rfl ?_
    refine A_iload_n (i := 2) (f := 2) rfl (by decide +kernel) rfl ?_
    refine A_iload_n (i := 3) (f := 3) rfl (by decide +kernel) rfl ?_
    refine A_ic_ne (off := 7) (tgt := 43) (by decide +kernel) (by omega) (fun b4 => ?_) (fun b4 => ?_)
    · have h5 := h3.1 b4
      refine A_iconst (a := 0) (by decide +kernel) (by unfold in32; omega) ?_
      refine A_cSi (args := [(0, x6), (0, 0)]) (st := []) (by decide +kernel) cv_m11_isWay st_m11_isWay lk_11_421 rfl (by omega) (Nat.le_of_ble_eq_true rfl) h5 (fun r7 M8 _ h9 => ?_)
      refine A_if_eq (off := 26) (tgt := 73) (by decide +kernel) (by omega) (fun b10 => ?_) (fun b10 => ?_)
      · have h11 := h9.1 b10
        refine A_iinc (i := 6) (n := 1) (by decide +kernel) (by decide) rfl (fun w h0 hw => by simp at hw; first | (rw [← hw]; decide) | (rw [← hw]; simp)) ?_
        refine A_goto (off := (-51)) (tgt := 25) (by decide +kernel) (by omega) ?_
        exact A_weak (lsub.keep (lsub.keep (lsub.keep (lsub.keep (lsub.keep (lsub.keep (lsub.keep lsub.nil))))))) h11
      · have h12 := h9.2 b10
        refine A_aload_n (i := 0) (f := 0) (by omega) rfl (by decide +kernel) rfl ?_
        refine A_iload_n (i := 1) (f := 1) rfl (by decide +kernel) rfl ?_
        refine A_iload_n (i := 2) (f := 2) rfl (by decide +kernel) rfl ?_
        refine A_iload_n (i := 3) (f := 3) rfl (by decide +kernel) rfl ?_
        refine A_iload (i := 6) (by decide +kernel) rfl ?_
        refine A_cVi (q := (RX11, TX11, 59)) (ci := 10) (o := ((59 : Nat) : Int)) (args := [(0, x1), (0, x2), (0, x3), (0, x6)]) (st := []) (by decide +kernel) cv_m11_rightBy rfl rfl in_m11_rightBy se_m11_rightBy lk_11_425 rfl (by omega) (Nat.le_of_ble_eq_true rfl) h12 (fun r13 M14 _ h15 => ?_)
        refine A_iload (i := 4) (by decide +kernel) rfl ?_
        refine A_ic_ne (off := 12) (tgt := 73) (by decide +kernel) (by omega) (fun b16 => ?_) (fun b16 => ?_)
        · have h17 := h15.1 b16
          refine A_iinc (i := 6) (n := 1) (by decide +kernel) (by decide) rfl (fun w h0 hw => by simp at hw; first | (rw [← hw]; decide) | (rw [← hw]; simp)) ?_
          refine A_goto (off := (-51)) (tgt := 25) (by decide +kernel) (by omega) ?_
          exact A_weak (lsub.keep (lsub.keep (lsub.keep (lsub.keep (lsub.keep (lsub.keep (lsub.keep lsub.nil))))))) h17
        · have h18 := h15.2 (Decidable.not_not.mp b16)
          refine A_iload (i := 5) (by decide +kernel) rfl ?_
          refine A_iconst (a := 1) (by decide +kernel) (by unfold in32; omega) ?_
          refine A_iload (i := 6) (by decide +kernel) rfl ?_
          refine A_ishl (by decide +kernel) ?_
          refine A_ior (by decide +kernel) ?_
          refine A_istore (i := 5) (by decide +kernel) (by decide) (fun w h0 hw => by simp at hw; first | (rw [← hw]; decide) | (rw [← hw]; simp)) ?_
          refine A_iinc (i := 6) (n := 1) (by decide +kernel) (by decide) rfl (fun w h0 hw => by simp at hw; first | (rw [← hw]; decide) | (rw [← hw]; simp)) ?_
          refine A_goto (off := (-51)) (tgt := 25) (by decide +kernel) (by omega) ?_
          exact A_weak (lsub.keep (lsub.keep (lsub.keep (lsub.keep (lsub.keep (lsub.keep (lsub.keep lsub.nil))))))) h18
    · have h6 := h3.2 (Decidable.not_not.mp b4)
      refine A_iconst (a := 1) (by decide +kernel) (by unfold in32; omega) ?_
      refine A_goto (off := 4) (tgt := 44) (by decide +kernel) (by omega) ?_
      refine A_cSi (args := [(0, x6), (0, 1)]) (st := []) (by decide +kernel) cv_m11_isWay st_m11_isWay lk_11_421 rfl (by omega) (Nat.le_of_ble_eq_true rfl) h6 (fun r19 M20 _ h21 => ?_)
      refine A_if_eq (off := 26) (tgt := 73) (by decide +kernel) (by omega) (fun b22 => ?_) (fun b22 => ?_)
      · have h23 := h21.1 b22
        refine A_iinc (i := 6) (n := 1) (by decide +kernel) (by decide) rfl (fun w h0 hw => by simp at hw; first | (rw [← hw]; decide) | (rw [← hw]; simp)) ?_
        refine A_goto (off := (-51)) (tgt := 25) (by decide +kernel) (by omega) ?_
        exact A_weak (lsub.keep (lsub.keep (lsub.keep (lsub.keep (lsub.keep (lsub.keep (lsub.keep lsub.nil))))))) h23
      · have h24 := h21.2 b22
        refine A_aload_n (i := 0) (f := 0) (by omega) rfl (by decide +kernel) rfl ?_
        refine A_iload_n (i := 1) (f := 1) rfl (by decide +kernel) rfl ?_
        refine A_iload_n (i := 2) (f := 2) rfl (by decide +kernel) rfl ?_
        refine A_iload_n (i := 3) (f := 3) rfl (by decide +kernel) rfl ?_
        refine A_iload (i := 6) (by decide +kernel) rfl ?_
        refine A_cVi (q := (RX11, TX11, 59)) (ci := 10) (o := ((59 : Nat) : Int)) (args := [(0, x1), (0, x2), (0, x3), (0, x6)]) (st := []) (by decide +kernel) cv_m11_rightBy rfl rfl in_m11_rightBy se_m11_rightBy lk_11_425 rfl (by omega) (Nat.le_of_ble_eq_true rfl) h24 (fun r25 M26 _ h27 => ?_)
        refine A_iload (i := 4) (by decide +kernel) rfl ?_
        refine A_ic_ne (off := 12) (tgt := 73) (by decide +kernel) (by omega) (fun b28 => ?_) (fun b28 => ?_)
        · have h29 := h27.1 b28
          refine A_iinc (i := 6) (n := 1) (by decide +kernel) (by decide) rfl (fun w h0 hw => by simp at hw; first | (rw [← hw]; decide) | (rw [← hw]; simp)) ?_
          refine A_goto (off := (-51)) (tgt := 25) (by decide +kernel) (by omega) ?_
          exact A_weak (lsub.keep (lsub.keep (lsub.keep (lsub.keep (lsub.keep (lsub.keep (lsub.keep lsub.nil))))))) h29
        · have h30 := h27.2 (Decidable.not_not.mp b28)
          refine A_iload (i := 5) (by decide +kernel) rfl ?_
          refine A_iconst (a := 1) (by decide +kernel) (by unfold in32; omega) ?_
          refine A_iload (i := 6) (by decide +kernel) rfl ?_
          refine A_ishl (by decide +kernel) ?_
          refine A_ior (by decide +kernel) ?_
          refine A_istore (i := 5) (by decide +kernel) (by decide) (fun w h0 hw => by simp at hw; first | (rw [← hw]; decide) | (rw [← hw]; simp)) ?_
          refine A_iinc (i := 6) (n := 1) (by decide +kernel) (by decide) rfl (fun w h0 hw => by simp at hw; first | (rw [← hw]; decide) | (rw [← hw]; simp)) ?_
          refine A_goto (off := (-51)) (tgt := 25) (by decide +kernel) (by omega) ?_
          exact A_weak (lsub.keep (lsub.keep (lsub.keep (lsub.keep (lsub.keep (lsub.keep (lsub.keep lsub.nil))))))) h30
theorem q_11_hear {x1 : Int} {x2 : Int} {x3 : Int} {x4 : Int} {x5 : Int} {M : Mem} {P : Int → Mem → Prop} (h : (CI m11_isSaid 4 [(20, ((59 : Nat) : Int)), (0, x1), (0, x2), (0, x3), (0, x5)] (mset M 59 0 0) (fun r1 M2 => ((r1 = 0 → (P (-1) M2)) ∧ (r1 ≠ 0 → (CI m11_isSeason 1 [(0, x4)] M2 (fun r7 M8 => ((r7 = 0 → (P (-1) M8)) ∧ (r7 ≠ 0 → (((M8 59 46) ≠ 24 → ((0 ≤ (M8 59 46) ∧ (M8 59 46) < 24) ∧ ((0 ≤ ((mset M8 82 ((M8 59 46)).toNat x1) 59 46) ∧ ((mset M8 82 ((M8 59 46)).toNat x1) 59 46) < 24) ∧ ((0 ≤ ((mset (mset M8 82 ((M8 59 46)).toNat x1) 83 (((mset M8 82 ((M8 59 46)).toNat x1) 59 46)).toNat x2) 59 46) ∧ ((mset (mset M8 82 ((M8 59 46)).toNat x1) 83 (((mset M8 82 ((M8 59 46)).toNat x1) 59 46)).toNat x2) 59 46) < 24) ∧ ((0 ≤ ((mset (mset (mset M8 82 ((M8 59 46)).toNat x1) 83 (((mset M8 82 ((M8 59 46)).toNat x1) 59 46)).toNat x2) 84 (((mset (mset M8 82 ((M8 59 46)).toNat x1) 83 (((mset M8 82 ((M8 59 46)).toNat x1) 59 46)).toNat x2) 59 46)).toNat x3) 59 46) ∧ ((mset (mset (mset M8 82 ((M8 59 46)).toNat x1) 83 (((mset M8 82 ((M8 59 46)).toNat x1) 59 46)).toNat x2) 84 (((mset (mset M8 82 ((M8 59 46)).toNat x1) 83 (((mset M8 82 ((M8 59 46)).toNat x1) 59 46)).toNat x2) 59 46)).toNat x3) 59 46) < 24) ∧ ((0 ≤ ((mset (mset (mset (mset M8 82 ((M8 59 46)).toNat x1) 83 (((mset M8 82 ((M8 59 46)).toNat x1) 59 46)).toNat x2) 84 (((mset (mset M8 82 ((M8 59 46)).toNat x1) 83 (((mset M8 82 ((M8 59 46)).toNat x1) 59 46)).toNat x2) 59 46)).toNat x3) 85 (((mset (mset (mset M8 82 ((M8 59 46)).toNat x1) 83 (((mset M8 82 ((M8 59 46)).toNat x1) 59 46)).toNat x2) 84 (((mset (mset M8 82 ((M8 59 46)).toNat x1) 83 (((mset M8 82 ((M8 59 46)).toNat x1) 59 46)).toNat x2) 59 46)).toNat x3) 59 46)).toNat x4) 59 46) ∧ ((mset (mset (mset (mset M8 82 ((M8 59 46)).toNat x1) 83 (((mset M8 82 ((M8 59 46)).toNat x1) 59 46)).toNat x2) 84 (((mset (mset M8 82 ((M8 59 46)).toNat x1) 83 (((mset M8 82 ((M8 59 46)).toNat x1) 59 46)).toNat x2) 59 46)).toNat x3) 85 (((mset (mset (mset M8 82 ((M8 59 46)).toNat x1) 83 (((mset M8 82 ((M8 59 46)).toNat x1) 59 46)).toNat x2) 84 (((mset (mset M8 82 ((M8 59 46)).toNat x1) 83 (((mset M8 82 ((M8 59 46)).toNat x1) 59 46)).toNat x2) 59 46)).toNat x3) 59 46)).toNat x4) 59 46) < 24) ∧ (P (w32 (((mset (mset (mset (mset (mset (mset M8 82 ((M8 59 46)).toNat x1) 83 (((mset M8 82 ((M8 59 46)).toNat x1) 59 46)).toNat x2) 84 (((mset (mset M8 82 ((M8 59 46)).toNat x1) 83 (((mset M8 82 ((M8 59 46)).toNat x1) 59 46)).toNat x2) 59 46)).toNat x3) 85 (((mset (mset (mset M8 82 ((M8 59 46)).toNat x1) 83 (((mset M8 82 ((M8 59 46)).toNat x1) 59 46)).toNat x2) 84 (((mset (mset M8 82 ((M8 59 46)).toNat x1) 83 (((mset M8 82 ((M8 59 46)).toNat x1) 59 46)).toNat x2) 59 46)).toNat x3) 59 46)).toNat x4) 86 (((mset (mset (mset (mset M8 82 ((M8 59 46)).toNat x1) 83 (((mset M8 82 ((M8 59 46)).toNat x1) 59 46)).toNat x2) 84 (((mset (mset M8 82 ((M8 59 46)).toNat x1) 83 (((mset M8 82 ((M8 59 46)).toNat x1) 59 46)).toNat x2) 59 46)).toNat x3) 85 (((mset (mset (mset M8 82 ((M8 59 46)).toNat x1) 83 (((mset M8 82 ((M8 59 46)).toNat x1) 59 46)).toNat x2) 84 (((mset (mset M8 82 ((M8 59 46)).toNat x1) 83 (((mset M8 82 ((M8 59 46)).toNat x1) 59 46)).toNat x2) 59 46)).toNat x3) 59 46)).toNat x4) 59 46)).toNat x5) 59 46 (w32 (((mset (mset (mset (mset (mset M8 82 ((M8 59 46)).toNat x1) 83 (((mset M8 82 ((M8 59 46)).toNat x1) 59 46)).toNat x2) 84 (((mset (mset M8 82 ((M8 59 46)).toNat x1) 83 (((mset M8 82 ((M8 59 46)).toNat x1) 59 46)).toNat x2) 59 46)).toNat x3) 85 (((mset (mset (mset M8 82 ((M8 59 46)).toNat x1) 83 (((mset M8 82 ((M8 59 46)).toNat x1) 59 46)).toNat x2) 84 (((mset (mset M8 82 ((M8 59 46)).toNat x1) 83 (((mset M8 82 ((M8 59 46)).toNat x1) 59 46)).toNat x2) 59 46)).toNat x3) 59 46)).toNat x4) 86 (((mset (mset (mset (mset M8 82 ((M8 59 46)).toNat x1) 83 (((mset M8 82 ((M8 59 46)).toNat x1) 59 46)).toNat x2) 84 (((mset (mset M8 82 ((M8 59 46)).toNat x1) 83 (((mset M8 82 ((M8 59 46)).toNat x1) 59 46)).toNat x2) 59 46)).toNat x3) 85 (((mset (mset (mset M8 82 ((M8 59 46)).toNat x1) 83 (((mset M8 82 ((M8 59 46)).toNat x1) 59 46)).toNat x2) 84 (((mset (mset M8 82 ((M8 59 46)).toNat x1) 83 (((mset M8 82 ((M8 59 46)).toNat x1) 59 46)).toNat x2) 59 46)).toNat x3) 59 46)).toNat x4) 59 46)).toNat x5) 59 46) + 1))) 59 46) - 1)) (mset (mset (mset (mset (mset (mset M8 82 ((M8 59 46)).toNat x1) 83 (((mset M8 82 ((M8 59 46)).toNat x1) 59 46)).toNat x2) 84 (((mset (mset M8 82 ((M8 59 46)).toNat x1) 83 (((mset M8 82 ((M8 59 46)).toNat x1) 59 46)).toNat x2) 59 46)).toNat x3) 85 (((mset (mset (mset M8 82 ((M8 59 46)).toNat x1) 83 (((mset M8 82 ((M8 59 46)).toNat x1) 59 46)).toNat x2) 84 (((mset (mset M8 82 ((M8 59 46)).toNat x1) 83 (((mset M8 82 ((M8 59 46)).toNat x1) 59 46)).toNat x2) 59 46)).toNat x3) 59 46)).toNat x4) 86 (((mset (mset (mset (mset M8 82 ((M8 59 46)).toNat x1) 83 (((mset M8 82 ((M8 59 46)).toNat x1) 59 46)).toNat x2) 84 (((mset (mset M8 82 ((M8 59 46)).toNat x1) 83 (((mset M8 82 ((M8 59 46)).toNat x1) 59 46)).toNat x2) 59 46)).toNat x3) 85 (((mset (mset (mset M8 82 ((M8 59 46)).toNat x1) 83 (((mset M8 82 ((M8 59 46)).toNat x1) 59 46)).toNat x2) 84 (((mset (mset M8 82 ((M8 59 46)).toNat x1) 83 (((mset M8 82 ((M8 59 46)).toNat x1) 59 46)).toNat x2) 59 46)).toNat x3) 59 46)).toNat x4) 59 46)).toNat x5) 59 46 (w32 (((mset (mset (mset (mset (mset M8 82 ((M8 59 46)).toNat x1) 83 (((mset M8 82 ((M8 59 46)).toNat x1) 59 46)).toNat x2) 84 (((mset (mset M8 82 ((M8 59 46)).toNat x1) 83 (((mset M8 82 ((M8 59 46)).toNat x1) 59 46)).toNat x2) 59 46)).toNat x3) 85 (((mset (mset (mset M8 82 ((M8 59 46)).toNat x1) 83 (((mset M8 82 ((M8 59 46)).toNat x1) 59 46)).toNat x2) 84 (((mset (mset M8 82 ((M8 59 46)).toNat x1) 83 (((mset M8 82 ((M8 59 46)).toNat x1) 59 46)).toNat x2) 59 46)).toNat x3) 59 46)).toNat x4) 86 (((mset (mset (mset (mset M8 82 ((M8 59 46)).toNat x1) 83 (((mset M8 82 ((M8 59 46)).toNat x1) 59 46)).toNat x2) 84 (((mset (mset M8 82 ((M8 59 46)).toNat x1) 83 (((mset M8 82 ((M8 59 46)).toNat x1) 59 46)).toNat x2) 59 46)).toNat x3) 85 (((mset (mset (mset M8 82 ((M8 59 46)).toNat x1) 83 (((mset M8 82 ((M8 59 46)).toNat x1) 59 46)).toNat x2) 84 (((mset (mset M8 82 ((M8 59 46)).toNat x1) 83 (((mset M8 82 ((M8 59 46)).toNat x1) 59 46)).toNat x2) 59 46)).toNat x3) 59 46)).toNat x4) 59 46)).toNat x5) 59 46) + 1)))))))))) ∧ ((M8 59 46) = 24 → (P (-1) M8)))))))))))) : CI m11_hear 5 [(20, ((59 : Nat) : Int)), (0, x1), (0, x2), (0, x3), (0, x4), (0, x5)] M P := by
  refine CI_of (by decide +kernel) (Nat.le_of_ble_eq_true rfl) ?_
  show A m11_hear 5 0 0 [(20, ((59 : Nat) : Int)), (0, x1), (0, x2), (0, x3), (0, x4), (0, x5)] [] M (Ki P)
  refine A_aload_n (i := 0) (f := 0) (by omega) rfl (by decide +kernel) rfl ?_
  refine A_iconst (a := 0) (by decide +kernel) (by unfold in32; omega) ?_
  refine B_putp (M' := (mset M 59 0 0)) (q := (RX11, TX11, 59)) (ci := 10) (j := 0) (p := 0) (by decide +kernel) rfl (by decide) rfl (Or.inl ⟨rfl, rfl⟩) rfl fl_11_118 rfl ?_
  refine A_aload_n (i := 0) (f := 0) (by omega) rfl (by decide +kernel) rfl ?_
  refine A_iload_n (i := 1) (f := 1) rfl (by decide +kernel) rfl ?_
  refine A_iload_n (i := 2) (f := 2) rfl (by decide +kernel) rfl ?_
  refine A_iload_n (i := 3) (f := 3) rfl (by decide +kernel) rfl ?_
  refine A_iload (i := 5) (by decide +kernel) rfl ?_
  refine A_cVi (q := (RX11, TX11, 59)) (ci := 10) (o := ((59 : Nat) : Int)) (args := [(0, x1), (0, x2), (0, x3), (0, x5)]) (st := []) (by decide +kernel) cv_m11_isSaid rfl rfl in_m11_isSaid se_m11_isSaid lk_11_386 rfl (by omega) (Nat.le_of_ble_eq_true rfl) h (fun r1 M2 _ h3 => ?_)
  refine A_if_eq (off := 20) (tgt := 34) (by decide +kernel) (by omega) (fun b4 => ?_) (fun b4 => ?_)
  · have h5 := h3.1 b4
    refine A_iconst (a := (-1)) (by decide +kernel) (by unfold in32; omega) ?_
    exact A_ret ⟨by decide +kernel, Or.inl rfl⟩ ⟨_, rfl, h5⟩
  · have h6 := h3.2 b4
    refine A_iload (i := 4) (by decide +kernel) rfl ?_
    refine A_cSi (args := [(0, x4)]) (st := []) (by decide +kernel) cv_m11_isSeason st_m11_isSeason lk_11_315 rfl (by omega) (Nat.le_of_ble_eq_true rfl) h6 (fun r7 M8 _ h9 => ?_)
    refine A_if_eq (off := 12) (tgt := 34) (by decide +kernel) (by omega) (fun b10 => ?_) (fun b10 => ?_)
    · have h11 := h9.1 b10
      refine A_iconst (a := (-1)) (by decide +kernel) (by unfold in32; omega) ?_
      exact A_ret ⟨by decide +kernel, Or.inl rfl⟩ ⟨_, rfl, h11⟩
    · have h12 := h9.2 b10
      refine A_aload_n (i := 0) (f := 0) (by omega) rfl (by decide +kernel) rfl ?_
      refine B_getp (v := (M8 59 46)) (q := (RX11, TX11, 59)) (ci := 10) (j := 46) (p := 46) (by decide +kernel) rfl (by decide) rfl (Or.inl rfl) fl_11_299 rfl ?_
      refine A_bipush (a := 24) (by decide +kernel) (by unfold in32; omega) (by decide +kernel) ?_
      refine A_ic_ne (off := 5) (tgt := 36) (by decide +kernel) (by omega) (fun b13 => ?_) (fun b13 => ?_)
      · have h14 := h12.1 b13
        refine A_aload_n (i := 0) (f := 0) (by omega) rfl (by decide +kernel) rfl ?_
        refine B_getr (o' := ((82 : Nat) : Int)) (q := (RX11, TX11, 59)) (ci := 10) (j := 48) (by decide +kernel) rfl (by decide) rfl (by omega) fl_11_85 rfl ?_
        refine A_aload_n (i := 0) (f := 0) (by omega) rfl (by decide +kernel) rfl ?_
        refine B_getp (v := (M8 59 46)) (q := (RX11, TX11, 59)) (ci := 10) (j := 46) (p := 46) (by decide +kernel) rfl (by decide) rfl (Or.inl rfl) fl_11_299 rfl ?_
        refine A_iload_n (i := 1) (f := 1) rfl (by decide +kernel) rfl ?_
        refine B_iast (M' := (mset M8 82 ((M8 59 46)).toNat x1)) (by decide +kernel) h14.1 rfl ?_
        have h16 := h14.2
        refine A_aload_n (i := 0) (f := 0) (by omega) rfl (by decide +kernel) rfl ?_
        refine B_getr (o' := ((83 : Nat) : Int)) (q := (RX11, TX11, 59)) (ci := 10) (j := 49) (by decide +kernel) rfl (by decide) rfl (by omega) fl_11_88 rfl ?_
        refine A_aload_n (i := 0) (f := 0) (by omega) rfl (by decide +kernel) rfl ?_
        refine B_getp (v := ((mset M8 82 ((M8 59 46)).toNat x1) 59 46)) (q := (RX11, TX11, 59)) (ci := 10) (j := 46) (p := 46) (by decide +kernel) rfl (by decide) rfl (Or.inl rfl) fl_11_299 rfl ?_
        refine A_iload_n (i := 2) (f := 2) rfl (by decide +kernel) rfl ?_
        refine B_iast (M' := (mset (mset M8 82 ((M8 59 46)).toNat x1) 83 (((mset M8 82 ((M8 59 46)).toNat x1) 59 46)).toNat x2)) (by decide +kernel) h16.1 rfl ?_
        have h17 := h16.2
        refine A_aload_n (i := 0) (f := 0) (by omega) rfl (by decide +kernel) rfl ?_
        refine B_getr (o' := ((84 : Nat) : Int)) (q := (RX11, TX11, 59)) (ci := 10) (j := 50) (by decide +kernel) rfl (by decide) rfl (by omega) fl_11_91 rfl ?_
        refine A_aload_n (i := 0) (f := 0) (by omega) rfl (by decide +kernel) rfl ?_
        refine B_getp (v := ((mset (mset M8 82 ((M8 59 46)).toNat x1) 83 (((mset M8 82 ((M8 59 46)).toNat x1) 59 46)).toNat x2) 59 46)) (q := (RX11, TX11, 59)) (ci := 10) (j := 46) (p := 46) (by decide +kernel) rfl (by decide) rfl (Or.inl rfl) fl_11_299 rfl ?_
        refine A_iload_n (i := 3) (f := 3) rfl (by decide +kernel) rfl ?_
        refine B_iast (M' := (mset (mset (mset M8 82 ((M8 59 46)).toNat x1) 83 (((mset M8 82 ((M8 59 46)).toNat x1) 59 46)).toNat x2) 84 (((mset (mset M8 82 ((M8 59 46)).toNat x1) 83 (((mset M8 82 ((M8 59 46)).toNat x1) 59 46)).toNat x2) 59 46)).toNat x3)) (by decide +kernel) h17.1 rfl ?_
        have h18 := h17.2
        refine A_aload_n (i := 0) (f := 0) (by omega) rfl (by decide +kernel) rfl ?_
        refine B_getr (o' := ((85 : Nat) : Int)) (q := (RX11, TX11, 59)) (ci := 10) (j := 51) (by decide +kernel) rfl (by decide) rfl (by omega) fl_11_94 rfl ?_
        refine A_aload_n (i := 0) (f := 0) (by omega) rfl (by decide +kernel) rfl ?_
        refine B_getp (v := ((mset (mset (mset M8 82 ((M8 59 46)).toNat x1) 83 (((mset M8 82 ((M8 59 46)).toNat x1) 59 46)).toNat x2) 84 (((mset (mset M8 82 ((M8 59 46)).toNat x1) 83 (((mset M8 82 ((M8 59 46)).toNat x1) 59 46)).toNat x2) 59 46)).toNat x3) 59 46)) (q := (RX11, TX11, 59)) (ci := 10) (j := 46) (p := 46) (by decide +kernel) rfl (by decide) rfl (Or.inl rfl) fl_11_299 rfl ?_
        refine A_iload (i := 4) (by decide +kernel) rfl ?_
        refine B_iast (M' := (mset (mset (mset (mset M8 82 ((M8 59 46)).toNat x1) 83 (((mset M8 82 ((M8 59 46)).toNat x1) 59 46)).toNat x2) 84 (((mset (mset M8 82 ((M8 59 46)).toNat x1) 83 (((mset M8 82 ((M8 59 46)).toNat x1) 59 46)).toNat x2) 59 46)).toNat x3) 85 (((mset (mset (mset M8 82 ((M8 59 46)).toNat x1) 83 (((mset M8 82 ((M8 59 46)).toNat x1) 59 46)).toNat x2) 84 (((mset (mset M8 82 ((M8 59 46)).toNat x1) 83 (((mset M8 82 ((M8 59 46)).toNat x1) 59 46)).toNat x2) 59 46)).toNat x3) 59 46)).toNat x4)) (by decide +kernel) h18.1 rfl ?_
        have h19 := h18.2
        refine A_aload_n (i := 0) (f := 0) (by omega) rfl (by decide +kernel) rfl ?_
        refine B_getr (o' := ((86 : Nat) : Int)) (q := (RX11, TX11, 59)) (ci := 10) (j := 52) (by decide +kernel) rfl (by decide) rfl (by omega) fl_11_97 rfl ?_
        refine A_aload_n (i := 0) (f := 0) (by omega) rfl (by decide +kernel) rfl ?_
        refine B_getp (v := ((mset (mset (mset (mset M8 82 ((M8 59 46)).toNat x1) 83 (((mset M8 82 ((M8 59 46)).toNat x1) 59 46)).toNat x2) 84 (((mset (mset M8 82 ((M8 59 46)).toNat x1) 83 (((mset M8 82 ((M8 59 46)).toNat x1) 59 46)).toNat x2) 59 46)).toNat x3) 85 (((mset (mset (mset M8 82 ((M8 59 46)).toNat x1) 83 (((mset M8 82 ((M8 59 46)).toNat x1) 59 46)).toNat x2) 84 (((mset (mset M8 82 ((M8 59 46)).toNat x1) 83 (((mset M8 82 ((M8 59 46)).toNat x1) 59 46)).toNat x2) 59 46)).toNat x3) 59 46)).toNat x4) 59 46)) (q := (RX11, TX11, 59)) (ci := 10) (j := 46) (p := 46) (by decide +kernel) rfl (by decide) rfl (Or.inl rfl) fl_11_299 rfl ?_
        refine A_iload (i := 5) (by decide +kernel) rfl ?_
        refine B_iast (M' := (mset (mset (mset (mset (mset M8 82 ((M8 59 46)).toNat x1) 83 (((mset M8 82 ((M8 59 46)).toNat x1) 59 46)).toNat x2) 84 (((mset (mset M8 82 ((M8 59 46)).toNat x1) 83 (((mset M8 82 ((M8 59 46)).toNat x1) 59 46)).toNat x2) 59 46)).toNat x3) 85 (((mset (mset (mset M8 82 ((M8 59 46)).toNat x1) 83 (((mset M8 82 ((M8 59 46)).toNat x1) 59 46)).toNat x2) 84 (((mset (mset M8 82 ((M8 59 46)).toNat x1) 83 (((mset M8 82 ((M8 59 46)).toNat x1) 59 46)).toNat x2) 59 46)).toNat x3) 59 46)).toNat x4) 86 (((mset (mset (mset (mset M8 82 ((M8 59 46)).toNat x1) 83 (((mset M8 82 ((M8 59 46)).toNat x1) 59 46)).toNat x2) 84 (((mset (mset M8 82 ((M8 59 46)).toNat x1) 83 (((mset M8 82 ((M8 59 46)).toNat x1) 59 46)).toNat x2) 59 46)).toNat x3) 85 (((mset (mset (mset M8 82 ((M8 59 46)).toNat x1) 83 (((mset M8 82 ((M8 59 46)).toNat x1) 59 46)).toNat x2) 84 (((mset (mset M8 82 ((M8 59 46)).toNat x1) 83 (((mset M8 82 ((M8 59 46)).toNat x1) 59 46)).toNat x2) 59 46)).toNat x3) 59 46)).toNat x4) 59 46)).toNat x5)) (by decide +kernel) h19.1 rfl ?_
        have h20 := h19.2
        refine A_aload_n (i := 0) (f := 0) (by omega) rfl (by decide +kernel) rfl ?_
        refine A_dup (by decide +kernel) (by simp) ?_
        refine B_getp (v := ((mset (mset (mset (mset (mset M8 82 ((M8 59 46)).toNat x1) 83 (((mset M8 82 ((M8 59 46)).toNat x1) 59 46)).toNat x2) 84 (((mset (mset M8 82 ((M8 59 46)).toNat x1) 83 (((mset M8 82 ((M8 59 46)).toNat x1) 59 46)).toNat x2) 59 46)).toNat x3) 85 (((mset (mset (mset M8 82 ((M8 59 46)).toNat x1) 83 (((mset M8 82 ((M8 59 46)).toNat x1) 59 46)).toNat x2) 84 (((mset (mset M8 82 ((M8 59 46)).toNat x1) 83 (((mset M8 82 ((M8 59 46)).toNat x1) 59 46)).toNat x2) 59 46)).toNat x3) 59 46)).toNat x4) 86 (((mset (mset (mset (mset M8 82 ((M8 59 46)).toNat x1) 83 (((mset M8 82 ((M8 59 46)).toNat x1) 59 46)).toNat x2) 84 (((mset (mset M8 82 ((M8 59 46)).toNat x1) 83 (((mset M8 82 ((M8 59 46)).toNat x1) 59 46)).toNat x2) 59 46)).toNat x3) 85 (((mset (mset (mset M8 82 ((M8 59 46)).toNat x1) 83 (((mset M8 82 ((M8 59 46)).toNat x1) 59 46)).toNat x2) 84 (((mset (mset M8 82 ((M8 59 46)).toNat x1) 83 (((mset M8 82 ((M8 59 46)).toNat x1) 59 46)).toNat x2) 59 46)).toNat x3) 59 46)).toNat x4) 59 46)).toNat x5) 59 46)) (q := (RX11, TX11, 59)) (ci := 10) (j := 46) (p := 46) (by decide +kernel) rfl (by decide) rfl (Or.inl rfl) fl_11_299 rfl ?_
        refine A_iconst (a := 1) (by decide +kernel) (by unfold in32; omega) ?_
        refine A_iadd (by decide +kernel) ?_
        refine B_putp (M' := (mset (mset (mset (mset (mset (mset M8 82 ((M8 59 46)).toNat x1) 83 (((mset M8 82 ((M8 59 46)).toNat x1) 59 46)).toNat x2) 84 (((mset (mset M8 82 ((M8 59 46)).toNat x1) 83 (((mset M8 82 ((M8 59 46)).toNat x1) 59 46)).toNat x2) 59 46)).toNat x3) 85 (((mset (mset (mset M8 82 ((M8 59 46)).toNat x1) 83 (((mset M8 82 ((M8 59 46)).toNat x1) 59 46)).toNat x2) 84 (((mset (mset M8 82 ((M8 59 46)).toNat x1) 83 (((mset M8 82 ((M8 59 46)).toNat x1) 59 46)).toNat x2) 59 46)).toNat x3) 59 46)).toNat x4) 86 (((mset (mset (mset (mset M8 82 ((M8 59 46)).toNat x1) 83 (((mset M8 82 ((M8 59 46)).toNat x1) 59 46)).toNat x2) 84 (((mset (mset M8 82 ((M8 59 46)).toNat x1) 83 (((mset M8 82 ((M8 59 46)).toNat x1) 59 46)).toNat x2) 59 46)).toNat x3) 85 (((mset (mset (mset M8 82 ((M8 59 46)).toNat x1) 83 (((mset M8 82 ((M8 59 46)).toNat x1) 59 46)).toNat x2) 84 (((mset (mset M8 82 ((M8 59 46)).toNat x1) 83 (((mset M8 82 ((M8 59 46)).toNat x1) 59 46)).toNat x2) 59 46)).toNat x3) 59 46)).toNat x4) 59 46)).toNat x5) 59 46 (w32 (((mset (mset (mset (mset (mset M8 82 ((M8 59 46)).toNat x1) 83 (((mset M8 82 ((M8 59 46)).toNat x1) 59 46)).toNat x2) 84 (((mset (mset M8 82 ((M8 59 46)).toNat x1) 83 (((mset M8 82 ((M8 59 46)).toNat x1) 59 46)).toNat x2) 59 46)).toNat x3) 85 (((mset (mset (mset M8 82 ((M8 59 46)).toNat x1) 83 (((mset M8 82 ((M8 59 46)).toNat x1) 59 46)).toNat x2) 84 (((mset (mset M8 82 ((M8 59 46)).toNat x1) 83 (((mset M8 82 ((M8 59 46)).toNat x1) 59 46)).toNat x2) 59 46)).toNat x3) 59 46)).toNat x4) 86 (((mset (mset (mset (mset M8 82 ((M8 59 46)).toNat x1) 83 (((mset M8 82 ((M8 59 46)).toNat x1) 59 46)).toNat x2) 84 (((mset (mset M8 82 ((M8 59 46)).toNat x1) 83 (((mset M8 82 ((M8 59 46)).toNat x1) 59 46)).toNat x2) 59 46)).toNat x3) 85 (((mset (mset (mset M8 82 ((M8 59 46)).toNat x1) 83 (((mset M8 82 ((M8 59 46)).toNat x1) 59 46)).toNat x2) 84 (((mset (mset M8 82 ((M8 59 46)).toNat x1) 83 (((mset M8 82 ((M8 59 46)).toNat x1) 59 46)).toNat x2) 59 46)).toNat x3) 59 46)).toNat x4) 59 46)).toNat x5) 59 46) + 1)))) (q := (RX11, TX11, 59)) (ci := 10) (j := 46) (p := 46) (by decide +kernel) rfl (by decide) rfl (Or.inl ⟨rfl, rfl⟩) rfl fl_11_299 rfl ?_
        refine A_aload_n (i := 0) (f := 0) (by omega) rfl (by decide +kernel) rfl ?_
        refine B_getp (v := ((mset (mset (mset (mset (mset (mset M8 82 ((M8 59 46)).toNat x1) 83 (((mset M8 82 ((M8 59 46)).toNat x1) 59 46)).toNat x2) 84 (((mset (mset M8 82 ((M8 59 46)).toNat x1) 83 (((mset M8 82 ((M8 59 46)).toNat x1) 59 46)).toNat x2) 59 46)).toNat x3) 85 (((mset (mset (mset M8 82 ((M8 59 46)).toNat x1) 83 (((mset M8 82 ((M8 59 46)).toNat x1) 59 46)).toNat x2) 84 (((mset (mset M8 82 ((M8 59 46)).toNat x1) 83 (((mset M8 82 ((M8 59 46)).toNat x1) 59 46)).toNat x2) 59 46)).toNat x3) 59 46)).toNat x4) 86 (((mset (mset (mset (mset M8 82 ((M8 59 46)).toNat x1) 83 (((mset M8 82 ((M8 59 46)).toNat x1) 59 46)).toNat x2) 84 (((mset (mset M8 82 ((M8 59 46)).toNat x1) 83 (((mset M8 82 ((M8 59 46)).toNat x1) 59 46)).toNat x2) 59 46)).toNat x3) 85 (((mset (mset (mset M8 82 ((M8 59 46)).toNat x1) 83 (((mset M8 82 ((M8 59 46)).toNat x1) 59 46)).toNat x2) 84 (((mset (mset M8 82 ((M8 59 46)).toNat x1) 83 (((mset M8 82 ((M8 59 46)).toNat x1) 59 46)).toNat x2) 59 46)).toNat x3) 59 46)).toNat x4) 59 46)).toNat x5) 59 46 (w32 (((mset (mset (mset (mset (mset M8 82 ((M8 59 46)).toNat x1) 83 (((mset M8 82 ((M8 59 46)).toNat x1) 59 46)).toNat x2) 84 (((mset (mset M8 82 ((M8 59 46)).toNat x1) 83 (((mset M8 82 ((M8 59 46)).toNat x1) 59 46)).toNat x2) 59 46)).toNat x3) 85 (((mset (mset (mset M8 82 ((M8 59 46)).toNat x1) 83 (((mset M8 82 ((M8 59 46)).toNat x1) 59 46)).toNat x2) 84 (((mset (mset M8 82 ((M8 59 46)).toNat x1) 83 (((mset M8 82 ((M8 59 46)).toNat x1) 59 46)).toNat x2) 59 46)).toNat x3) 59 46)).toNat x4) 86 (((mset (mset (mset (mset M8 82 ((M8 59 46)).toNat x1) 83 (((mset M8 82 ((M8 59 46)).toNat x1) 59 46)).toNat x2) 84 (((mset (mset M8 82 ((M8 59 46)).toNat x1) 83 (((mset M8 82 ((M8 59 46)).toNat x1) 59 46)).toNat x2) 59 46)).toNat x3) 85 (((mset (mset (mset M8 82 ((M8 59 46)).toNat x1) 83 (((mset M8 82 ((M8 59 46)).toNat x1) 59 46)).toNat x2) 84 (((mset (mset M8 82 ((M8 59 46)).toNat x1) 83 (((mset M8 82 ((M8 59 46)).toNat x1) 59 46)).toNat x2) 59 46)).toNat x3) 59 46)).toNat x4) 59 46)).toNat x5) 59 46) + 1))) 59 46)) (q := (RX11, TX11, 59)) (ci := 10) (j := 46) (p := 46) (by decide +kernel) rfl (by decide) rfl (Or.inl rfl) fl_11_299 rfl ?_
        refine A_iconst (a := 1) (by decide +kernel) (by unfold in32; omega) ?_
        refine A_isub (by decide +kernel) ?_
        exact A_ret ⟨by decide +kernel, Or.inl rfl⟩ ⟨_, rfl, h20⟩
      · have h15 := h12.2 (Decidable.not_not.mp b13)
        refine A_iconst (a := (-1)) (by decide +kernel) (by unfold in32; omega) ?_
        exact A_ret ⟨by decide +kernel, Or.inl rfl⟩ ⟨_, rfl, h15⟩
