/-! Integer.bitCount (made by wip/whole/gbit.py) -/
theorem q_J_bitCount {x0 : Int} {M : Mem} {P : Int → Mem → Prop} (h : (P (iand (w32 ((w32 ((iand (w32 ((w32 ((iand (w32 (x0 - (iand (iushr x0 1) 1431655765))) 858993459) + (iand (iushr (w32 (x0 - (iand (iushr x0 1) 1431655765))) 2) 858993459))) + (iushr (w32 ((iand (w32 (x0 - (iand (iushr x0 1) 1431655765))) 858993459) + (iand (iushr (w32 (x0 - (iand (iushr x0 1) 1431655765))) 2) 858993459))) 4))) 252645135) + (iushr (iand (w32 ((w32 ((iand (w32 (x0 - (iand (iushr x0 1) 1431655765))) 858993459) + (iand (iushr (w32 (x0 - (iand (iushr x0 1) 1431655765))) 2) 858993459))) + (iushr (w32 ((iand (w32 (x0 - (iand (iushr x0 1) 1431655765))) 858993459) + (iand (iushr (w32 (x0 - (iand (iushr x0 1) 1431655765))) 2) 858993459))) 4))) 252645135) 8))) + (iushr (w32 ((iand (w32 ((w32 ((iand (w32 (x0 - (iand (iushr x0 1) 1431655765))) 858993459) + (iand (iushr (w32 (x0 - (iand (iushr x0 1) 1431655765))) 2) 858993459))) + (iushr (w32 ((iand (w32 (x0 - (iand (iushr x0 1) 1431655765))) 858993459) + (iand (iushr (w32 (x0 - (iand (iushr x0 1) 1431655765))) 2) 858993459))) 4))) 252645135) + (iushr (iand (w32 ((w32 ((iand (w32 (x0 - (iand (iushr x0 1) 1431655765))) 858993459) + (iand (iushr (w32 (x0 - (iand (iushr x0 1) 1431655765))) 2) 858993459))) + (iushr (w32 ((iand (w32 (x0 - (iand (iushr x0 1) 1431655765))) 858993459) + (iand (iushr (w32 (x0 - (iand (iushr x0 1) 1431655765))) 2) 858993459))) 4))) 252645135) 8))) 16))) 63) M)) : CI mJ_bitCount 1 [(0, x0)] M P := by
  refine CI_of (by decide +kernel) (Nat.le_of_ble_eq_true rfl) ?_
  show A mJ_bitCount 1 0 0 [(0, x0)] [] M (Ki P)
  refine A_iload_n (i := 0) (f := 0) rfl (by decide +kernel) rfl ?_
  refine A_iload_n (i := 0) (f := 0) rfl (by decide +kernel) rfl ?_
  refine A_iconst (a := 1) (by decide +kernel) (by unfold in32; omega) ?_
  refine A_iushr (by decide +kernel) ?_
  refine A_ldcw (by decide +kernel) (by unfold in32; omega) ki_J_265 rfl ?_
  refine A_iand (by decide +kernel) ?_
  refine A_isub (by decide +kernel) ?_
  refine A_istore_n (i := 0) (f := 0) rfl (by decide +kernel) (by decide) (fun w h0 hw => by simp at hw; first | (rw [← hw]; decide) | (rw [← hw]; simp)) ?_
  refine A_iload_n (i := 0) (f := 0) rfl (by decide +kernel) rfl ?_
  refine A_ldcw (by decide +kernel) (by unfold in32; omega) ki_J_266 rfl ?_
  refine A_iand (by decide +kernel) ?_
  refine A_iload_n (i := 0) (f := 0) rfl (by decide +kernel) rfl ?_
  refine A_iconst (a := 2) (by decide +kernel) (by unfold in32; omega) ?_
  refine A_iushr (by decide +kernel) ?_
  refine A_ldcw (by decide +kernel) (by unfold in32; omega) ki_J_266 rfl ?_
  refine A_iand (by decide +kernel) ?_
  refine A_iadd (by decide +kernel) ?_
  refine A_istore_n (i := 0) (f := 0) rfl (by decide +kernel) (by decide) (fun w h0 hw => by simp at hw; first | (rw [← hw]; decide) | (rw [← hw]; simp)) ?_
  refine A_iload_n (i := 0) (f := 0) rfl (by decide +kernel) rfl ?_
  refine A_iload_n (i := 0) (f := 0) rfl (by decide +kernel) rfl ?_
  refine A_iconst (a := 4) (by decide +kernel) (by unfold in32; omega) ?_
  refine A_iushr (by decide +kernel) ?_
  refine A_iadd (by decide +kernel) ?_
  refine A_ldcw (by decide +kernel) (by unfold in32; omega) ki_J_267 rfl ?_
  refine A_iand (by decide +kernel) ?_
  refine A_istore_n (i := 0) (f := 0) rfl (by decide +kernel) (by decide) (fun w h0 hw => by simp at hw; first | (rw [← hw]; decide) | (rw [← hw]; simp)) ?_
  refine A_iload_n (i := 0) (f := 0) rfl (by decide +kernel) rfl ?_
  refine A_iload_n (i := 0) (f := 0) rfl (by decide +kernel) rfl ?_
  refine A_bipush (a := 8) (by decide +kernel) (by unfold in32; omega) (by decide +kernel) ?_
  refine A_iushr (by decide +kernel) ?_
  refine A_iadd (by decide +kernel) ?_
  refine A_istore_n (i := 0) (f := 0) rfl (by decide +kernel) (by decide) (fun w h0 hw => by simp at hw; first | (rw [← hw]; decide) | (rw [← hw]; simp)) ?_
  refine A_iload_n (i := 0) (f := 0) rfl (by decide +kernel) rfl ?_
  refine A_iload_n (i := 0) (f := 0) rfl (by decide +kernel) rfl ?_
  refine A_bipush (a := 16) (by decide +kernel) (by unfold in32; omega) (by decide +kernel) ?_
  refine A_iushr (by decide +kernel) ?_
  refine A_iadd (by decide +kernel) ?_
  refine A_istore_n (i := 0) (f := 0) rfl (by decide +kernel) (by decide) (fun w h0 hw => by simp at hw; first | (rw [← hw]; decide) | (rw [← hw]; simp)) ?_
  refine A_iload_n (i := 0) (f := 0) rfl (by decide +kernel) rfl ?_
  refine A_bipush (a := 63) (by decide +kernel) (by unfold in32; omega) (by decide +kernel) ?_
  refine A_iand (by decide +kernel) ?_
  exact A_ret ⟨by decide +kernel, Or.inl rfl⟩ ⟨_, rfl, h⟩
