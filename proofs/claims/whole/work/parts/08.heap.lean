/-! fields, over A -/
def wty (ci : Nat) : Nat → FieldType := [tyX0, tyX1, tyX2, tyX3, tyX4, tyX5, tyX6, tyX7, tyX9, tyX10, tyX11].getD ci tyX0
theorem wcl_ty {q : vw_C} {ci : Nat} (h : wcl[ci]? = some q) : ∀ k, k < q.2.2 → parseFieldDescriptor (q.2.1 k).2.2.1 = some (wty ci k) := by
  match ci, h with
  | 0, h => cases h; exact tyX0_ok
  | 1, h => cases h; exact tyX1_ok
  | 2, h => cases h; exact tyX2_ok
  | 3, h => cases h; exact tyX3_ok
  | 4, h => cases h; exact tyX4_ok
  | 5, h => cases h; exact tyX5_ok
  | 6, h => cases h; exact tyX6_ok
  | 7, h => cases h; exact tyX7_ok
  | 8, h => cases h; exact tyX9_ok
  | 9, h => cases h; exact tyX10_ok
  | 10, h => cases h; exact tyX11_ok
  | n + 11, h => simp [wcl] at h
theorem wcl_nm {q : vw_C} {ci : Nat} (h : wcl[ci]? = some q) : ∀ a, a < q.2.2 → ∀ b, b < q.2.2 → a ≠ b → (q.2.1 a).2.1 ≠ (q.2.1 b).2.1 := by
  match ci, h with
  | 0, h => cases h; exact nmX0
  | 1, h => cases h; exact nmX1
  | 2, h => cases h; exact nmX2
  | 3, h => cases h; exact nmX3
  | 4, h => cases h; exact nmX4
  | 5, h => cases h; exact nmX5
  | 6, h => cases h; exact nmX6
  | 7, h => cases h; exact nmX7
  | 8, h => cases h; exact nmX9
  | 9, h => cases h; exact nmX10
  | 10, h => cases h; exact nmX11
  | n + 11, h => simp [wcl] at h
/-- where the cell of a field of references lies -/
def ftgt (k : Nat) (off : Int) : Nat := ((k : Int) + off).toNat
def FE (ci j : Nat) : Option (Nat × Int) := (FT.getD ci [])[j]?
theorem FT_all : ∀ ci, ci < 11 → ∀ f ∈ FT.getD ci [], 5 ≤ f.1 → ∀ k, k < 100 → kd k = 10 + ci → kd (ftgt k f.2) = f.1 ∧ ftgt k f.2 < 100 := by decide +kernel
theorem FT_ok {ci j t k : Nat} {off : Int} (h : FE ci j = some (t, off)) (ht : 5 ≤ t) (hk : k < 100) (hc : kd k = 10 + ci) : kd (ftgt k off) = t ∧ ftgt k off < 100 := by
  have hci : ci < 11 := by
    by_cases hq : ci < 11
    · exact hq
    · have hn : FT[ci]? = none := List.getElem?_eq_none (Nat.le_of_not_lt hq)
      simp [FE, List.getD_eq_getElem?_getD, hn] at h
  exact FT_all ci hci (t, off) (List.mem_of_getElem? h) ht k hk hc
theorem flds_at {ad : Nat → Nat} {M : Mem} {k ci j t : Nat} {off : Int} (hk : kd k = 10 + ci) (h : FE ci j = some (t, off)) : (flds ad M k)[j]? = some (if t = 0 ∨ t = 3 then .int (Int32.ofInt (M k off.toNat)) else .ref (ad (ftgt k off))) := by
  unfold flds ftgt
  unfold FE at h
  rw [hk, Nat.add_sub_cancel_left, List.getElem?_map, h]
  rfl
theorem flds_len {ad : Nat → Nat} {M : Mem} {k ci : Nat} (hk : kd k = 10 + ci) : (flds ad M k).length = (FT.getD ci []).length := by
  unfold flds
  rw [hk, Nat.add_sub_cancel_left, List.length_map]
theorem kd_obj {k ci : Nat} (hk : kd k = 10 + ci) (hci : ci < 11) : k < NW := kd_nw hk (by omega) (by omega) (by omega) (by omega)
section HEAP
variable {mt : MT} {d al pc : Nat} {ls st : List AV} {M : Mem} {K : List AV → Mem → Prop}
theorem ci_lt {q : vw_C} {ci : Nat} (h : wcl[ci]? = some q) : ci < 11 := (List.getElem?_eq_some_iff.mp h).1
theorem A_getp {o : Int} {ci j idx pl t p : Nat} {q : vw_C} (h : decode mt.2.1 pc = .ok (.getfield idx, 3)) (hq : wcl[ci]? = some q) (hj : j < q.2.2) (hf : FE ci j = some (t, (p : Int))) (ht : t = 0 ∨ t = 3)
    (hw : lw_tbl[pl]? = some (.fieldLink mt.1.cls idx (q.2.1 j).1 (q.2.1 j).2.1 (q.2.1 j).2.2.1)) (k : A mt d al (pc + 3) ls ((0, M o.toNat p) :: st) M K) : A mt d al pc ls ((10 + ci, o) :: st) M K := by
  intro X jl H locs cells slots hE hS hL hv hR hc hs
  have hci := ci_lt hq
  obtain ⟨-, ho0, ho1, hko⟩ := (vok_r (by omega)).mp (vk_h hv)
  have hnw := kd_obj hko hci
  rw [List.map_cons, tv_r _ (by omega)]
  have hfl := flds_at (ad := jad X) (M := M) hko hf
  rw [if_pos ht, Int.toNat_natCast] at hfl
  refine va_get (cl := wcl) (C := q.1) (T := q.2.1) (N := q.2.2) (ci := ci) (fs := flds (jad X) M o.toNat) hE.1 hE.2.1 (gtb_hts hE) (wcl_in hq) hE.2.2.2.2.2.1 hE.2.2.2.2.2.2.2.2.1 hS.1 o.toNat ?_ hq j hj (hE.2.2.2.2.2.2.1 _ (List.mem_of_getElem? hw) rfl) (fun _ z => z) hfl h ?_
  · rw [wl_get hnw, ent_o hko (by omega), Nat.add_sub_cancel_left]
  · refine k X jl H locs cells slots hE hS hL (vk_c (vok_0.mpr (hS.2.2.2.2.1 _ _ (by omega))) (vk_t hv)) hR hc hs
theorem A_getr {o : Int} {ci j idx pl t : Nat} {off : Int} {q : vw_C} (h : decode mt.2.1 pc = .ok (.getfield idx, 3)) (hq : wcl[ci]? = some q) (hj : j < q.2.2) (hf : FE ci j = some (t, off)) (ht : 5 ≤ t)
    (hw : lw_tbl[pl]? = some (.fieldLink mt.1.cls idx (q.2.1 j).1 (q.2.1 j).2.1 (q.2.1 j).2.2.1)) (k : A mt d al (pc + 3) ls ((t, (ftgt o.toNat off : Int)) :: st) M K) : A mt d al pc ls ((10 + ci, o) :: st) M K := by
  intro X jl H locs cells slots hE hS hL hv hR hc hs
  have hci := ci_lt hq
  obtain ⟨-, ho0, ho1, hko⟩ := (vok_r (by omega)).mp (vk_h hv)
  have hnw := kd_obj hko hci
  rw [List.map_cons, tv_r _ (by omega)]
  have hfl := flds_at (ad := jad X) (M := M) hko hf
  rw [if_neg (by omega)] at hfl
  obtain ⟨e1, e2⟩ := FT_ok hf ht (show o.toNat < 100 by omega) hko
  have hk := k X jl H locs cells slots hE hS hL (vk_c ((vok_r (by omega)).mpr ⟨ht, by omega, by omega, by simpa using e1⟩) (vk_t hv)) hR hc hs
  rw [List.map_cons, tv_r _ (by omega)] at hk
  refine va_get (cl := wcl) (C := q.1) (T := q.2.1) (N := q.2.2) (ci := ci) (fs := flds (jad X) M o.toNat) hE.1 hE.2.1 (gtb_hts hE) (wcl_in hq) hE.2.2.2.2.2.1 hE.2.2.2.2.2.2.2.2.1 hS.1 o.toNat ?_ hq j hj (hE.2.2.2.2.2.2.1 _ (List.mem_of_getElem? hw) rfl) (fun _ z => z) hfl h hk
  rw [wl_get hnw, ent_o hko (by omega), Nat.add_sub_cancel_left]
/-- two fields of numbers have two places -/
def plB (ci i j : Nat) : Bool := decide (i = j) || decide (5 ≤ ((FT.getD ci []).getD i (5, 0)).1) || decide (5 ≤ ((FT.getD ci []).getD j (5, 0)).1) || decide (((FT.getD ci []).getD i (5, 0)).2.toNat ≠ ((FT.getD ci []).getD j (5, 0)).2.toNat)
theorem plB_all : (List.range 11).all (fun ci => (List.range 64).all (fun i => (List.range 64).all (fun j => plB ci i j))) = true := by decide +kernel
theorem FT_len : ∀ ci, ci < 11 → (FT.getD ci []).length ≤ 64 := by decide +kernel
theorem FT_pl (ci : Nat) (hc : ci < 11) (i : Nat) (hi : i < (FT.getD ci []).length) (j : Nat) (hj : j < (FT.getD ci []).length) (hne : i ≠ j) (h1 : ((FT.getD ci []).getD i (5, 0)).1 < 5) (h2 : ((FT.getD ci []).getD j (5, 0)).1 < 5) : ((FT.getD ci []).getD i (5, 0)).2.toNat ≠ ((FT.getD ci []).getD j (5, 0)).2.toNat := by
  have hl := FT_len ci hc
  have h := List.all_eq_true.mp (List.all_eq_true.mp (List.all_eq_true.mp plB_all ci (List.mem_range.mpr hc)) i (List.mem_range.mpr (by omega))) j (List.mem_range.mpr (by omega))
  unfold plB at h
  rw [decide_eq_false hne, decide_eq_false (by omega), decide_eq_false (by omega), Bool.false_or, Bool.false_or, Bool.false_or] at h
  exact of_decide_eq_true h
theorem flds_set {ad : Nat → Nat} {M : Mem} {k ci j t p : Nat} {v : Int} (hk : kd k = 10 + ci) (hci : ci < 11) (hf : FE ci j = some (t, (p : Int))) (ht : t = 0 ∨ t = 3) : (flds ad M k).set j (.int (Int32.ofInt v)) = flds ad (mset M k p v) k := by
  apply List.ext_getElem?
  intro i
  have hl : j < (flds ad M k).length := by rw [flds_len hk]; exact (List.getElem?_eq_some_iff.mp hf).1
  by_cases hi : i = j
  · subst hi
    rw [List.getElem?_set_self hl, flds_at hk hf, if_pos ht, Int.toNat_natCast, mset_s]
  · rw [List.getElem?_set_ne (Ne.symm hi)]
    cases hfi : FE ci i with
    | none =>
      have hn : (FT.getD ci []).length ≤ i := List.getElem?_eq_none_iff.mp hfi
      rw [List.getElem?_eq_none (by rw [flds_len hk]; exact hn), List.getElem?_eq_none (by rw [flds_len hk]; exact hn)]
    | some f =>
      obtain ⟨t2, p2⟩ := f
      rw [flds_at hk hfi, flds_at hk hfi]
      by_cases h2 : t2 = 0 ∨ t2 = 3
      · have gi : (FT.getD ci []).getD i (5, 0) = (t2, p2) := by rw [List.getD_eq_getElem?_getD]; unfold FE at hfi; rw [hfi]; rfl
        have gj : (FT.getD ci []).getD j (5, 0) = (t, (p : Int)) := by rw [List.getD_eq_getElem?_getD]; unfold FE at hf; rw [hf]; rfl
        have hd := FT_pl ci hci i (List.getElem?_eq_some_iff.mp hfi).1 j (List.getElem?_eq_some_iff.mp hf).1 hi (by rw [gi]; show t2 < 5; omega) (by rw [gj]; show t < 5; omega)
        rw [gi, gj] at hd
        rw [if_pos h2, if_pos h2, mset_j (by simpa using hd)]
      · rw [if_neg h2, if_neg h2]
theorem A_putp {o v : Int} {ci j idx pl t p : Nat} {q : vw_C} (h : decode mt.2.1 pc = .ok (.putfield idx, 3)) (hq : wcl[ci]? = some q) (hj : j < q.2.2) (hf : FE ci j = some (t, (p : Int))) (ht : t = 0 ∧ wty ci j = .int ∨ t = 3 ∧ wty ci j = .boolean ∧ (v = 0 ∨ v = 1)) (hfin : (q.2.1 j).2.2.2 = false)
    (hw : lw_tbl[pl]? = some (.fieldLink mt.1.cls idx (q.2.1 j).1 (q.2.1 j).2.1 (q.2.1 j).2.2.1)) (k : A mt d al (pc + 3) ls st (mset M o.toNat p v) K) : A mt d al pc ls ((0, v) :: (10 + ci, o) :: st) M K := by
  intro X jl H locs cells slots hE hS hL hv hR hc hs
  have hci := ci_lt hq
  obtain ⟨-, ho0, ho1, hko⟩ := (vok_r (by omega)).mp (vk_h (vk_t hv))
  have hv32 : in32 v := vok_0.mp (vk_h hv)
  have hnw := kd_obj hko hci
  have ht2 : t = 0 ∨ t = 3 := by rcases ht with h | h <;> omega
  have hl : j < (flds (jad X) M o.toNat).length := by rw [flds_len hko]; exact (List.getElem?_eq_some_iff.mp hf).1
  have hw1 : (wl (jad X) (jC X) M)[o.toNat]? = some (jad X o.toNat, .inr (ci, flds (jad X) M o.toNat)) := by rw [wl_get hnw, ent_o hko (by omega), Nat.add_sub_cancel_left]
  rw [List.map_cons, List.map_cons, tv_0, tv_r _ (show 2 ≤ 10 + ci by omega)]
  have key : narrow (wty ci j) (.int (Int32.ofInt v)) = .int (Int32.ofInt v) ∧ fits (wty ci j) (.int (Int32.ofInt v)) = true := by
    rcases ht with ⟨-, e⟩ | ⟨-, e, hv01⟩
    · rw [e]; exact ⟨rfl, rfl⟩
    · rw [e]; rcases hv01 with rfl | rfl <;> exact ⟨rfl, rfl⟩
  refine va_put (cl := wcl) (C := q.1) (T := q.2.1) (N := q.2.2) (ci := ci) (fs := flds (jad X) M o.toNat) (v := .int (Int32.ofInt v)) (ty := wty ci j) hE.1 hE.2.1 (gtb_hts hE) (wcl_in hq) (wty ci) (wcl_ty hq) (wcl_nm hq) hE.2.2.2.2.2.1 hE.2.2.2.2.2.2.2.2.1 hS.1 hS.2.1 hS.2.2.1 o.toNat hw1 hq j hj (hE.2.2.2.2.2.2.1 _ (List.mem_of_getElem? hw) rfl) (fun _ z => z) hfin (wcl_ty hq j hj) key.1 key.2 hl h (fun H1 locs1 hP hD hS1 => ?_)
  have e1 : (wl (jad X) (jC X) M).set o.toNat (jad X o.toNat, .inr (ci, (flds (jad X) M o.toNat).set j (.int (Int32.ofInt v)))) = wl (jad X) (jC X) (mset M o.toNat p v) :=
    wl_put hnw (by rw [ent_o hko (by omega), flds_set hko hci hf ht2, Nat.add_sub_cancel_left]) (fun k' hk' j' => mset_k hk')
  rw [e1] at hP hD
  exact k X jl H1 locs1 cells slots hE ⟨hP, hD, hS1, hS.2.2.2.set hnw (in32_64 hv32) (fun _ => hv32)⟩ hL (vk_t (vk_t hv)) hR hc hs
end HEAP
