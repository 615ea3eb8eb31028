/-! arrays, over A -/
theorem vin_of {x : Int} {n : Nat} (h0 : 0 ≤ x) (h1 : x < n) (h : in32 x) : ¬ (Int32.ofInt x < 0 ∨ n ≤ (Int32.ofInt x).toNatClampNeg) := by
  rintro (q | q)
  · rw [← ofI_0, ofI_lt h (by unfold in32; omega)] at q; omega
  · rw [nm_clamp h0 h] at q; omega
section ARR
variable {mt : MT} {d al pc : Nat} {ls st : List AV} {M : Mem} {K : List AV → Mem → Prop}
theorem A_iald {o x : Int} (h : decode mt.2.1 pc = .ok (.iaload, 1)) (h0 : 0 ≤ x) (h1 : x < aln o.toNat) (k : A mt d al (pc + 1) ls ((0, M o.toNat x.toNat) :: st) M K) : A mt d al pc ls ((0, x) :: (30, o) :: st) M K := by
  intro X jl H locs cells slots hE hS hL hv hR hc hs
  obtain ⟨-, ho0, ho1, hko⟩ := (vok_r (by omega)).mp (vk_h (vk_t hv))
  have hx : in32 x := vok_0.mp (vk_h hv)
  have hnw := kd_nw hko (by omega) (by omega) (by omega) (by omega)
  rw [List.map_cons, List.map_cons, tv_0, tv_r _ (by omega)]
  have hk := k X jl H locs cells slots hE hS hL (vk_c (vok_0.mpr (hS.2.2.2.2.1 _ _ (by omega))) (vk_t (vk_t hv))) hR hc hs
  refine va_iald (cA := (jC X).1) (n := aln o.toNat) (f := fun j => Int32.ofInt (M o.toNat j)) hE.1 hE.2.1 hE.2.2.2.2.2.2.2.2.1 hS.1 o.toNat 0 (by rw [wl_get hnw, ent_30 hko]) rfl (vin_of h0 h1 hx) h ?_
  show xW X H locs cells slots (F0 (jm X) (pc + 1) jl (.int (Int32.ofInt (M o.toNat (Int32.ofInt x).toNatClampNeg)) :: _))
  rw [nm_clamp h0 hx]
  exact hk
theorem A_zald {o x : Int} (h : decode mt.2.1 pc = .ok (.baload, 1)) (h0 : 0 ≤ x) (h1 : x < aln o.toNat) (k : A mt d al (pc + 1) ls ((0, M o.toNat x.toNat) :: st) M K) : A mt d al pc ls ((0, x) :: (31, o) :: st) M K := by
  intro X jl H locs cells slots hE hS hL hv hR hc hs
  obtain ⟨-, ho0, ho1, hko⟩ := (vok_r (by omega)).mp (vk_h (vk_t hv))
  have hx : in32 x := vok_0.mp (vk_h hv)
  have hnw := kd_nw hko (by omega) (by omega) (by omega) (by omega)
  rw [List.map_cons, List.map_cons, tv_0, tv_r _ (by omega)]
  have hk := k X jl H locs cells slots hE hS hL (vk_c (vok_0.mpr (hS.2.2.2.2.1 _ _ (by omega))) (vk_t (vk_t hv))) hR hc hs
  refine va_zald (cA := (jC X).2.2) (n := aln o.toNat) (f := fun j => Int32.ofInt (M o.toNat j)) hE.1 hE.2.1 hE.2.2.2.2.2.2.2.2.1 hS.1 o.toNat 2 (by rw [wl_get hnw, ent_31 hko]) rfl (vin_of h0 h1 hx) h ?_
  show xW X H locs cells slots (F0 (jm X) (pc + 1) jl (.int (Int32.ofInt (M o.toNat (Int32.ofInt x).toNatClampNeg)) :: _))
  rw [nm_clamp h0 hx]
  exact hk
theorem A_lald {o x : Int} (h : decode mt.2.1 pc = .ok (.laload, 1)) (h0 : 0 ≤ x) (h1 : x < aln o.toNat) (k : A mt d al (pc + 1) ls ((1, M o.toNat x.toNat) :: st) M K) : A mt d al pc ls ((0, x) :: (32, o) :: st) M K := by
  intro X jl H locs cells slots hE hS hL hv hR hc hs
  obtain ⟨-, ho0, ho1, hko⟩ := (vok_r (by omega)).mp (vk_h (vk_t hv))
  have hx : in32 x := vok_0.mp (vk_h hv)
  have hnw := kd_nw hko (by omega) (by omega) (by omega) (by omega)
  rw [List.map_cons, List.map_cons, tv_0, tv_r _ (by omega)]
  have hk := k X jl H locs cells slots hE hS hL (vk_c (vok_1.mpr (hS.2.2.2.1 _ _)) (vk_t (vk_t hv))) hR hc hs
  refine va_lald (cA := (jC X).2.1) (n := aln o.toNat) (f := fun j => Int64.ofInt (M o.toNat j)) hE.1 hE.2.1 hE.2.2.2.2.2.2.2.2.1 hS.1 o.toNat 1 (by rw [wl_get hnw, ent_32 hko]) rfl (vin_of h0 h1 hx) h ?_
  show xW X H locs cells slots (F0 (jm X) (pc + 1) jl (.long (Int64.ofInt (M o.toNat (Int32.ofInt x).toNatClampNeg)) :: _))
  rw [nm_clamp h0 hx]
  exact hk
theorem A_iast {o x v : Int} (h : decode mt.2.1 pc = .ok (.iastore, 1)) (h0 : 0 ≤ x) (h1 : x < aln o.toNat) (k : A mt d al (pc + 1) ls st (mset M o.toNat x.toNat v) K) : A mt d al pc ls ((0, v) :: (0, x) :: (30, o) :: st) M K := by
  intro X jl H locs cells slots hE hS hL hv hR hc hs
  obtain ⟨-, ho0, ho1, hko⟩ := (vok_r (by omega)).mp (vk_h (vk_t (vk_t hv)))
  have hx : in32 x := vok_0.mp (vk_h (vk_t hv))
  have hv32 : in32 v := vok_0.mp (vk_h hv)
  have hnw := kd_nw hko (by omega) (by omega) (by omega) (by omega)
  rw [List.map_cons, List.map_cons, List.map_cons, tv_0, tv_0, tv_r _ (by omega)]
  refine va_iast (cA := (jC X).1) (n := aln o.toNat) (f := fun j => Int32.ofInt (M o.toNat j)) (x := Int32.ofInt v) hE.1 hE.2.1 hE.2.2.2.2.2.2.2.2.1 hS.1 hS.2.1 hS.2.2.1 o.toNat 0 (by rw [wl_get hnw, ent_30 hko]) rfl (vin_of h0 h1 hx) h (fun H1 locs1 hP hD hS1 => ?_)
  have e1 : (wl (jad X) (jC X) M).set o.toNat (jad X o.toNat, .inl ((jC X).1, aln o.toNat, .inl (upd (fun j => Int32.ofInt (M o.toNat j)) (Int32.ofInt x).toNatClampNeg (Int32.ofInt v)))) = wl (jad X) (jC X) (mset M o.toNat x.toNat v) :=
    wl_put hnw (by
      rw [ent_30 hko, nm_clamp h0 hx]
      have e2 : upd (fun j => Int32.ofInt (M o.toNat j)) x.toNat (Int32.ofInt v) = fun j => Int32.ofInt (mset M o.toNat x.toNat v o.toNat j) := by
        funext j
        by_cases hj : j = x.toNat
        · subst hj; rw [mset_s]; exact pk_us
        · rw [mset_j hj]; exact pk_un hj
      rw [e2]) (fun k' hk' j' => mset_k hk')
  rw [e1] at hP hD
  exact k X jl H1 locs1 cells slots hE ⟨hP, hD, hS1, hS.2.2.2.set hnw (in32_64 hv32) (fun _ => hv32)⟩ hL (vk_t (vk_t (vk_t hv))) hR hc hs
theorem nar01 {v : Int} (h : v = 0 ∨ v = 1) : vp_nar .boolean (Int32.ofInt v) = Int32.ofInt v := by rcases h with rfl | rfl <;> decide +kernel
theorem A_zast {o x v : Int} (h : decode mt.2.1 pc = .ok (.bastore, 1)) (h0 : 0 ≤ x) (h1 : x < aln o.toNat) (h01 : v = 0 ∨ v = 1) (k : A mt d al (pc + 1) ls st (mset M o.toNat x.toNat v) K) : A mt d al pc ls ((0, v) :: (0, x) :: (31, o) :: st) M K := by
  intro X jl H locs cells slots hE hS hL hv hR hc hs
  obtain ⟨-, ho0, ho1, hko⟩ := (vok_r (by omega)).mp (vk_h (vk_t (vk_t hv)))
  have hx : in32 x := vok_0.mp (vk_h (vk_t hv))
  have hv32 : in32 v := vok_0.mp (vk_h hv)
  have hnw := kd_nw hko (by omega) (by omega) (by omega) (by omega)
  rw [List.map_cons, List.map_cons, List.map_cons, tv_0, tv_0, tv_r _ (by omega)]
  refine va_zast (cA := (jC X).2.2) (n := aln o.toNat) (f := fun j => Int32.ofInt (M o.toNat j)) (x := Int32.ofInt v) hE.1 hE.2.1 hE.2.2.2.2.2.2.2.2.1 hS.1 hS.2.1 hS.2.2.1 o.toNat 2 (by rw [wl_get hnw, ent_31 hko]) rfl (vin_of h0 h1 hx) h (fun H1 locs1 hP hD hS1 => ?_)
  have e1 : (wl (jad X) (jC X) M).set o.toNat (jad X o.toNat, .inl ((jC X).2.2, aln o.toNat, .inl (upd (fun j => Int32.ofInt (M o.toNat j)) (Int32.ofInt x).toNatClampNeg (vp_nar .boolean (Int32.ofInt v))))) = wl (jad X) (jC X) (mset M o.toNat x.toNat v) :=
    wl_put hnw (by
      rw [ent_31 hko, nm_clamp h0 hx, nar01 h01]
      have e2 : upd (fun j => Int32.ofInt (M o.toNat j)) x.toNat (Int32.ofInt v) = fun j => Int32.ofInt (mset M o.toNat x.toNat v o.toNat j) := by
        funext j
        by_cases hj : j = x.toNat
        · subst hj; rw [mset_s]; exact pk_us
        · rw [mset_j hj]; exact pk_un hj
      rw [e2]) (fun k' hk' j' => mset_k hk')
  rw [e1] at hP hD
  exact k X jl H1 locs1 cells slots hE ⟨hP, hD, hS1, hS.2.2.2.set hnw (in32_64 hv32) (fun _ => hv32)⟩ hL (vk_t (vk_t (vk_t hv))) hR hc hs
theorem A_last {o x v : Int} (h : decode mt.2.1 pc = .ok (.lastore, 1)) (h0 : 0 ≤ x) (h1 : x < aln o.toNat) (k : A mt d al (pc + 1) ls st (mset M o.toNat x.toNat v) K) : A mt d al pc ls ((1, v) :: (0, x) :: (32, o) :: st) M K := by
  intro X jl H locs cells slots hE hS hL hv hR hc hs
  obtain ⟨-, ho0, ho1, hko⟩ := (vok_r (by omega)).mp (vk_h (vk_t (vk_t hv)))
  have hx : in32 x := vok_0.mp (vk_h (vk_t hv))
  have hv64 : in64 v := vok_1.mp (vk_h hv)
  have hnw := kd_nw hko (by omega) (by omega) (by omega) (by omega)
  rw [List.map_cons, List.map_cons, List.map_cons, tv_0, tv_1, tv_r _ (by omega)]
  refine va_last (cA := (jC X).2.1) (n := aln o.toNat) (f := fun j => Int64.ofInt (M o.toNat j)) (x := Int64.ofInt v) hE.1 hE.2.1 hE.2.2.2.2.2.2.2.2.1 hS.1 hS.2.1 hS.2.2.1 o.toNat 1 (by rw [wl_get hnw, ent_32 hko]) rfl (vin_of h0 h1 hx) h (fun H1 locs1 hP hD hS1 => ?_)
  have e1 : (wl (jad X) (jC X) M).set o.toNat (jad X o.toNat, .inl ((jC X).2.1, aln o.toNat, .inr (.inl (vp_updL (fun j => Int64.ofInt (M o.toNat j)) (Int32.ofInt x).toNatClampNeg (Int64.ofInt v))))) = wl (jad X) (jC X) (mset M o.toNat x.toNat v) :=
    wl_put hnw (by
      rw [ent_32 hko, nm_clamp h0 hx]
      have e2 : vp_updL (fun j => Int64.ofInt (M o.toNat j)) x.toNat (Int64.ofInt v) = fun j => Int64.ofInt (mset M o.toNat x.toNat v o.toNat j) := by
        funext j
        by_cases hj : j = x.toNat
        · subst hj; rw [mset_s]; exact pk_uLs
        · rw [mset_j hj]; exact pk_uLn hj
      rw [e2]) (fun k' hk' j' => mset_k hk')
  rw [e1] at hP hD
  exact k X jl H1 locs1 cells slots hE ⟨hP, hD, hS1, hS.2.2.2.set hnw hv64 (fun z => absurd hko z)⟩ hL (vk_t (vk_t (vk_t hv))) hR hc hs
theorem in32_nat {n : Nat} (h : n < 2147483648) : in32 (n : Int) := by unfold in32; omega
theorem A_alen {o : Int} {t : Nat} (h : decode mt.2.1 pc = .ok (.arraylength, 1)) (ht : t = 30 ∨ t = 31 ∨ t = 32) (k : A mt d al (pc + 1) ls ((0, (aln o.toNat : Int)) :: st) M K) : A mt d al pc ls ((t, o) :: st) M K := by
  intro X jl H locs cells slots hE hS hL hv hR hc hs
  obtain ⟨-, ho0, ho1, hko⟩ := (vok_r (by omega)).mp (vk_h hv)
  have hnw := kd_nw hko (by omega) (by omega) (by omega) (by omega)
  rw [List.map_cons, tv_r _ (by omega)]
  have hk := k X jl H locs cells slots hE hS hL (vk_c (vok_0.mpr (in32_nat (by have := aln_lt o.toNat; omega))) (vk_t hv)) hR hc hs
  rw [List.map_cons, tv_0] at hk
  have e1 : Int32.ofNat (aln o.toNat) = Int32.ofInt (aln o.toNat : Int) := (Int32.ofInt_eq_ofNat).symm
  rcases ht with rfl | rfl | rfl
  · exact va_alen (v := Int32.ofInt (aln o.toNat : Int)) hE.1 hE.2.1 hE.2.2.2.2.2.2.2.2.1 hS.1 o.toNat 0 (by rw [wl_get hnw, ent_30 hko]) (ty := .int) rfl e1 h hk
  · exact va_alen (v := Int32.ofInt (aln o.toNat : Int)) hE.1 hE.2.1 hE.2.2.2.2.2.2.2.2.1 hS.1 o.toNat 2 (by rw [wl_get hnw, ent_31 hko]) (ty := .boolean) rfl e1 h hk
  · exact va_alen (v := Int32.ofInt (aln o.toNat : Int)) hE.1 hE.2.1 hE.2.2.2.2.2.2.2.2.1 hS.1 o.toNat 1 (by rw [wl_get hnw, ent_32 hko]) (ty := .long) rfl e1 h hk
/-- tables and the script -/
theorem kd_st_all : ∀ k, k < 100 → (kd k = 34 → NW ≤ k ∧ k < 97 ∧ k ≠ 97) ∧ (kd k = 33 → k = 97) := by decide +kernel
theorem A_tald {o x : Int} (h : decode mt.2.1 pc = .ok (.iaload, 1)) (h0 : 0 ≤ x) (h1 : x < aln o.toNat) (k : A mt d al (pc + 1) ls ((0, M o.toNat x.toNat) :: st) M K) : A mt d al pc ls ((0, x) :: (34, o) :: st) M K := by
  intro X jl H locs cells slots hE hS hL hv hR hc hs
  obtain ⟨-, ho0, ho1, hko⟩ := (vok_r (by omega)).mp (vk_h (vk_t hv))
  have hx : in32 x := vok_0.mp (vk_h hv)
  obtain ⟨q1, q2, q3⟩ := (kd_st_all o.toNat (by omega)).1 hko
  rw [List.map_cons, List.map_cons, tv_0, tv_r _ (by omega)]
  have hk := k X jl H locs cells slots hE hS hL (vk_c (vok_0.mpr (hS.2.2.2.2.1 _ _ (by omega))) (vk_t (vk_t hv))) hR hc hs
  obtain ⟨cell, c1, c2, c3, c4, -, c6, -⟩ := (hE.2.2.2.2.2.2.2.2.2.2.1.2.1 o.toNat q1 (by omega)).kept hS.2.2.1.2.1
  unfold tlen at c4 c6
  rw [if_neg q3] at c4 c6
  have hin := vin_of h0 h1 hx
  refine W.iald (v := .int (Int32.ofInt (M o.toNat x.toNat))) hE.1 hE.2.1 c1 c2 c3 (fun z => hin (z.imp id (fun z => Nat.le_trans c4 z))) ?_ rfl rfl h hk
  rw [nm_clamp h0 hx, c6 _ (by omega), hS.2.2.2.2.2 _ q1]
theorem A_sald {o x : Int} (h : decode mt.2.1 pc = .ok (.iaload, 1)) (h0 : 0 ≤ x) (h1 : x < M 97 4000) (k : A mt d al (pc + 1) ls ((0, M o.toNat x.toNat) :: st) M K) : A mt d al pc ls ((0, x) :: (33, o) :: st) M K := by
  intro X jl H locs cells slots hE hS hL hv hR hc hs
  obtain ⟨-, ho0, ho1, hko⟩ := (vok_r (by omega)).mp (vk_h (vk_t hv))
  have hx : in32 x := vok_0.mp (vk_h hv)
  have q1 := (kd_st_all o.toNat (by omega)).2 hko
  rw [List.map_cons, List.map_cons, tv_0, tv_r _ (by omega)]
  have hk := k X jl H locs cells slots hE hS hL (vk_c (vok_0.mpr (hS.2.2.2.2.1 _ _ (by omega))) (vk_t (vk_t hv))) hR hc hs
  have hsm := hS.2.2.2.2.2 97 (by decide)
  obtain ⟨cell, c1, c2, c3, c4, -, c6, -⟩ := (hE.2.2.2.2.2.2.2.2.2.2.1.2.1 97 (by decide) (by omega)).kept hS.2.2.1.2.1
  unfold tlen at c4 c6
  rw [if_pos rfl, ← hsm] at c4 c6
  rw [q1] at hk ⊢
  have hin := vin_of (n := (M 97 4000).toNat) h0 (by omega) hx
  refine W.iald (v := .int (Int32.ofInt (M 97 x.toNat))) hE.1 hE.2.1 c1 c2 c3 (fun z => hin (z.imp id (fun z => Nat.le_trans c4 z))) ?_ rfl rfl h hk
  rw [nm_clamp h0 hx, c6 _ (by omega), hsm]
theorem A_talen {o : Int} (h : decode mt.2.1 pc = .ok (.arraylength, 1)) (k : A mt d al (pc + 1) ls ((0, (aln o.toNat : Int)) :: st) M K) : A mt d al pc ls ((34, o) :: st) M K := by
  intro X jl H locs cells slots hE hS hL hv hR hc hs
  obtain ⟨-, ho0, ho1, hko⟩ := (vok_r (by omega)).mp (vk_h hv)
  obtain ⟨q1, q2, q3⟩ := (kd_st_all o.toNat (by omega)).1 hko
  rw [List.map_cons, tv_r _ (by omega)]
  have hk := k X jl H locs cells slots hE hS hL (vk_c (vok_0.mpr (in32_nat (by have := aln_lt o.toNat; omega))) (vk_t hv)) hR hc hs
  rw [List.map_cons, tv_0] at hk
  obtain ⟨cell, c1, c2, c3, c4, c5, c6, -⟩ := (hE.2.2.2.2.2.2.2.2.2.2.1.2.1 o.toNat q1 (by omega)).kept hS.2.2.1.2.1
  unfold tlen at c5
  rw [if_neg q3] at c5
  exact W.alen (n := Int32.ofInt (aln o.toNat : Int)) hE.1 hE.2.1 c1 c2 (by rw [c5]; exact (Int32.ofInt_eq_ofNat).symm) rfl rfl h hk
theorem A_salen {o : Int} (h : decode mt.2.1 pc = .ok (.arraylength, 1)) (h0 : 0 ≤ M 97 4000) (k : A mt d al (pc + 1) ls ((0, M 97 4000) :: st) M K) : A mt d al pc ls ((33, o) :: st) M K := by
  intro X jl H locs cells slots hE hS hL hv hR hc hs
  obtain ⟨-, ho0, ho1, hko⟩ := (vok_r (by omega)).mp (vk_h hv)
  have q1 := (kd_st_all o.toNat (by omega)).2 hko
  rw [List.map_cons, tv_r _ (by omega)]
  have hk := k X jl H locs cells slots hE hS hL (vk_c (vok_0.mpr (hS.2.2.2.2.1 97 _ (by decide))) (vk_t hv)) hR hc hs
  rw [List.map_cons, tv_0] at hk
  have hsm := hS.2.2.2.2.2 97 (by decide)
  obtain ⟨cell, c1, c2, c3, c4, c5, c6, -⟩ := (hE.2.2.2.2.2.2.2.2.2.2.1.2.1 97 (by decide) (by omega)).kept hS.2.2.1.2.1
  unfold tlen at c5
  rw [if_pos rfl, ← hsm] at c5
  rw [q1]
  refine W.alen (n := Int32.ofInt (M 97 4000)) hE.1 hE.2.1 c1 c2 ?_ rfl rfl h hk
  rw [c5, ← Int32.ofInt_eq_ofNat, Int.toNat_of_nonneg h0]
theorem A_gets {i idx pl : Nat} {nm : String} (hi : (i = 94 ∧ nm = "ONES") ∨ (i = 95 ∧ nm = "OTHERS") ∨ (i = 96 ∧ nm = "SHIFTS")) (h : decode mt.2.1 pc = .ok (.getstatic idx, 3)) (hw : lw_tbl[pl]? = some (.fieldLink mt.1.cls idx RX6 nm "[I")) (k : A mt d al (pc + 3) ls ((34, (i : Int)) :: st) M K) : A mt d al pc ls st M K := by
  intro X jl H locs cells slots hE hS hL hv hR hc hs
  have hwb := hE.2.2.2.2.2.2.1 _ (List.mem_of_getElem? hw) rfl
  have hok : vok (34, (i : Int)) := (vok_r (by omega)).mpr (by rcases hi with ⟨rfl, -⟩ | ⟨rfl, -⟩ | ⟨rfl, -⟩ <;> exact ⟨by omega, by omega, by omega, by decide⟩)
  have hk := k X jl H locs cells slots hE hS hL (vk_c hok hv) hR hc hs
  rw [List.map_cons, tv_r _ (by omega), Int.toNat_natCast] at hk
  have hz := hE.2.2.2.2.2.2.2.2.2.2.1.1
  rcases hi with ⟨rfl, rfl⟩ | ⟨rfl, rfl⟩ | ⟨rfl, rfl⟩
  · exact va_gets hE.1 hE.2.1 hz.1 hS.2.2.1 hE.2.2.2.2.2.1 hwb (fun _ z => z) h hk
  · exact va_gets hE.1 hE.2.1 hz.2.1 hS.2.2.1 hE.2.2.2.2.2.1 hwb (fun _ z => z) h hk
  · exact va_gets hE.1 hE.2.1 hz.2.2 hS.2.2.1 hE.2.2.2.2.2.1 hwb (fun _ z => z) h hk
end ARR
