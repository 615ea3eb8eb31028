/-! texts over A; word() -/
section TEXT
variable {mt : MT} {d al pc idx : Nat} {ls st : List AV} {M : Mem} {K : List AV → Mem → Prop}
theorem A_ldcW (hc : mt.1.cls = RX11) (h : decode mt.2.1 pc = .ok (.ldc 160, 2)) (k : A mt d al (pc + 2) ls ((5, ((99 : Nat) : Int)) :: st) M K) : A mt d al pc ls st M K := by
  intro X jl H locs cells slots hE hS hL hv hR hc' hs
  have hok : vok (5, ((99 : Nat) : Int)) := (vok_r (by omega)).mpr ⟨by omega, by omega, by omega, by decide⟩
  have hk := k X jl H locs cells slots hE hS hL (vk_c hok hv) hR hc' hs
  rw [List.map_cons, tv_r _ (by omega), Int.toNat_natCast] at hk
  exact va_ldcS hE.1 hE.2.1 (own := RX11) (by rw [← hc]; exact hE.2.2.2.2.2.1) hE.2.2.2.2.2.2.2.2.2.2.1.2.2.2.1 h hk
theorem TX_of {X : JC} {H : Heap} {locs : List Loc} (hE : EN mt d X) (hS : ST X M H locs) : ∃ adV : Nat → Nat, TX (fun i => jad X (98 + i)) adV (jA X) (js X) (js X).heap ∧ TX (fun i => jad X (98 + i)) adV (Ne H.size) (js X) H ∧ ∀ q, Ne H.size q → jA X q := by
  obtain ⟨adV, hv, y1, y2, -, -⟩ := hE.2.2.2.2.2.2.2.2.2.2.1.2.2.2.2
  have hsz := hS.2.2.1.1
  have hAs : ∀ q, Ne H.size q → jA X q := fun q h => hE.2.2.2.2.2.2.2.2.2.2.2.2 q (Nat.le_trans hsz h)
  have hq := hS.2.2.1.2.1
  exact ⟨adV, ⟨hv, y1, y2⟩, ⟨(hv.kept hq).narrow hAs, (y1.kept hq).narrow hAs, (y2.kept hq).narrow hAs⟩, hAs⟩
theorem ST_new {X : JC} {H H1 : Heap} {locs locs1 : List Loc} (hS : ST X M H locs) (hk : ∀ q : Nat, q < H.size → ¬ Ne H.size q → H1[q]? = H[q]?) (hS1 : va_S (jA X) (js X).heap H1 locs1) : ST X M H1 locs1 :=
  ⟨hS.1.kept (fun k q hq => by
    have hlt := (hS.1 k q hq).lt
    exact hk q.1 hlt (Nat.not_le.mpr hlt)), hS.2.1, hS1, hS.2.2.2⟩
theorem room_j {X : JC} {dj n : Nat} {y : MT} (hE : EN mt d X) (hd : 1 ≤ d) (hj : dj ≤ 3) (hm : y.2.2.1 ≤ 40) : (rmJ dj).frames + 1 ≤ (jR X).frames ∧ 8 + (y.2.2.1 + 11) + (rmJ dj).locals ≤ (jR X).locals := by
  obtain ⟨h1, h2, -⟩ := hE.2.2.2.2.2.2.2.1
  simp only [rmJ]
  omega
theorem A_strlen {i : Nat} (hi : i < 2) (h : decode mt.2.1 pc = .ok (.invokevirtual idx, 3)) (hlk : Cond.methodLink mt.1.cls idx yS_length ∈ gtb) (hd : 1 ≤ d) (hr8 : acs st ≤ 8) (k : A mt d al (pc + 3) ls ((0, (lS i : Int)) :: st) M K) : A mt d al pc ls ((5, ((98 + i : Nat) : Int)) :: st) M K := by
  intro X jl H locs cells slots hE hS hL hv hR hc hs
  obtain ⟨adV, hT, hT1, hAs⟩ := TX_of hE hS
  have hts := gtb_hts hE
  have hLt := lS_lt i
  obtain ⟨-, -, hrk, hrn, -⟩ := hE.2.2.2.2.2.2.2.1
  rw [List.map_cons, tv_r _ (by omega), Int.toNat_natCast]
  refine va_calli (va_runV (C := "java/lang/String") (As := []) (rest := st.map (tv (jad X))) (cf_of hE) (c_slength (X.2.1) hi H.size) ⟨callB_of (ws' := gtb) 0 hts (wsM_in cv_mS_length) rfl rfl rfl (hts _ cv_mS_length.2.1) (hts _ hlk) ⟨cv_mS_length.2.2.1.1, cv_mS_length.2.2.1.2, cv_mS_length.2.2.2.1⟩ (room_j (n := 0) (y := mS_length) hE hd (by omega) (by decide)), hts _ in_mS_length, hts _ se_mS_length⟩ ⟨PT_FB, vk_recv hT.1 hi hS.2.2.1, fun U hU hW => ⟨rfl, by rw [hU], by rw [hU]; exact hT1.mv hW.alike⟩⟩ rfl rfl hL.1.1 rfl (lv_room (by rw [acs_eq]; exact hr8)) h ⟨by omega, by omega⟩) hS.2.2.1 (fun q _ h => hAs q h) hAs (fun r u t H1 locs1 ht hal hp hB hz hkk hS1 => ?_)
  subst hp
  have hk := k X jl H1 locs1 cells slots hE (ST_new hS hkk hS1) hL (vk_c (vok_0.mpr (by unfold in32; omega)) (vk_t hv)) hR hc hs
  rw [List.map_cons, tv_0] at hk
  have e : Int32.ofInt (lS i : Int) = nI (lS i) := Int32.ofInt_eq_ofNat
  rw [e] at hk
  exact hk
theorem A_schar {i : Nat} {x : Int} (hi : i < 2) (h : decode mt.2.1 pc = .ok (.invokevirtual idx, 3)) (hlk : Cond.methodLink mt.1.cls idx yS_schar ∈ gtb) (hd : 1 ≤ d) (hr8 : acs st ≤ 8) (h0 : 0 ≤ x ∧ x < (lS i : Int)) (k : A mt d al (pc + 3) ls ((0, (chv i x.toNat).toInt) :: st) M K) : A mt d al pc ls ((0, x) :: (5, ((98 + i : Nat) : Int)) :: st) M K := by
  intro X jl H locs cells slots hE hS hL hv hR hc hs
  obtain ⟨adV, hT, hT1, hAs⟩ := TX_of hE hS
  have hts := gtb_hts hE
  have hLt := lS_lt i
  obtain ⟨-, -, hrk, hrn, -⟩ := hE.2.2.2.2.2.2.2.1
  have hk0 : x.toNat < lS i := by omega
  have ex : Int32.ofInt x = nI x.toNat := by
    have : x = ((x.toNat : Nat) : Int) := by omega
    rw [this, Int.toNat_natCast]; exact Int32.ofInt_eq_ofNat
  rw [List.map_cons, List.map_cons, tv_0 _ x, ex, tv_r _ (by omega), Int.toNat_natCast]
  refine va_calli (va_runV (C := "java/lang/String") (As := [.int (nI x.toNat)]) (rest := st.map (tv (jad X))) (cf_of hE) (c_schar (X.2.1) hi hk0 H.size) ⟨callB_of (ws' := gtb) 1 hts (wsM_in cv_mS_schar) rfl rfl rfl (hts _ cv_mS_schar.2.1) (hts _ hlk) ⟨cv_mS_schar.2.2.1.1, cv_mS_schar.2.2.1.2, cv_mS_schar.2.2.2.1⟩ (room_j (n := 1) (y := mS_schar) hE hd (by omega) (by decide)), hts _ in_mS_schar, hts _ se_mS_schar⟩ ⟨PT_FB, vk_recv hT.1 hi hS.2.2.1, fun U hU hW => ⟨rfl, by rw [hU], by rw [hU]; exact hT1.mv hW.alike⟩⟩ rfl rfl hL.1.1 rfl (lv_room (by rw [acs_eq]; exact hr8)) h ⟨by omega, by omega⟩) hS.2.2.1 (fun q _ h => hAs q h) hAs (fun r u t H1 locs1 ht hal hp hB hz hkk hS1 => ?_)
  subst hp
  have hk := k X jl H1 locs1 cells slots hE (ST_new hS hkk hS1) hL (vk_c (vok_0.mpr (toI_in _)) (vk_t (vk_t hv))) hR hc hs
  rw [List.map_cons, tv_0, Int32.ofInt_toInt] at hk
  exact hk
/-- a letter of the reference's words -/
def chW (x : Int) : Int := (chv 1 x.toNat).toInt
theorem A_strlenW (h : decode mt.2.1 pc = .ok (.invokevirtual idx, 3)) (hlk : Cond.methodLink mt.1.cls idx yS_length ∈ gtb) (hd : 1 ≤ d) (hr8 : acs st ≤ 8) (k : A mt d al (pc + 3) ls ((0, 92) :: st) M K) : A mt d al pc ls ((5, ((99 : Nat) : Int)) :: st) M K := A_strlen (i := 1) (by omega) h hlk hd hr8 k
theorem A_scharW {x : Int} (h : decode mt.2.1 pc = .ok (.invokevirtual idx, 3)) (hlk : Cond.methodLink mt.1.cls idx yS_schar ∈ gtb) (hd : 1 ≤ d) (hr8 : acs st ≤ 8) (h0 : 0 ≤ x ∧ x < 92) (k : A mt d al (pc + 3) ls ((0, chW x) :: st) M K) : A mt d al pc ls ((0, x) :: (5, ((99 : Nat) : Int)) :: st) M K := A_schar (i := 1) (by omega) h hlk hd hr8 h0 k
end TEXT
theorem q_11_word  {M : Mem} {P : Int → Mem → Prop} (h : A m11_word 2 0 4 [(20, ((59 : Nat) : Int)), (0, 0), (0, 0), (2, 0)] [] M (Ki P)) : CI m11_word 2 [(20, ((59 : Nat) : Int))] M P := by
  refine CI_of (by decide +kernel) (Nat.le_of_ble_eq_true rfl) ?_
  show A m11_word 2 0 0 [(20, ((59 : Nat) : Int)), (2, 0), (2, 0), (2, 0)] [] M (Ki P)
  refine A_iconst (a := 0) (by decide +kernel) (by unfold in32; omega) ?_
  refine A_istore_n (i := 1) (f := 1) rfl (by decide +kernel) (by decide) (fun w h0 hw => by simp at hw; first | (rw [← hw]; decide) | (rw [← hw]; simp)) ?_
  refine A_iconst (a := 0) (by decide +kernel) (by unfold in32; omega) ?_
  refine A_istore_n (i := 2) (f := 2) rfl (by decide +kernel) (by decide) (fun w h0 hw => by simp at hw; first | (rw [← hw]; decide) | (rw [← hw]; simp)) ?_
  exact A_weak (lsub.keep (lsub.keep (lsub.keep (lsub.drop lsub.nil)))) h
theorem r_11_word_4 {x1 : Int} {x2 : Int} {M : Mem} {P : Int → Mem → Prop} (h : ((92 ≤ x2 → (P (-1) M)) ∧ (x2 < 92 → A m11_word 2 0 15 [(20, ((59 : Nat) : Int)), (0, x1), (0, x2), (0, 0)] [] M (Ki P)))) : A m11_word 2 0 4 [(20, ((59 : Nat) : Int)), (0, x1), (0, x2), (2, 0)] [] M (Ki P) := by
  refine A_iload_n (i := 2) (f := 2) rfl (by decide +kernel) rfl ?_
  refine A_ldcW rfl (by decide +kernel) ?_
  refine A_strlenW (by decide +kernel) lk_11_162 (by omega) (Nat.le_of_ble_eq_true rfl) ?_
  refine A_ic_ge (off := 113) (tgt := 123) (by decide +kernel) (by omega) (fun b1 => ?_) (fun b1 => ?_)
  · have h2 := h.1 b1
    refine A_iconst (a := (-1)) (by decide +kernel) (by unfold in32; omega) ?_
    exact A_ret ⟨by decide +kernel, Or.inl rfl⟩ ⟨_, rfl, h2⟩
  · have h3 := h.2 (Int.not_le.mp b1)
    refine A_iconst (a := 0) (by decide +kernel) (by unfold in32; omega) ?_
    refine A_istore_n (i := 3) (f := 3) rfl (by decide +kernel) (by decide) (fun w h0 hw => by simp at hw; first | (rw [← hw]; decide) | (rw [← hw]; simp)) ?_
    exact A_weak (lsub.keep (lsub.keep (lsub.keep (lsub.keep lsub.nil)))) h3
theorem r_11_word_15 {x1 : Int} {x2 : Int} {x3 : Int} {M : Mem} {P : Int → Mem → Prop} (h : ((0 ≤ (w32 (x2 + x3)) ∧ (w32 (x2 + x3)) < 92) ∧ (((chW (w32 (x2 + x3))) = 32 → A m11_word 2 0 69 [(20, ((59 : Nat) : Int)), (0, x1), (0, x2), (0, x3)] [] M (Ki P)) ∧ ((chW (w32 (x2 + x3))) ≠ 32 → (((M 59 19) ≤ (w32 ((M 59 20) + x3)) → A m11_word 2 0 69 [(20, ((59 : Nat) : Int)), (0, x1), (0, x2), (0, x3)] [] M (Ki P)) ∧ ((w32 ((M 59 20) + x3)) < (M 59 19) → ((0 ≤ (w32 ((M 59 20) + x3)) ∧ (w32 ((M 59 20) + x3)) < 700) ∧ ((0 ≤ (w32 (x2 + x3)) ∧ (w32 (x2 + x3)) < 92) ∧ (((M 60 ((w32 ((M 59 20) + x3))).toNat) ≠ (chW (w32 (x2 + x3))) → A m11_word 2 0 69 [(20, ((59 : Nat) : Int)), (0, x1), (0, x2), (0, x3)] [] M (Ki P)) ∧ ((M 60 ((w32 ((M 59 20) + x3))).toNat) = (chW (w32 (x2 + x3))) → A m11_word 2 0 15 [(20, ((59 : Nat) : Int)), (0, x1), (0, x2), (0, (w32 (x3 + 1)))] [] M (Ki P))))))))))) : A m11_word 2 0 15 [(20, ((59 : Nat) : Int)), (0, x1), (0, x2), (0, x3)] [] M (Ki P) := by
  refine A_ldcW rfl (by decide +kernel) ?_
  refine A_iload_n (i := 2) (f := 2) rfl (by decide +kernel) rfl ?_
  refine A_iload_n (i := 3) (f := 3) rfl (by decide +kernel) rfl ?_
  refine A_iadd (by decide +kernel) ?_
  refine A_scharW (by decide +kernel) lk_11_167 (by omega) (Nat.le_of_ble_eq_true rfl) h.1 ?_
  have h1 := h.2
  refine A_bipush (a := 32) (by decide +kernel) (by unfold in32; omega) (by decide +kernel) ?_
  refine A_ic_eq (off := 44) (tgt := 69) (by decide +kernel) (by omega) (fun b2 => ?_) (fun b2 => ?_)
  · have h3 := h1.1 b2
    exact A_weak (lsub.keep (lsub.keep (lsub.keep (lsub.keep lsub.nil)))) h3
  · have h4 := h1.2 b2
    refine A_aload_n (i := 0) (f := 0) (by omega) rfl (by decide +kernel) rfl ?_
    refine B_getp (v := (M 59 20)) (q := (RX11, TX11, 59)) (ci := 10) (j := 20) (p := 20) (by decide +kernel) rfl (by decide) rfl (Or.inl rfl) fl_11_134 rfl ?_
    refine A_iload_n (i := 3) (f := 3) rfl (by decide +kernel) rfl ?_
    refine A_iadd (by decide +kernel) ?_
    refine A_aload_n (i := 0) (f := 0) (by omega) rfl (by decide +kernel) rfl ?_
    refine B_getp (v := (M 59 19)) (q := (RX11, TX11, 59)) (ci := 10) (j := 19) (p := 19) (by decide +kernel) rfl (by decide) rfl (Or.inl rfl) fl_11_124 rfl ?_
    refine A_ic_ge (off := 31) (tgt := 69) (by decide +kernel) (by omega) (fun b5 => ?_) (fun b5 => ?_)
    · have h6 := h4.1 b5
      exact A_weak (lsub.keep (lsub.keep (lsub.keep (lsub.keep lsub.nil)))) h6
    · have h7 := h4.2 (Int.not_le.mp b5)
      refine A_aload_n (i := 0) (f := 0) (by omega) rfl (by decide +kernel) rfl ?_
      refine B_getr (o' := ((60 : Nat) : Int)) (q := (RX11, TX11, 59)) (ci := 10) (j := 1) (by decide +kernel) rfl (by decide) rfl (by omega) fl_11_7 rfl ?_
      refine A_aload_n (i := 0) (f := 0) (by omega) rfl (by decide +kernel) rfl ?_
      refine B_getp (v := (M 59 20)) (q := (RX11, TX11, 59)) (ci := 10) (j := 20) (p := 20) (by decide +kernel) rfl (by decide) rfl (Or.inl rfl) fl_11_134 rfl ?_
      refine A_iload_n (i := 3) (f := 3) rfl (by decide +kernel) rfl ?_
      refine A_iadd (by decide +kernel) ?_
      refine B_iald (v := (M 60 ((w32 ((M 59 20) + x3))).toNat)) (by decide +kernel) h7.1 rfl ?_
      have h8 := h7.2
      refine A_ldcW rfl (by decide +kernel) ?_
      refine A_iload_n (i := 2) (f := 2) rfl (by decide +kernel) rfl ?_
      refine A_iload_n (i := 3) (f := 3) rfl (by decide +kernel) rfl ?_
      refine A_iadd (by decide +kernel) ?_
      refine A_scharW (by decide +kernel) lk_11_167 (by omega) (Nat.le_of_ble_eq_true rfl) h8.1 ?_
      have h9 := h8.2
      refine A_ic_ne (off := 9) (tgt := 69) (by decide +kernel) (by omega) (fun b10 => ?_) (fun b10 => ?_)
      · have h11 := h9.1 b10
        exact A_weak (lsub.keep (lsub.keep (lsub.keep (lsub.keep lsub.nil)))) h11
      · have h12 := h9.2 (Decidable.not_not.mp b10)
        refine A_iinc (i := 3) (n := 1) (by decide +kernel) (by decide) rfl (fun w h0 hw => by simp at hw; first | (rw [← hw]; decide) | (rw [← hw]; simp)) ?_
        refine A_goto (off := (-51)) (tgt := 15) (by decide +kernel) (by omega) ?_
        exact A_weak (lsub.keep (lsub.keep (lsub.keep (lsub.keep lsub.nil)))) h12
theorem r_11_word_69 {x1 : Int} {x2 : Int} {x3 : Int} {M : Mem} {P : Int → Mem → Prop} (h : ((0 ≤ (w32 (x2 + x3)) ∧ (w32 (x2 + x3)) < 92) ∧ (((chW (w32 (x2 + x3))) ≠ 32 → A m11_word 2 0 97 [(20, ((59 : Nat) : Int)), (0, x1), (0, x2), (2, 0)] [] M (Ki P)) ∧ ((chW (w32 (x2 + x3))) = 32 → (((w32 ((M 59 20) + x3)) ≠ (M 59 19) → A m11_word 2 0 97 [(20, ((59 : Nat) : Int)), (0, x1), (0, x2), (2, 0)] [] M (Ki P)) ∧ ((w32 ((M 59 20) + x3)) = (M 59 19) → (P x1 M))))))) : A m11_word 2 0 69 [(20, ((59 : Nat) : Int)), (0, x1), (0, x2), (0, x3)] [] M (Ki P) := by
  refine A_ldcW rfl (by decide +kernel) ?_
  refine A_iload_n (i := 2) (f := 2) rfl (by decide +kernel) rfl ?_
  refine A_iload_n (i := 3) (f := 3) rfl (by decide +kernel) rfl ?_
  refine A_iadd (by decide +kernel) ?_
  refine A_scharW (by decide +kernel) lk_11_167 (by omega) (Nat.le_of_ble_eq_true rfl) h.1 ?_
  have h1 := h.2
  refine A_bipush (a := 32) (by decide +kernel) (by unfold in32; omega) (by decide +kernel) ?_
  refine A_ic_ne (off := 18) (tgt := 97) (by decide +kernel) (by omega) (fun b2 => ?_) (fun b2 => ?_)
  · have h3 := h1.1 b2
    exact A_weak (lsub.keep (lsub.keep (lsub.keep (lsub.drop lsub.nil)))) h3
  · have h4 := h1.2 (Decidable.not_not.mp b2)
    refine A_aload_n (i := 0) (f := 0) (by omega) rfl (by decide +kernel) rfl ?_
    refine B_getp (v := (M 59 20)) (q := (RX11, TX11, 59)) (ci := 10) (j := 20) (p := 20) (by decide +kernel) rfl (by decide) rfl (Or.inl rfl) fl_11_134 rfl ?_
    refine A_iload_n (i := 3) (f := 3) rfl (by decide +kernel) rfl ?_
    refine A_iadd (by decide +kernel) ?_
    refine A_aload_n (i := 0) (f := 0) (by omega) rfl (by decide +kernel) rfl ?_
    refine B_getp (v := (M 59 19)) (q := (RX11, TX11, 59)) (ci := 10) (j := 19) (p := 19) (by decide +kernel) rfl (by decide) rfl (Or.inl rfl) fl_11_124 rfl ?_
    refine A_ic_ne (off := 5) (tgt := 97) (by decide +kernel) (by omega) (fun b5 => ?_) (fun b5 => ?_)
    · have h6 := h4.1 b5
      exact A_weak (lsub.keep (lsub.keep (lsub.keep (lsub.drop lsub.nil)))) h6
    · have h7 := h4.2 (Decidable.not_not.mp b5)
      refine A_iload_n (i := 1) (f := 1) rfl (by decide +kernel) rfl ?_
      exact A_ret ⟨by decide +kernel, Or.inl rfl⟩ ⟨_, rfl, h7⟩
theorem r_11_word_97 {x1 : Int} {x2 : Int} {M : Mem} {P : Int → Mem → Prop} (h : ((0 ≤ x2 ∧ x2 < 92) ∧ (((chW x2) = 32 → A m11_word 2 0 4 [(20, ((59 : Nat) : Int)), (0, (w32 (x1 + 1))), (0, (w32 (x2 + 1))), (2, 0)] [] M (Ki P)) ∧ ((chW x2) ≠ 32 → A m11_word 2 0 97 [(20, ((59 : Nat) : Int)), (0, x1), (0, (w32 (x2 + 1))), (2, 0)] [] M (Ki P))))) : A m11_word 2 0 97 [(20, ((59 : Nat) : Int)), (0, x1), (0, x2), (2, 0)] [] M (Ki P) := by
  refine A_ldcW rfl (by decide +kernel) ?_
  refine A_iload_n (i := 2) (f := 2) rfl (by decide +kernel) rfl ?_
  refine A_scharW (by decide +kernel) lk_11_167 (by omega) (Nat.le_of_ble_eq_true rfl) h.1 ?_
  have h1 := h.2
  refine A_bipush (a := 32) (by decide +kernel) (by unfold in32; omega) (by decide +kernel) ?_
  refine A_ic_eq (off := 9) (tgt := 114) (by decide +kernel) (by omega) (fun b2 => ?_) (fun b2 => ?_)
  · have h3 := h1.1 b2
    refine A_iinc (i := 2) (n := 1) (by decide +kernel) (by decide) rfl (fun w h0 hw => by simp at hw; first | (rw [← hw]; decide) | (rw [← hw]; simp)) ?_
    refine A_iinc (i := 1) (n := 1) (by decide +kernel) (by decide) rfl (fun w h0 hw => by simp at hw; first | (rw [← hw]; decide) | (rw [← hw]; simp)) ?_
    refine A_goto (off := (-116)) (tgt := 4) (by decide +kernel) (by omega) ?_
    exact A_weak (lsub.keep (lsub.keep (lsub.keep (lsub.drop lsub.nil)))) h3
  · have h4 := h1.2 b2
    refine A_iinc (i := 2) (n := 1) (by decide +kernel) (by decide) rfl (fun w h0 hw => by simp at hw; first | (rw [← hw]; decide) | (rw [← hw]; simp)) ?_
    refine A_goto (off := (-14)) (tgt := 97) (by decide +kernel) (by omega) ?_
    exact A_weak (lsub.keep (lsub.keep (lsub.keep (lsub.drop lsub.nil)))) h4
