/-! ROWS: the contracts, both sides -/
def pcn (m : Nat) : Nat := cnt (fun k => m.testBit k) 31
def bcE (x0 : Int) : Int := (iand (w32 ((w32 ((iand (w32 ((w32 ((iand (w32 (x0 - (iand (iushr x0 1) 1431655765))) 858993459) + (iand (iushr (w32 (x0 - (iand (iushr x0 1) 1431655765))) 2) 858993459))) + (iushr (w32 ((iand (w32 (x0 - (iand (iushr x0 1) 1431655765))) 858993459) + (iand (iushr (w32 (x0 - (iand (iushr x0 1) 1431655765))) 2) 858993459))) 4))) 252645135) + (iushr (iand (w32 ((w32 ((iand (w32 (x0 - (iand (iushr x0 1) 1431655765))) 858993459) + (iand (iushr (w32 (x0 - (iand (iushr x0 1) 1431655765))) 2) 858993459))) + (iushr (w32 ((iand (w32 (x0 - (iand (iushr x0 1) 1431655765))) 858993459) + (iand (iushr (w32 (x0 - (iand (iushr x0 1) 1431655765))) 2) 858993459))) 4))) 252645135) 8))) + (iushr (w32 ((iand (w32 ((w32 ((iand (w32 (x0 - (iand (iushr x0 1) 1431655765))) 858993459) + (iand (iushr (w32 (x0 - (iand (iushr x0 1) 1431655765))) 2) 858993459))) + (iushr (w32 ((iand (w32 (x0 - (iand (iushr x0 1) 1431655765))) 858993459) + (iand (iushr (w32 (x0 - (iand (iushr x0 1) 1431655765))) 2) 858993459))) 4))) 252645135) + (iushr (iand (w32 ((w32 ((iand (w32 (x0 - (iand (iushr x0 1) 1431655765))) 858993459) + (iand (iushr (w32 (x0 - (iand (iushr x0 1) 1431655765))) 2) 858993459))) + (iushr (w32 ((iand (w32 (x0 - (iand (iushr x0 1) 1431655765))) 858993459) + (iand (iushr (w32 (x0 - (iand (iushr x0 1) 1431655765))) 2) 858993459))) 4))) 252645135) 8))) 16))) 63)
theorem bc_tab : (List.range 256).all (fun m => bcE (m : Int) == (pcn m : Int)) = true := by decide +kernel
theorem s_bitCount {m : Nat} {M : Mem} {P : Int → Mem → Prop} (hm : m < 256) (h : P (pcn m : Int) M) : CI mJ_bitCount 1 [(0, (m : Int))] M P := by
  apply q_J_bitCount
  have e := List.all_eq_true.mp bc_tab m (List.mem_range.mpr hm)
  have e : bcE (m : Int) = (pcn m : Int) := by simpa using e
  show P (bcE (m : Int)) M
  rw [e]; exact h
theorem w8_val {r k : Nat} (hr : r < 2147483648) (hk : k < 10) : iand (ishr (r : Int) (w32 (3 * (k : Int)))) 7 = ((w8 r k : Nat) : Int) := by
  rw [show w32 (3 * (k : Int)) = ((3 * k : Nat) : Int) by unfold w32; omega, ishr_n hr (by omega)]
  exact iand_n (b := 7) (Nat.lt_of_le_of_lt (Nat.shiftRight_le _ _) hr)
theorem s_wordAt {r k : Nat} {M : Mem} {P : Int → Mem → Prop} (hr : r < 2147483648) (hk : k < 10) (h : P (w8 r k : Int) M) : CI m8_wordAt 1 [(0, (r : Int)), (0, (k : Int))] M P := by
  apply q_8_wordAt
  rw [w8_val hr hk]; exact h
theorem s_wordOf {r k : Nat} {M : Mem} {P : Int → Mem → Prop} (hr : r < 2147483648) (hk : k < 10) (h : P (w8 r k : Int) M) : CI m11_wordOf 1 [(0, (r : Int)), (0, (k : Int))] M P := by
  apply q_11_wordOf
  rw [w8_val hr hk]; exact h
def rowB (n : Nat) (x : Int) : Bool := decide (0 ≤ x) && (pmB n x.toNat && decide (x.toNat < 8 ^ n))
theorem rowB_pm {n : Nat} {x : Int} (hn : n < 6) (h : rowB n x = true) : ∃ r : Nat, x = (r : Int) ∧ pm n r := by
  unfold rowB at h
  simp only [Bool.and_eq_true, decide_eq_true_eq] at h
  exact ⟨x.toNat, by omega, h.2.1, h.2.2, hn⟩
theorem p8_lt {n : Nat} (hn : n < 6) : 8 ^ n ≤ 32768 := by
  have := Nat.pow_le_pow_right (n := 8) (by decide) (show n ≤ 5 by omega)
  simpa using this
theorem pm_31 {n r : Nat} (h : pm n r) : r < 2147483648 := by have := h.2.1; have := p8_lt h.2.2; omega
theorem high_0 {n r : Nat} (hn : n < 6) (hr : r < 2147483648) : ishr (r : Int) (w32 (3 * (n : Int))) = 0 ↔ r < 8 ^ n := by
  rw [show w32 (3 * (n : Int)) = ((3 * n : Nat) : Int) by unfold w32; omega, ishr_n hr (by omega), Nat.shiftRight_eq_div_pow, Nat.pow_mul]
  show ((r / 8 ^ n : Nat) : Int) = 0 ↔ _
  rw [← Nat.div_eq_zero_iff_lt (Nat.pow_pos (by decide))]
  omega
theorem s_isRow {n : Nat} {x : Int} {M : Mem} {P : Int → Mem → Prop} (hn : n < 6) (h : P (bi (rowB n x = true)) M) : CI m8_isRow 2 [(0, x), (0, (n : Int))] M P := by
  apply CI_know
  intro _ _ hv
  have hx : in32 x := vok_0.mp (hv _ List.mem_cons_self)
  apply q_8_isRow
  refine ⟨fun q => ?_, fun q => ?_⟩
  · rwa [bi_f (by unfold rowB; simp; omega)] at h
  · obtain ⟨r, rfl⟩ : ∃ r : Nat, x = (r : Int) := ⟨x.toNat, by omega⟩
    have hr : r < 2147483648 := by unfold in32 at hx; omega
    refine ⟨fun q2 => ?_, fun q2 => ?_⟩
    · have hr8 := (high_0 hn hr).mp q2
      have hc := (chk_all hn hr8).1
      refine loop_up (Inv := fun k M1 => M1 = M) (G := fun k M1 => A m8_isRow 2 0 18 [(0, (r : Int)), (0, (n : Int)), (0, (met r k : Int)), (0, (k : Int))] [] M1 (Ki P)) n ?_ ?_ 0 M (by omega) rfl
      · rintro M1 rfl
        apply r_8_isRow_18
        have e : w32 (ishl 1 (n : Int) - 1) = (((1 <<< n) - 1 : Nat) : Int) := by
          have : ∀ n : Nat, n < 6 → w32 (ishl 1 (n : Int) - 1) = (((1 <<< n) - 1 : Nat) : Int) := by decide +kernel
          exact this n hn
        rw [e]
        refine ⟨fun _ => ⟨fun q3 => ?_, fun q3 => ?_⟩, fun q3 => by omega⟩
        · rwa [bi_f (by
            unfold rowB
            intro z
            simp only [Bool.and_eq_true] at z
            have := hc.mpr (by simpa using z.2.1)
            rw [this] at q3; exact q3 rfl)] at h
        · rwa [bi_t (by
            unfold rowB
            have := hc.mp (by omega)
            simp [this, hr8])] at h
      · rintro k M1 hk rfl ih
        apply r_8_isRow_18
        refine ⟨fun q3 => by omega, fun _ => ?_⟩
        apply s_wordAt hr (by omega)
        have hw := w8_lt r k
        have hm : ∀ k, met r k < 256 := by
          intro k
          induction k with
          | zero => show 0 < 256; omega
          | succ k ih2 =>
            unfold met
            refine Nat.or_lt_two_pow (n := 8) ih2 ?_
            rw [Nat.shiftLeft_eq, Nat.one_mul]
            exact Nat.pow_lt_pow_right (by decide) (w8_lt r k)
        rw [w_1 (by omega), ishl1 _ hw, ior_n (by have := hm k; omega) (by rw [Nat.shiftLeft_eq, Nat.one_mul]; have := Nat.pow_lt_pow_right (a := 2) (by decide) hw; omega)]
        exact ih M1 rfl
    · rwa [bi_f (by
        unfold rowB
        intro z
        simp only [Bool.and_eq_true, decide_eq_true_eq] at z
        exact q2 ((high_0 hn hr).mpr (by simpa using z.2.2)))] at h
theorem s_isRow_r {n : Nat} {x : Int} {M : Mem} {P : Int → Mem → Prop} (hn : n < 6) (hp : M 61 2 = (n : Int)) (h : P (bi (rowB n x = true)) M) : CI m11_isRow 2 [(20, ((59 : Nat) : Int)), (0, x)] M P := by
  apply CI_know
  intro _ _ hv
  have hx : in32 x := vok_0.mp (hv (0, x) (by simp))
  apply q_11_isRow
  rw [hp]
  refine ⟨fun q => ?_, fun q => ?_⟩
  · rwa [bi_f (by unfold rowB; simp; omega)] at h
  · obtain ⟨r, rfl⟩ : ∃ r : Nat, x = (r : Int) := ⟨x.toNat, by omega⟩
    have hr : r < 2147483648 := by unfold in32 at hx; omega
    refine ⟨fun q2 => ?_, fun q2 => ?_⟩
    · have hr8 := (high_0 hn hr).mp q2
      have hpm : ∀ k, rowB n (r : Int) = true → k < n → w8 r k < n ∧ ∀ j, j < k → w8 r j ≠ w8 r k := by
        intro k z hk
        obtain ⟨r', e, hpm⟩ := rowB_pm hn z
        have : r = r' := by omega
        subst this
        exact ⟨pm_lt hpm hk, fun j hj e => by have := pm_inj hpm (by omega) hk e; omega⟩
      refine loop_up (Inv := fun k M1 => M1 = M ∧ (List.range k).all (fun k => decide (w8 r k < n) && (List.range k).all fun j => !(w8 r j == w8 r k)) = true) (G := fun k M1 => A m11_isRow 2 0 26 [(2, 0), (0, (r : Int)), (0, (n : Int)), (0, (met r k : Int)), (0, (k : Int)), (2, 0)] [] M1 (Ki P)) n ?_ ?_ 0 M (by omega) ⟨rfl, rfl⟩
      · rintro M1 ⟨rfl, hI⟩
        apply r_11_isRow_26
        refine ⟨fun _ => ?_, fun q3 => by omega⟩
        rwa [bi_t (by unfold rowB pmB; simp only [Int.toNat_natCast]; rw [hI]; simp [hr8])] at h
      · rintro k M1 hk ⟨rfl, hI⟩ ih
        apply r_11_isRow_26
        refine ⟨fun q3 => by omega, fun _ => ?_⟩
        apply s_wordOf hr (by omega)
        have hw := w8_lt r k
        have hm : ∀ k, met r k < 256 := by
          intro k
          induction k with
          | zero => show 0 < 256; omega
          | succ k ih2 =>
            unfold met
            refine Nat.or_lt_two_pow (n := 8) ih2 ?_
            rw [Nat.shiftLeft_eq, Nat.one_mul]
            exact Nat.pow_lt_pow_right (by decide) (w8_lt r k)
        refine ⟨fun q3 => ?_, fun q3 => ⟨fun q4 => ?_, fun q4 => ?_⟩⟩
        · rwa [bi_f (fun z => by have := (hpm k z hk).1; omega)] at h
        · have h3 : ¬ (met r k).testBit (w8 r k) = true := fun z => q4 ((bit_1 (by have := hm k; omega) (by omega)).mpr z)
          rw [w_1 (by omega), ishl1 _ hw, ior_n (by have := hm k; omega) (by rw [Nat.shiftLeft_eq, Nat.one_mul]; have := Nat.pow_lt_pow_right (a := 2) (by decide) hw; omega)]
          refine ih M1 ⟨rfl, ?_⟩
          rw [List.range_succ, List.all_append, hI]
          simp only [List.all_cons, List.all_nil, Bool.and_true, Bool.true_and, Bool.and_eq_true, decide_eq_true_eq]
          refine ⟨by omega, List.all_eq_true.mpr (fun j hj => ?_)⟩
          simp only [Bool.not_eq_true', beq_eq_false_iff_ne]
          intro e
          exact h3 (met_bit.mpr ⟨j, List.mem_range.mp hj, e⟩)
        · have h3 : (met r k).testBit (w8 r k) = true := (bit_1 (by have := hm k; omega) (by omega)).mp q4
          obtain ⟨j, hj, e⟩ := met_bit.mp h3
          rwa [bi_f (fun z => (hpm k z hk).2 j hj e)] at h
    · rwa [bi_f (by
        unfold rowB
        intro z
        simp only [Bool.and_eq_true, decide_eq_true_eq] at z
        exact q2 ((high_0 hn hr).mpr (by simpa using z.2.2)))] at h
theorem spt_step (r p m k : Nat) : spt r p (m + 1) k = if w8 r k = p then k else spt r p m (k + 1) := rfl
theorem s_spotOf {n r p : Nat} {M : Mem} {P : Int → Mem → Prop} (hr : pm n r) (hp : p < n) (h : P (spot n r p : Int) M) : CI m8_spotOf 2 [(0, (r : Int)), (0, (p : Int)), (0, (n : Int))] M P := by
  apply q_8_spotOf
  have hn := hr.2.2
  have key : ∀ m k, k + m = n → spt r p m k = spot n r p → A m8_spotOf 2 0 2 [(0, (r : Int)), (0, (p : Int)), (0, (n : Int)), (0, (k : Int))] [] M (Ki P) := by
    intro m
    induction m with
    | zero =>
      intro k hk e
      have := (spot_lt hr hp).1
      have e : k = spot n r p := e
      omega
    | succ m ih =>
      intro k hk e
      apply r_8_spotOf_2
      refine ⟨fun q => by omega, fun _ => ?_⟩
      apply s_wordAt (pm_31 hr) (by omega)
      rw [spt_step] at e
      refine ⟨fun q => ?_, fun q => ?_⟩
      · rw [if_neg (by omega)] at e
        rw [w_1 (by omega)]
        exact ih (k + 1) (by omega) e
      · rw [if_pos (by omega)] at e
        rw [e]; exact h
  exact key n 0 (by omega) rfl
theorem s_placeIn {n r p : Nat} {M : Mem} {P : Int → Mem → Prop} (hr : pm n r) (hp : p < n) (h : P (spot n r p : Int) M) : CI m11_placeIn 2 [(20, ((59 : Nat) : Int)), (0, (r : Int)), (0, (p : Int))] M P := by
  apply q_11_placeIn
  have hn := hr.2.2
  have key : ∀ m k, k + m = n → spt r p m k = spot n r p → A m11_placeIn 2 0 2 [(2, 0), (0, (r : Int)), (0, (p : Int)), (0, (k : Int))] [] M (Ki P) := by
    intro m
    induction m with
    | zero =>
      intro k hk e
      have := (spot_lt hr hp).1
      have e : k = spot n r p := e
      omega
    | succ m ih =>
      intro k hk e
      apply r_11_placeIn_2
      apply s_wordOf (pm_31 hr) (by omega)
      rw [spt_step] at e
      refine ⟨fun q => ?_, fun q => ?_⟩
      · rw [if_pos (by omega)] at e
        rw [e]; exact h
      · rw [if_neg (by omega)] at e
        rw [w_1 (by omega)]
        exact ih (k + 1) (by omega) e
  exact key n 0 (by omega) rfl
theorem sm_le {f : Nat → Nat} {c : Nat} (h : ∀ i, f i ≤ c) : ∀ n, sm f n ≤ n * c
  | 0 => by simp [sm]
  | n + 1 => by unfold sm; have := sm_le h n; have := h n; rw [Nat.succ_mul]; omega
theorem s_turned {n right row : Nat} {M : Mem} {P : Int → Mem → Prop} (h1 : pm n right) (h2 : pm n row) (h : P (tcl n right row : Int) M) : CI m8_turned 3 [(0, (right : Int)), (0, (row : Int)), (0, (n : Int))] M P := by
  apply q_8_turned
  have hn := h1.2.2
  let f : Nat → Nat := fun s => cnt (fun a => decide (spot n right (w8 row s) < spot n right (w8 row a))) s
  have hf : ∀ s, s ≤ n → sm f s ≤ 25 := by
    intro s hs
    have e : sm f s ≤ sm (fun i => if i < n then f i else 0) s := by
      rw [sm_congr (g := f) (f := fun i => if i < n then f i else 0) (fun i hi => if_pos (by omega))]
      exact Nat.le_refl _
    have e2 := sm_le (f := fun i => if i < n then f i else 0) (c := 5) (fun i => by
      split
      · have := cnt_le (fun a => decide (spot n right (w8 row i) < spot n right (w8 row a))) i
        show cnt _ _ ≤ 5
        omega
      · omega) s
    omega
  have go : ∀ s M1, M1 = M → s ≤ n → 1 ≤ s ∨ n = 0 → A m8_turned 3 0 5 [(0, (right : Int)), (0, (row : Int)), (0, (n : Int)), (0, (sm f s : Int)), (0, ((max s 1 : Nat) : Int)), (2, 0), (2, 0)] [] M1 (Ki P) := by
    intro s M1 hM hs h01
    refine loop_up (Inv := fun s M1 => M1 = M ∧ (1 ≤ s ∨ n = 0)) (G := fun s M1 => A m8_turned 3 0 5 [(0, (right : Int)), (0, (row : Int)), (0, (n : Int)), (0, (sm f s : Int)), (0, ((max s 1 : Nat) : Int)), (2, 0), (2, 0)] [] M1 (Ki P)) n ?_ ?_ s M1 hs ⟨hM, h01⟩
    · rintro M1 ⟨rfl, -⟩
      apply r_8_turned_5
      exact ⟨fun _ => h, fun q => by omega⟩
    · rintro s M1 hs ⟨rfl, h01⟩ ih
      have hs1 : max s 1 = s := by omega
      rw [hs1]
      apply r_8_turned_5
      refine ⟨fun q => by omega, fun _ => ?_⟩
      apply s_wordAt (pm_31 h2) (by omega)
      apply s_spotOf h1 (pm_lt h2 hs)
      have hfs := hf s (by omega)
      refine loop_up (Inv := fun a M2 => M2 = M1) (G := fun a M2 => A m8_turned 3 0 27 [(0, (right : Int)), (0, (row : Int)), (0, (n : Int)), (0, ((sm f s + cnt (fun a => decide (spot n right (w8 row s) < spot n right (w8 row a))) a : Nat) : Int)), (0, (s : Int)), (0, (spot n right (w8 row s) : Int)), (0, (a : Int))] [] M2 (Ki P)) s ?_ ?_ 0 M1 (by omega) rfl
      · rintro M2 rfl
        apply r_8_turned_27
        refine ⟨fun _ => ?_, fun q => by omega⟩
        rw [w_1 (by omega)]
        have := ih M2 ⟨rfl, by omega⟩
        rw [show max (s + 1) 1 = s + 1 by omega] at this
        exact this
      · rintro a M2 ha rfl ih2
        apply r_8_turned_27
        refine ⟨fun q => by omega, fun _ => ?_⟩
        apply s_wordAt (pm_31 h2) (by omega)
        apply s_spotOf h1 (pm_lt h2 (by omega))
        have hc := cnt_le (fun a => decide (spot n right (w8 row s) < spot n right (w8 row a))) a
        rw [w_1 (by omega)]
        refine ⟨fun q => ?_, fun q => ?_⟩
        · have := ih2 M2 rfl
          rw [show cnt (fun a => decide (spot n right (w8 row s) < spot n right (w8 row a))) (a + 1) = cnt (fun a => decide (spot n right (w8 row s) < spot n right (w8 row a))) a from by
            show _ + (decide (spot n right (w8 row s) < spot n right (w8 row a))).toNat = _
            rw [decide_eq_false (by omega)]; rfl] at this
          exact this
        · rw [w_1 (by omega)]
          have := ih2 M2 rfl
          rw [show cnt (fun a => decide (spot n right (w8 row s) < spot n right (w8 row a))) (a + 1) = cnt (fun a => decide (spot n right (w8 row s) < spot n right (w8 row a))) a + 1 from by
            show _ + (decide (spot n right (w8 row s) < spot n right (w8 row a))).toNat = _
            rw [decide_eq_true (by omega)]; rfl, ← Nat.add_assoc] at this
          exact this
  by_cases h0 : n = 0
  · have := go 0 M rfl (by omega) (Or.inr h0)
    exact this
  · have := go 1 M rfl (by omega) (Or.inl (by omega))
    exact this
theorem s_turned_r {n right row : Nat} {M : Mem} {P : Int → Mem → Prop} (h1 : pm n right) (h2 : pm n row) (hp : M 61 2 = (n : Int)) (h : P (tcl n right row : Int) M) : CI m11_turned 3 [(20, ((59 : Nat) : Int)), (0, (row : Int)), (0, (right : Int))] M P := by
  apply q_11_turned
  have hn := h1.2.2
  rw [tcl_trn h1 h2] at h
  let f : Nat → Nat := fun a => cnt (fun b => decide (spot n row a < spot n row b) != decide (spot n right a < spot n right b)) a
  have hf : ∀ s, s ≤ n → sm f s ≤ 25 := by
    intro s hs
    have e2 := sm_le (f := fun i => if i < n then f i else 0) (c := 5) (fun i => by
      split
      · have := cnt_le (fun b => decide (spot n row i < spot n row b) != decide (spot n right i < spot n right b)) i
        show cnt _ _ ≤ 5
        omega
      · omega) s
    rw [sm_congr (g := f) (f := fun i => if i < n then f i else 0) (fun i hi => if_pos (by omega))] at e2
    omega
  refine loop_up (Inv := fun s M1 => M1 = M) (G := fun s M1 => A m11_turned 3 0 5 [(20, ((59 : Nat) : Int)), (0, (row : Int)), (0, (right : Int)), (0, (sm f s : Int)), (0, (s : Int)), (2, 0)] [] M1 (Ki P)) n ?_ ?_ 0 M (by omega) rfl
  · rintro M1 rfl
    apply r_11_turned_5
    rw [hp]
    exact ⟨fun _ => h, fun q => by omega⟩
  · rintro a M1 ha rfl ih
    apply r_11_turned_5
    rw [hp]
    refine ⟨fun q => by omega, fun _ => ?_⟩
    have hfs := hf a (by omega)
    let g : Nat → Bool := fun b => decide (spot n row a < spot n row b) != decide (spot n right a < spot n right b)
    refine loop_up (Inv := fun b M2 => M2 = M1) (G := fun b M2 => A m11_turned 3 0 19 [(20, ((59 : Nat) : Int)), (0, (row : Int)), (0, (right : Int)), (0, ((sm f a + cnt g b : Nat) : Int)), (0, (a : Int)), (0, (b : Int))] [] M2 (Ki P)) a ?_ ?_ 0 M1 (by omega) rfl
    · rintro M2 rfl
      apply r_11_turned_19
      refine ⟨fun _ => ?_, fun q => by omega⟩
      rw [w_1 (by omega)]
      exact ih M2 rfl
    · rintro b M2 hb rfl ih2
      apply r_11_turned_19
      refine ⟨fun q => by omega, fun _ => ?_⟩
      have hc := cnt_le g b
      have add0 : w32 (((sm f a + cnt g b : Nat) : Int) + 0) = ((sm f a + cnt g b : Nat) : Int) := by unfold w32; omega
      have nb : ∀ v, g b = v → cnt g (b + 1) = cnt g b + v.toNat := fun v e => by rw [← e]; rfl
      have n0 : g b = false → A m11_turned 3 0 19 [(20, ((59 : Nat) : Int)), (0, (row : Int)), (0, (right : Int)), (0, ((sm f a + cnt g b : Nat) : Int)), (0, (a : Int)), (0, ((b + 1 : Nat) : Int))] [] M2 (Ki P) := by
        intro e
        have := ih2 M2 rfl
        rw [nb _ e] at this
        exact this
      have n1 : g b = true → A m11_turned 3 0 19 [(20, ((59 : Nat) : Int)), (0, (row : Int)), (0, (right : Int)), (0, ((sm f a + cnt g b + 1 : Nat) : Int)), (0, (a : Int)), (0, ((b + 1 : Nat) : Int))] [] M2 (Ki P) := by
        intro e
        have := ih2 M2 rfl
        rw [nb _ e, ← Nat.add_assoc] at this
        exact this
      apply s_placeIn h2 ha
      apply s_placeIn h2 (by omega)
      rw [w_1 (by omega), add0, w_1 (by omega)]
      refine ⟨fun q => ?_, fun q => ?_⟩
      · apply s_placeIn h1 ha
        apply s_placeIn h1 (by omega)
        refine ⟨fun q2 => n0 ?_, fun q2 => n1 ?_⟩
        · show (decide _ != decide _) = false
          rw [decide_eq_false (by omega), decide_eq_false (by omega)]; rfl
        · show (decide _ != decide _) = true
          rw [decide_eq_false (by omega), decide_eq_true (by omega)]; rfl
      · apply s_placeIn h1 ha
        apply s_placeIn h1 (by omega)
        refine ⟨fun q2 => n1 ?_, fun q2 => n0 ?_⟩
        · show (decide _ != decide _) = true
          rw [decide_eq_true (by omega), decide_eq_false (by omega)]; rfl
        · show (decide _ != decide _) = false
          rw [decide_eq_true (by omega), decide_eq_true (by omega)]; rfl
