/-! halls of the class -/
theorem s_names {pp n nf : Nat} {s : Int} {F : FTab} {ag C : Nat → Int} {Bg E : Nat → Nat} {M : Mem} {P : Mem → Prop} {a b c : Nat} (hS : SC M pp n s nf F ag C Bg E) (hf : SF pp s nf F) (hr : rows M 37 (abv F nf pp s)) (ha : a < pp) (hb : b < pp) (hc : c < pp)
    (h : ∀ M', Fp (fun k _ => k = 40) M M' → (∀ i, i < 8 → M' 40 i = nmS pp nf s F ag a b c i) → P M') : CD m9_meet 2 [(18, ((39 : Nat) : Int)), (10, ((21 : Nat) : Int)), (0, (a : Int)), (0, (b : Int)), (0, (c : Int)), (0, s)] M (fun M5 => CD m9_standBy 4 [(18, ((39 : Nat) : Int)), (15, ((34 : Nat) : Int)), (0, (a : Int)), (0, (b : Int)), (0, (c : Int))] M5 P) := by
  have h5 := hf.1
  apply s_meet (Or.inr rfl) (by omega) (by omega) (by omega)
  intro M2 hF2 hN2
  apply s_standBy (B := abv F nf pp s) isO34 (by omega) (by omega) (by omega) (by omega) (fun p hp => by rw [hF2 37 p (by unfold mset40; omega)]; exact hr p hp) (hf.2.2.2.2 s hf.2.1.1 hf.2.1.2)
  intro M3 hF3 x0 x1 x2
  have hag := hS.2.2.2.1
  have e := nmv_ag (s := s) (x := 0) (y := 0) (z := 0) (hag a ha) (hag b hb) (hag c hc)
  rw [show (21 + 2 : Nat) = 23 from rfl, e] at hN2
  refine h M3 ((hF2.mono (fun k j q => q.1)).tr (hF3.mono (fun k j q => q.1))) (fun i hi => ?_)
  match i, hi with
  | 0, _ => exact x0
  | 1, _ => exact x1
  | 2, _ => exact x2
  | 3, _ => rw [hF3 40 3 (by unfold wset; omega), hN2 3 (by omega) (by omega)]; rfl
  | 4, _ => rw [hF3 40 4 (by unfold wset; omega), hN2 4 (by omega) (by omega)]; rfl
  | 5, _ => rw [hF3 40 5 (by unfold wset; omega), hN2 5 (by omega) (by omega)]; rfl
  | 6, _ => rw [hF3 40 6 (by unfold wset; omega), hN2 6 (by omega) (by omega)]; rfl
  | 7, _ => rw [hF3 40 7 (by unfold wset; omega), hN2 7 (by omega) (by omega)]; rfl
theorem bit_q1 {m q : Nat} (hm : m < 2147483648) (hq : q < 32) (h : iand (ishr (m : Int) (q : Int)) 1 ≠ 1) : m.testBit q = false := by
  cases hb : m.testBit q with
  | false => rfl
  | true => exact absurd ((bit_1 hm hq).mpr hb) h
theorem s_hearHall {pp n nf : Nat} {s : Int} {F : FTab} {ag C : Nat → Int} {Bg E : Nat → Nat} {M : Mem} {P : Mem → Prop} {a c hs : Nat} (hS : SC M pp n s nf F ag C Bg E) (hf : SF pp s nf F) (hr : rows M 37 (abv F nf pp s)) (ha : a < pp) (hc : c < pp) (hh : hs < 2147483648)
    (h : ∀ M', Fp csp M M' → (∀ j, j < pp → hs.testBit j = true → M' 42 j = (rgt C Bg E n (nmS pp nf s F ag a j c) : Int)) → P M') : CD m9_hearHall 6 [(18, ((39 : Nat) : Int)), (15, ((34 : Nat) : Int)), (10, ((21 : Nat) : Int)), (0, s), (0, (a : Int)), (0, (hs : Int)), (0, (c : Int))] M P := by
  have h5 := hf.1
  have a42 : ((aln 42 : Nat) : Int) = 8 := by decide
  apply q_9_hearHall
  refine loop_up (Inv := fun i M1 => Fp csp M M1 ∧ rows M1 37 (abv F nf pp s) ∧ ∀ j, j < i → hs.testBit j = true → M1 42 j = (rgt C Bg E n (nmS pp nf s F ag a j c) : Int)) (G := fun i M1 => A m9_hearHall 6 0 3 [(18, ((39 : Nat) : Int)), (15, ((34 : Nat) : Int)), (10, ((21 : Nat) : Int)), (0, s), (0, (a : Int)), (0, (hs : Int)), (0, (c : Int)), (0, (i : Int))] [] M1 (Kd P)) pp ?_ ?_ 0 M (Nat.zero_le _) ⟨Fp.rf, hr, fun j hj => by omega⟩
  · rintro M1 ⟨hF, _, hR⟩
    have hS1 := hS.fp hF (fun k j hk => Or.inl hk)
    apply r_9_hearHall_3
    rw [hS1.1]
    exact ⟨fun _ => h M1 hF hR, fun q => by omega⟩
  · rintro i M1 hi ⟨hF, hr1, hR⟩ ih
    have hS1 := hS.fp hF (fun k j hk => Or.inl hk)
    apply r_9_hearHall_3
    rw [hS1.1, w_1 (by omega)]
    refine ⟨fun q => by omega, fun _ => ⟨fun q => ?_, fun q => ?_⟩⟩
    · refine ih M1 ⟨hF, hr1, fun j hj hb => ?_⟩
      by_cases e : j = i
      · subst e; rw [bit_q1 hh (by omega) q] at hb; cases hb
      · exact hR j (by omega) hb
    · apply s_names hS1 hf hr1 ha hi hc
      intro M2 hF2 hN
      have hF2' : Fp csp M1 M2 := hF2.mono (fun k j q => by unfold csp cs; omega)
      have hS2 := hS1.fp hF2' (fun k j hk => Or.inl hk)
      apply s_rightS hS2.2.2.1 hN (nmS_ok hf.2.1)
      intro M3 hF3
      apply s_put (by omega) (by omega)
      rw [Int.toNat_natCast]
      refine ih _ ⟨(hF.tr (hF2'.tr (rset_cs hF3))).set (Or.inr (Or.inl (by omega))), fun p hp => ?_, fun j hj hb => ?_⟩
      · rw [mset_k (by decide), hF3 37 (by unfold rset; omega), hF2 37 p (by omega)]; exact hr1 p hp
      · by_cases e : j = i
        · subst e; exact mset_s
        · rw [mset_j e, hF3 42 (by unfold rset; omega), hF2 42 j (by omega)]; exact hR j (by omega) hb
theorem sm_le2 {f : Nat → Nat} {c : Nat} : ∀ n, (∀ i, i < n → f i ≤ c) → sm f n ≤ n * c
  | 0, _ => by simp [sm]
  | n + 1, h => by unfold sm; have := sm_le2 n (fun i hi => h i (by omega)); have := h n (by omega); rw [Nat.succ_mul]; omega
theorem tcl_le {n right row : Nat} (hn : n < 6) : tcl n right row ≤ 25 := by
  have h := sm_le2 (f := fun s => cnt (fun a => decide (spot n right (w8 row s) < spot n right (w8 row a))) s) (c := 5) n (fun i hi => by have := cnt_le (fun a => decide (spot n right (w8 row i) < spot n right (w8 row a))) i; omega)
  have h2 : n * 5 ≤ 25 := by omega
  exact Nat.le_trans h h2
def hof (n hs : Nat) (R : Nat → Nat) (row k : Nat) : Nat := sm (fun h => if hs.testBit h = true then tcl n (R h) row else 0) k
theorem hof_step {n hs : Nat} {R : Nat → Nat} {row k : Nat} : hof n hs R row (k + 1) = hof n hs R row k + (if hs.testBit k = true then tcl n (R k) row else 0) := rfl
theorem hof_le {n hs : Nat} {R : Nat → Nat} {row : Nat} (hn : n < 6) (k : Nat) : hof n hs R row k ≤ k * 25 := sm_le2 k (fun i _ => by
  show (if hs.testBit i = true then tcl n (R i) row else 0) ≤ 25
  split
  · exact tcl_le hn
  · omega)
theorem bit_hi {hs q : Nat} (hh : hs < 32) (hq : 5 ≤ q) : hs.testBit q = false := by
  apply Nat.testBit_lt_two_pow
  have : 2 ^ 5 ≤ 2 ^ q := Nat.pow_le_pow_right (by decide) hq
  omega
theorem hof_8 {n hs : Nat} {R : Nat → Nat} {row : Nat} (hh : hs < 32) : hof n hs R row 8 = hof n hs R row 5 := by
  rw [hof_step, hof_step, hof_step, bit_hi hh (by omega), bit_hi hh (by omega), bit_hi hh (by omega)]
  rfl
theorem s_hallOffence {n hs row : Nat} {R : Nat → Nat} {M : Mem} {P : Int → Mem → Prop} (hh : hs < 32) (hR : ∀ j, hs.testBit j = true → M 42 j = (R j : Int) ∧ pm n (R j)) (hrow : pm n row) (h : P (hof n hs R row 5 : Int) M) : CI m9_hallOffence 4 [(18, ((39 : Nat) : Int)), (0, (hs : Int)), (0, (row : Int)), (0, (n : Int))] M P := by
  have a42 : ((aln 42 : Nat) : Int) = 8 := by decide
  have hn := hrow.2.2
  rw [← hof_8 hh] at h
  apply q_9_hallOffence
  refine loop_up (Inv := fun _ M1 => M1 = M) (G := fun i M1 => A m9_hallOffence 4 0 6 [(18, ((39 : Nat) : Int)), (0, (hs : Int)), (0, (row : Int)), (0, (n : Int)), (0, (hof n hs R row i : Int)), (0, (i : Int))] [] M1 (Ki P)) 8 ?_ ?_ 0 M (Nat.zero_le _) rfl
  · rintro M1 rfl
    apply r_9_hallOffence_6
    exact ⟨fun _ => h, fun q => by omega⟩
  · rintro i M1 hi rfl ih
    have nx := ih M1 rfl
    have hle := hof_le (n := n) (hs := hs) (R := R) (row := row) hn i
    have hle2 := tcl_le (n := n) (right := R i) (row := row) hn
    rw [hof_step] at nx
    apply r_9_hallOffence_6
    rw [w_1 (by omega)]
    refine ⟨fun q => by omega, fun _ => ⟨fun q => ?_, fun q => ?_⟩⟩
    · rw [bit_q1 (by omega) (by omega) q, if_neg (by decide), Nat.add_zero] at nx
      exact nx
    · have hb := (bit_1 (by omega) (by omega)).mp q
      obtain ⟨r1, r2⟩ := hR i hb
      rw [if_pos hb] at nx
      apply s_at (by omega) (by omega)
      rw [Int.toNat_natCast, r1]
      apply s_turned r2 hrow
      have e : w32 ((hof n hs R row i : Int) + (tcl n (R i) row : Int)) = ((hof n hs R row i + tcl n (R i) row : Nat) : Int) := by unfold w32; omega
      rw [e]
      exact nx
def lstp (g : Nat → Nat) (o : Option (Nat × Nat)) (row : Nat) : Option (Nat × Nat) := match o with
  | none => some (row, g row)
  | some (b, l) => if g row < l then some (row, g row) else some (b, l)
def lst (g : Nat → Nat) (l : List Nat) : Option (Nat × Nat) := l.foldl (lstp g) none
theorem lst_snoc {g : Nat → Nat} {l : List Nat} {x : Nat} : lst g (l ++ [x]) = lstp g (lst g l) x := by
  unfold lst; rw [List.foldl_append]; rfl
theorem take_snoc {l : List Nat} {k : Nat} (h : k < l.length) : l.take (k + 1) = l.take k ++ [l.getD k 0] := by
  rw [List.take_succ, List.getD_eq_getElem?_getD, List.getElem?_eq_getElem h]
  rfl
theorem PL_get {n k : Nat} (hn : n < 6) (hk : k < fac n) : pm n ((PL n).getD k 0) := by
  have hl : k < (PL n).length := by rw [PL_len hn]; exact hk
  have : (PL n).getD k 0 ∈ PL n := by
    rw [List.getD_eq_getElem?_getD, List.getElem?_eq_getElem hl]
    exact List.getElem_mem hl
  obtain ⟨p1, p2⟩ := PL_ok hn this
  exact ⟨p1, p2, hn⟩
theorem s_leastOffence {n hs : Nat} {R : Nat → Nat} {M : Mem} {P : Int → Mem → Prop} (hn : n < 6) (hh : hs < 32) (hR : ∀ j, hs.testBit j = true → M 42 j = (R j : Int) ∧ pm n (R j))
    (h : ∀ b l, lst (fun r => hof n hs R r 5) (PL n) = some (b, l) → pm n b → P (b : Int) M) : CI m9_leastOffence 5 [(18, ((39 : Nat) : Int)), (0, (hs : Int)), (0, (n : Int))] M P := by
  have hfac := fac_le n hn
  have hlen := PL_len hn
  apply q_9_leastOffence
  apply s_countAll hn rfl
  apply s_numbered (x := 0) hn (by omega)
  apply s_hallOffence hh hR (PL_get hn (by omega))
  have key : ∀ k i b l : Nat, i + k = fac n → 1 ≤ i → lst (fun r => hof n hs R r 5) ((PL n).take i) = some (b, l) → pm n b → l ≤ 125 → A m9_leastOffence 5 0 25 [(18, ((39 : Nat) : Int)), (0, (hs : Int)), (0, (n : Int)), (0, (fac n : Int)), (0, (b : Int)), (0, (l : Int)), (0, (i : Int)), (2, 0), (2, 0)] [] M (Ki P) := by
    intro k
    induction k with
    | zero =>
      intro i b l hi h1 he hb hl
      apply r_9_leastOffence_25
      refine ⟨fun _ => h b l ?_ hb, fun q => by omega⟩
      rw [← he, List.take_of_length_le (by omega)]
    | succ k ih =>
      intro i b l hi h1 he hb hl
      have hp := PL_get (k := i) hn (by omega)
      have hsn := take_snoc (l := PL n) (k := i) (by omega)
      have hle := hof_le (n := n) (hs := hs) (R := R) (row := (PL n).getD i 0) hn 5
      have hl2 : lst (fun r => hof n hs R r 5) ((PL n).take (i + 1)) = lstp (fun r => hof n hs R r 5) (some (b, l)) ((PL n).getD i 0) := by rw [hsn, lst_snoc, he]
      unfold lstp at hl2
      dsimp only at hl2
      apply r_9_leastOffence_25
      refine ⟨fun q => by omega, fun _ => ?_⟩
      apply s_numbered hn (by omega)
      apply s_hallOffence hh hR hp
      rw [w_1 (by omega)]
      refine ⟨fun q => ?_, fun q => ?_⟩
      · rw [if_neg (by omega)] at hl2
        exact ih (i + 1) b l (by omega) (by omega) hl2 hb hl
      · rw [if_pos (by omega)] at hl2
        exact ih (i + 1) _ _ (by omega) (by omega) hl2 hp (by omega)
  have hsn := take_snoc (l := PL n) (k := 0) (by omega)
  have hle := hof_le (n := n) (hs := hs) (R := R) (row := (PL n).getD 0 0) hn 5
  exact key (fac n - 1) 1 _ _ (by omega) (Nat.le_refl 1) (by rw [hsn]; rfl) (PL_get hn (by omega)) (by omega)
