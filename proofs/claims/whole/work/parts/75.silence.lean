/-! silence of the class -/
def alk (n right row : Nat) : Nat → Nat
  | 0 => 0
  | m + 1 => if encL (fl n right m) = encL (fl n row m) then alk n right row m ||| (1 <<< m) else alk n right row m
theorem alk_step {n right row m : Nat} : alk n right row (m + 1) = if encL (fl n right m) = encL (fl n row m) then alk n right row m ||| (1 <<< m) else alk n right row m := rfl
theorem tb_one {m q : Nat} : (1 <<< m).testBit q = decide (m = q) := by
  rw [Nat.shiftLeft_eq, Nat.one_mul, Nat.testBit_two_pow]
theorem alk_bit {n right row q : Nat} : ∀ m, (alk n right row m).testBit q = (decide (q < m) && decide (encL (fl n right q) = encL (fl n row q)))
  | 0 => by unfold alk; simp
  | m + 1 => by
    have ih := alk_bit (n := n) (right := right) (row := row) (q := q) m
    rw [alk_step]
    by_cases e : m = q
    · subst e
      split
      · rename_i h
        rw [Nat.testBit_or, tb_one, decide_eq_true rfl, decide_eq_true (show m < m + 1 by omega), decide_eq_true h]; simp
      · rename_i h
        rw [ih, decide_eq_false h]; simp
    · have hl : decide (q < m + 1) = decide (q < m) := by
        by_cases z : q < m
        · rw [decide_eq_true z, decide_eq_true (by omega)]
        · rw [decide_eq_false z, decide_eq_false (by omega)]
      split
      · rw [Nat.testBit_or, tb_one, ih, decide_eq_false e, hl]; simp
      · rw [ih, hl]
theorem alk_lt {n right row : Nat} : ∀ m, m ≤ 32 → alk n right row m < 4294967296
  | 0, _ => by unfold alk; decide
  | m + 1, h => by
    have ih := alk_lt (n := n) (right := right) (row := row) m (by omega)
    rw [alk_step]
    split
    · refine Nat.or_lt_two_pow (n := 32) ih ?_
      rw [Nat.shiftLeft_eq, Nat.one_mul]
      exact Nat.pow_lt_pow_right (by decide) (by omega)
    · exact ih
theorem s_alike {n right row : Nat} {M : Mem} {P : Int → Mem → Prop} (h1 : pm n right) (h2 : pm n row) (h : P (w32 (alk n right row (2 ^ n) : Int)) M) : CI m9_alike 3 [(0, (right : Int)), (0, (row : Int)), (0, (n : Int))] M P := by
  have hn := h1.2.2
  obtain ⟨e1, e2⟩ := shl1 n hn
  apply q_9_alike
  have z0 : w32 (alk n right row 0 : Int) = 0 := by unfold alk; decide
  suffices key : A m9_alike 3 0 5 [(0, (right : Int)), (0, (row : Int)), (0, (n : Int)), (0, w32 (alk n right row 0 : Int)), (0, ((0 : Nat) : Int))] [] M (Ki P) by
    rw [z0] at key; exact key
  refine loop_up (Inv := fun _ M1 => M1 = M) (G := fun k M1 => A m9_alike 3 0 5 [(0, (right : Int)), (0, (row : Int)), (0, (n : Int)), (0, w32 (alk n right row k : Int)), (0, (k : Int))] [] M1 (Ki P)) (2 ^ n) ?_ ?_ 0 M (Nat.zero_le _) rfl
  · rintro M1 rfl
    apply r_9_alike_5
    rw [e1]
    exact ⟨fun _ => h, fun q => by omega⟩
  · rintro k M1 hk rfl ih
    have nx := ih M1 rfl
    rw [alk_step] at nx
    apply r_9_alike_5
    rw [e1]
    refine ⟨fun q => by omega, fun _ => ?_⟩
    apply s_left hn (pm_31 h1) (by omega)
    apply s_left hn (pm_31 h2) (by omega)
    rw [w_1 (by omega)]
    refine ⟨fun q => ?_, fun q => ?_⟩
    · rw [if_neg (by omega)] at nx; exact nx
    · rw [if_pos (by omega)] at nx
      rw [ishl_full k (by omega), ior_full]
      exact nx
def anyW (f : Nat → Bool) : Nat → Bool
  | 0 => false
  | k + 1 => anyW f k || f k
theorem anyW_step {f : Nat → Bool} {k : Nat} : anyW f (k + 1) = (anyW f k || f k) := rfl
/-- a way in which somebody is told lower -/
def low (self : Bool) (h t : Int) (w : Nat) : Bool := (decide (wayH w < h) || decide (wayT w < t)) && canw self w
def unf (self : Bool) (h t : Int) (n right : Nat) (R : Nat → Nat) : Nat → Nat
  | 0 => 0
  | k + 1 => if low self h t k = true then unf self h t n right R k ||| alk n right (R k) (2 ^ n) else unf self h t n right R k
theorem unf_step {self : Bool} {h t : Int} {n right : Nat} {R : Nat → Nat} {k : Nat} : unf self h t n right R (k + 1) = if low self h t k = true then unf self h t n right R k ||| alk n right (R k) (2 ^ n) else unf self h t n right R k := rfl
def badW (self : Bool) (h t : Int) (n right : Nat) (R : Nat → Nat) (q w : Nat) : Bool := low self h t w && decide (encL (fl n right q) = encL (fl n (R w) q))
theorem unf_bit {self : Bool} {h t : Int} {n right : Nat} {R : Nat → Nat} {q : Nat} (hq : q < 2 ^ n) : ∀ k, (unf self h t n right R k).testBit q = anyW (badW self h t n right R q) k
  | 0 => by unfold unf anyW; simp
  | k + 1 => by
    have ih := unf_bit (self := self) (h := h) (t := t) (n := n) (right := right) (R := R) hq k
    rw [unf_step, anyW_step, show badW self h t n right R q k = (low self h t k && decide (encL (fl n right q) = encL (fl n (R k) q))) from rfl]
    by_cases c : low self h t k = true
    · rw [if_pos c, Nat.testBit_or, ih, alk_bit, decide_eq_true hq, c]
    · rw [if_neg c, ih]
      have : low self h t k = false := by simpa using c
      rw [this]; simp
theorem unf_lt {self : Bool} {h t : Int} {n right : Nat} {R : Nat → Nat} (hn : n < 6) : ∀ k, unf self h t n right R k < 4294967296
  | 0 => by unfold unf; decide
  | k + 1 => by
    have ih := unf_lt (self := self) (h := h) (t := t) (n := n) (right := right) (R := R) hn k
    rw [unf_step]
    split
    · exact Nat.or_lt_two_pow (n := 32) ih (alk_lt _ (shl1 n hn).2)
    · exact ih
/-- the first mask of the fewest PARTS that will do -/
def bst (civ : Nat → Bool) : Nat → Int
  | 0 => -1
  | k + 1 => if (bst civ k = -1 ∨ pcn k < pcn (bst civ k).toNat) ∧ civ k = true then (k : Int) else bst civ k
theorem bst_step {civ : Nat → Bool} {k : Nat} : bst civ (k + 1) = if (bst civ k = -1 ∨ pcn k < pcn (bst civ k).toNat) ∧ civ k = true then (k : Int) else bst civ k := rfl
theorem bst_bd {civ : Nat → Bool} : ∀ k, -1 ≤ bst civ k ∧ bst civ k < k
  | 0 => by unfold bst; decide
  | k + 1 => by
    have := bst_bd (civ := civ) k
    rw [bst_step]
    split <;> omega
theorem bst_congr {c c' : Nat → Bool} : ∀ k, (∀ q, q < k → c q = c' q) → bst c k = bst c' k
  | 0, _ => rfl
  | k + 1, h => by rw [bst_step, bst_step, bst_congr k (fun q hq => h q (by omega)), h k (by omega)]
def rwW (n : Nat) (s : Int) (ag C : Nat → Int) (Bg E : Nat → Nat) (a b c w : Nat) : Nat := rgt C Bg E n (nmv ag a b c s (wayH w) (wayT w) (wayB w))
def silB (pp n : Nat) (s : Int) (nf : Nat) (F : FTab) (ag C : Nat → Int) (Bg E : Nat → Nat) (a b c : Nat) : Int :=
  bst (fun q => !(anyW (badW (decide (c = b)) (btw (abv F nf pp s) b a) (btw (abv F nf pp s) c a) n (rgt C Bg E n (nmS pp nf s F ag a b c)) (rwW n s ag C Bg E a b c) q) 27)) (2 ^ n)
theorem s_fewestLeft {pp n nf : Nat} {s : Int} {F : FTab} {ag C : Nat → Int} {Bg E : Nat → Nat} {M : Mem} {P : Int → Mem → Prop} {a b c : Nat} (hS : SC M pp n s nf F ag C Bg E) (hf : SF pp s nf F) (hN : ∀ i, i < 8 → M 40 i = nmS pp nf s F ag a b c i)
    (h : ∀ M', Fp csp M M' → P (silB pp n s nf F ag C Bg E a b c) M') : CI m9_fewestLeft 6 [(18, ((39 : Nat) : Int)), (10, ((21 : Nat) : Int))] M P := by
  have hn6 := hS.2.2.1.2.1
  have a40 : ((aln 40 : Nat) : Int) = 8 := by decide
  obtain ⟨e1, e2⟩ := shl1 n hn6
  unfold silB at h
  apply q_9_fewestLeft
  apply s_rightS hS.2.2.1 hN (nmS_ok hf.2.1)
  intro M1 hF1
  have hF1' := rset_cs hF1
  have hS1 := hS.fp hF1' (fun k j hk => Or.inl hk)
  have hN1 : ∀ i, i < 8 → M1 40 i = nmS pp nf s F ag a b c i := fun i hi => by rw [hF1 40 (by unfold rset; omega)]; exact hN i hi
  have hpr : pm n (rgt C Bg E n (nmS pp nf s F ag a b c)) := rgt_pm hn6
  generalize rgt C Bg E n (nmS pp nf s F ag a b c) = right at h hpr ⊢
  have n0 : M1 40 (0 : Int).toNat = btw (abv F nf pp s) b a := hN1 0 (by omega)
  have n1 : M1 40 (1 : Int).toNat = btw (abv F nf pp s) c a := hN1 1 (by omega)
  generalize btw (abv F nf pp s) b a = hh at h n0
  generalize btw (abv F nf pp s) c a = tt at h n1
  apply s_at (by omega) (by omega)
  apply s_at (by omega) (by omega)
  rw [n0, n1, hS1.2.2.1.2.2.1, e1]
  have hB3 : ∀ i, 3 ≤ i → i < 8 → M1 40 i = nmv ag a b c s 0 0 0 i := fun i h1 h2 => by
    rw [hN1 i h2]
    match i, h1, h2 with
    | 3, _, _ => rfl
    | 4, _, _ => rfl
    | 5, _, _ => rfl
    | 6, _, _ => rfl
    | 7, _, _ => rfl
  have z0 : w32 (unf (decide (c = b)) hh tt n right (rwW n s ag C Bg E a b c) 0 : Int) = 0 := by unfold unf; decide
  suffices key : A m9_fewestLeft 6 0 39 [(18, ((39 : Nat) : Int)), (10, ((21 : Nat) : Int)), (0, (right : Int)), (0, hh), (0, tt), (0, ((2 ^ n : Nat) : Int)), (0, w32 (unf (decide (c = b)) hh tt n right (rwW n s ag C Bg E a b c) 0 : Int)), (0, ((0 : Nat) : Int)), (2, 0), (2, 0)] [] M1 (Ki P) by
    rw [z0] at key; exact key
  refine loop_up (Inv := fun _ M2 => Fp csp M M2 ∧ ∀ i, 3 ≤ i → i < 8 → M2 40 i = nmv ag a b c s 0 0 0 i) (G := fun k M2 => A m9_fewestLeft 6 0 39 [(18, ((39 : Nat) : Int)), (10, ((21 : Nat) : Int)), (0, (right : Int)), (0, hh), (0, tt), (0, ((2 ^ n : Nat) : Int)), (0, w32 (unf (decide (c = b)) hh tt n right (rwW n s ag C Bg E a b c) k : Int)), (0, (k : Int)), (2, 0), (2, 0)] [] M2 (Ki P)) 27 ?_ ?_ 0 M1 (Nat.zero_le _) ⟨hF1', hB3⟩
  · rintro M2 ⟨hF, _⟩
    apply r_9_fewestLeft_39
    refine ⟨fun _ => ?_, fun q => by omega⟩
    have hlt := unf_lt (self := decide (c = b)) (h := hh) (t := tt) (n := n) (right := right) (R := rwW n s ag C Bg E a b c) hn6 27
    have hbit := fun q (hq : q < 2 ^ n) => unf_bit (self := decide (c = b)) (h := hh) (t := tt) (n := n) (right := right) (R := rwW n s ag C Bg E a b c) hq 27
    generalize unf (decide (c = b)) hh tt n right (rwW n s ag C Bg E a b c) 27 = u at hlt hbit ⊢
    have hcong := bst_congr (c := fun q => !(u.testBit q)) (c' := fun q => !(anyW (badW (decide (c = b)) hh tt n right (rwW n s ag C Bg E a b c) q) 27)) (2 ^ n) (fun q hq => by rw [hbit q hq])
    rw [← hcong] at h
    refine loop_up (Inv := fun _ M3 => M3 = M2) (G := fun k M3 => A m9_fewestLeft 6 0 121 [(2, 0), (2, 0), (2, 0), (2, 0), (2, 0), (0, ((2 ^ n : Nat) : Int)), (0, w32 (u : Int)), (0, bst (fun q => !(u.testBit q)) k), (0, (k : Int)), (2, 0)] [] M3 (Ki P)) (2 ^ n) ?_ ?_ 0 M2 (Nat.zero_le _) rfl
    · rintro M3 rfl
      apply r_9_fewestLeft_121 (p1 := 21)
      exact ⟨fun _ => h M3 hF, fun q => by omega⟩
    · rintro k M3 hk rfl ih
      have nx := ih M3 rfl
      have hb := bst_bd (civ := fun q => !(u.testBit q)) k
      rw [bst_step] at nx
      generalize bst (fun q => !(u.testBit q)) k = best at nx hb ⊢
      have tb0 : ((u.testBit k).toNat : Int) = 0 → (!(u.testBit k)) = true := by cases u.testBit k <;> simp
      have tb1 : ((u.testBit k).toNat : Int) ≠ 0 → ¬ (!(u.testBit k)) = true := by cases u.testBit k <;> simp
      apply r_9_fewestLeft_121 (p1 := 21)
      rw [bit_full (q := k) hlt (by omega), w_1 (i := k) (by omega)]
      refine ⟨fun q => by omega, fun _ => ⟨fun q => ⟨fun q1 => ?_, fun q1 => ?_⟩, fun q => ?_⟩⟩
      · rw [if_neg (fun z => tb1 q1 z.2)] at nx; exact nx
      · rw [if_pos ⟨Or.inl q, tb0 q1⟩] at nx; exact nx
      · obtain ⟨bn, rfl⟩ : ∃ bn : Nat, best = (bn : Int) := ⟨best.toNat, by omega⟩
        rw [Int.toNat_natCast] at nx
        apply s_bitCount (by omega)
        apply s_bitCount (by omega)
        refine ⟨fun q2 => ?_, fun q2 => ⟨fun q1 => ?_, fun q1 => ?_⟩⟩
        · rw [if_neg (fun z => by rcases z.1 with y | y <;> omega)] at nx; exact nx
        · rw [if_neg (fun z => tb1 q1 z.2)] at nx; exact nx
        · rw [if_pos ⟨Or.inr (by omega), tb0 q1⟩] at nx; exact nx
  · rintro k M2 hk ⟨hF, hN2⟩ ih
    obtain ⟨w1, w2, _⟩ := way_of k hk
    obtain ⟨b1, b2, b3⟩ := way_bd hk
    have hS2 := hS.fp hF (fun k j hk => Or.inl hk)
    rw [unf_step] at ih
    apply r_9_fewestLeft_39
    rw [w1, w2, w_1 (by omega)]
    have go : (wayH k < hh ∨ wayT k < tt) → CI m9_standByWay 3 [(18, ((39 : Nat) : Int)), (0, (k : Int))] M2 (fun r7 M8 => ((r7 = 0 → A m9_fewestLeft 6 0 39 [(18, ((39 : Nat) : Int)), (10, ((21 : Nat) : Int)), (0, (right : Int)), (0, hh), (0, tt), (0, ((2 ^ n : Nat) : Int)), (0, w32 (unf (decide (c = b)) hh tt n right (rwW n s ag C Bg E a b c) k : Int)), (0, ((k + 1 : Nat) : Int)), (2, 0), (2, 0)] [] M8 (Ki P)) ∧ (r7 ≠ 0 → (CI m9_rightRow 5 [(18, ((39 : Nat) : Int)), (10, ((21 : Nat) : Int))] M8 (fun r13 M14 => (CI m9_alike 3 [(0, (right : Int)), (0, r13), (0, (M14 21 4))] M14 (fun r16 M17 => A m9_fewestLeft 6 0 39 [(18, ((39 : Nat) : Int)), (10, ((21 : Nat) : Int)), (0, (right : Int)), (0, hh), (0, tt), (0, ((2 ^ n : Nat) : Int)), (0, (ior (w32 (unf (decide (c = b)) hh tt n right (rwW n s ag C Bg E a b c) k : Int)) r16)), (0, ((k + 1 : Nat) : Int)), (2, 0), (2, 0)] [] M17 (Ki P)))))))) := by
      intro hlow
      have hlb : (decide (wayH k < hh) || decide (wayT k < tt)) = true := by simpa using hlow
      apply s_standByWay (self := decide (c = b)) hk (by rw [hN2 6 (by omega) (by omega), bi_dec]; rfl)
      intro M3 hF3 x0 x1 x2
      have hF4 : Fp csp M M3 := hF.tr (hF3.mono (fun k j q => by unfold wset at q; unfold csp cs; omega))
      have hN3 : ∀ i, 3 ≤ i → i < 8 → M3 40 i = nmv ag a b c s 0 0 0 i := fun i h1 h2 => by rw [hF3 40 i (by unfold wset; omega)]; exact hN2 i h1 h2
      have hS3 := hS.fp hF4 (fun k j hk => Or.inl hk)
      refine ⟨fun q => ?_, fun q => ?_⟩
      · rw [if_neg (by unfold low; rw [hlb, Bool.true_and]; exact bi_eq q)] at ih
        exact ih M3 ⟨hF4, hN3⟩
      · rw [if_pos (by unfold low; rw [hlb, Bool.true_and]; exact bi_ne q)] at ih
        apply s_rightS hS3.2.2.1 (N := nmv ag a b c s (wayH k) (wayT k) (wayB k)) (fun i hi => ?_) (nmv_ok (by have := hf.2.1; omega) b1 b2 b3)
        · intro M4 hF5
          have hF6 := hF4.tr (rset_cs hF5)
          have hS4 := hS.fp hF6 (fun k j hk => Or.inl hk)
          rw [hS4.2.2.1.2.2.1]
          apply s_alike hpr (rgt_pm hn6)
          rw [ior_full]
          exact ih M4 ⟨hF6, fun i h1 h2 => by rw [hF5 40 (by unfold rset; omega)]; exact hN3 i h1 h2⟩
        · match i, hi with
          | 0, _ => exact x0
          | 1, _ => exact x1
          | 2, _ => exact x2
          | 3, _ => exact hN3 3 (by omega) (by omega)
          | 4, _ => exact hN3 4 (by omega) (by omega)
          | 5, _ => exact hN3 5 (by omega) (by omega)
          | 6, _ => exact hN3 6 (by omega) (by omega)
          | 7, _ => exact hN3 7 (by omega) (by omega)
    refine ⟨fun q => by omega, fun _ => ⟨fun q => go (Or.inl q), fun q => ⟨fun q2 => ?_, fun q2 => go (Or.inr q2)⟩⟩⟩
    rw [if_neg (by unfold low; rw [decide_eq_false (by omega), decide_eq_false (by omega)]; simp)] at ih
    exact ih M2 ⟨hF, hN2⟩
