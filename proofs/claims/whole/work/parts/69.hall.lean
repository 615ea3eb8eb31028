/-! halls: rows by their numbers -/
def fac : Nat → Nat
  | 0 => 1
  | k + 1 => fac k * (k + 1)
theorem fac_le : ∀ m, m < 6 → 1 ≤ fac m ∧ fac m ≤ 120 := by decide
theorem s_countAll {m : Nat} {x : Int} {M : Mem} {P : Int → Mem → Prop} (hm : m < 6) (hx : x = (m : Int)) (h : P (fac m : Int) M) : CI m8_countAll 1 [(0, x)] M P := by
  subst hx
  apply q_8_countAll
  have key : ∀ k j : Nat, 1 ≤ j → (j + k = m ∨ (m = 0 ∧ j = 1)) → A m8_countAll 1 0 4 [(0, (m : Int)), (0, (fac j : Int)), (0, ((j + 1 : Nat) : Int))] [] M (Ki P) := by
    intro k
    induction k with
    | zero =>
      intro j h1 hj
      apply r_8_countAll_4
      refine ⟨fun _ => ?_, fun q => by omega⟩
      have e : fac j = fac m := by
        rcases hj with z | ⟨rfl, rfl⟩
        · have : j = m := by omega
          rw [this]
        · rfl
      rw [e]; exact h
    | succ k ih =>
      intro j h1 hj
      rcases hj with z | ⟨rfl, rfl⟩
      · have nx := ih (j + 1) (by omega) (Or.inl (by omega))
        have hb := fac_le (j + 1) (by omega)
        have e : w32 ((fac j : Int) * ((j + 1 : Nat) : Int)) = (fac (j + 1) : Int) := by
          have : (fac j : Int) * ((j + 1 : Nat) : Int) = (fac (j + 1) : Int) := by rw [← Int.natCast_mul]; rfl
          rw [this, w32_id (by omega) (by omega)]
        apply r_8_countAll_4
        refine ⟨fun q => by omega, fun _ => ?_⟩
        rw [e, w_1 (by omega)]
        exact nx
      · apply r_8_countAll_4
        exact ⟨fun _ => h, fun q => by omega⟩
  exact key (m - 1) 1 (Nat.le_refl 1) (by omega)
def fpt (met ahead : Nat) : Nat → Nat → Nat → Nat
  | 0, _, _ => 0
  | k + 1, part, passed => if met.testBit part = true then fpt met ahead k (part + 1) passed else if passed = ahead then part else fpt met ahead k (part + 1) (passed + 1)
theorem fpt_lt {met ahead : Nat} : ∀ k part passed, k + part = 5 → fpt met ahead k part passed < 5
  | 0, _, _, _ => by unfold fpt; omega
  | k + 1, part, passed, h => by
    unfold fpt
    split
    · exact fpt_lt k _ _ (by omega)
    · split
      · omega
      · exact fpt_lt k _ _ (by omega)
theorem s_freePart {met ahead : Nat} {M : Mem} {P : Int → Mem → Prop} (hm : met < 2147483648) (h : P (fpt met ahead 5 0 0 : Int) M) : CI m8_freePart 1 [(0, (met : Int)), (0, (ahead : Int))] M P := by
  apply q_8_freePart
  have key : ∀ k part passed : Nat, k + part = 5 → passed ≤ part → fpt met ahead k part passed = fpt met ahead 5 0 0 → A m8_freePart 1 0 4 [(0, (met : Int)), (0, (ahead : Int)), (0, (passed : Int)), (0, (part : Int))] [] M (Ki P) := by
    intro k
    induction k with
    | zero =>
      intro part passed hk hp he
      apply r_8_freePart_4
      refine ⟨fun _ => ?_, fun q => by omega⟩
      rw [← he] at h; exact h
    | succ k ih =>
      intro part passed hk hp he
      apply r_8_freePart_4
      rw [bit_ask hm (by omega), w_1 (by omega), w_1 (by omega)]
      refine ⟨fun q => by omega, fun _ => ⟨fun q1 => ?_, fun q1 => ⟨fun q2 => ?_, fun q2 => ?_⟩⟩⟩
      · have hb : met.testBit part = true := by
          cases hb : met.testBit part with
          | true => rfl
          | false => rw [hb] at q1; exact absurd rfl q1
        refine ih (part + 1) passed (by omega) (by omega) ?_
        rw [← he]; conv => rhs; unfold fpt
        rw [if_pos hb]
      · have hb : ¬ met.testBit part = true := by
          intro hb; rw [hb] at q1; cases q1
        refine ih (part + 1) (passed + 1) (by omega) (by omega) ?_
        rw [← he]; conv => rhs; unfold fpt
        rw [if_neg hb, if_neg (by omega)]
      · have hb : ¬ met.testBit part = true := by
          intro hb; rw [hb] at q1; cases q1
        have e : fpt met ahead (k + 1) part passed = part := by
          unfold fpt
          rw [if_neg hb, if_pos (by omega)]
        rw [← he, e] at h
        exact h
  exact key 5 0 0 rfl (Nat.le_refl 0) rfl
def numA : Nat → Nat → Nat → Nat → Nat → Nat
  | 0, _, row, _, _ => row
  | k + 1, spot, row, met, rest => numA k (spot + 1) (row ||| (fpt met (rest / fac k) 5 0 0 <<< (3 * spot))) (met ||| (1 <<< fpt met (rest / fac k) 5 0 0)) (rest % fac k)
theorem num_tab : (List.range 6).all (fun n => (List.range (fac n)).map (fun x => numA n 0 0 0 x) == PL n) = true := by decide +kernel
theorem num_PL {n : Nat} (hn : n < 6) : (List.range (fac n)).map (fun x => numA n 0 0 0 x) = PL n := by
  have := List.all_eq_true.mp num_tab n (List.mem_range.mpr hn)
  exact eq_of_beq this
theorem PL_len {n : Nat} (hn : n < 6) : (PL n).length = fac n := by
  rw [← num_PL hn]; simp
theorem num_at {n x : Nat} (hn : n < 6) (hx : x < fac n) : numA n 0 0 0 x = (PL n).getD x 0 := by
  rw [← num_PL hn]
  simp [hx]
theorem s_numbered {n x : Nat} {M : Mem} {P : Int → Mem → Prop} (hn : n < 6) (hx : x < fac n) (h : P ((PL n).getD x 0 : Int) M) : CI m8_numbered 2 [(0, (x : Int)), (0, (n : Int))] M P := by
  rw [← num_at hn hx] at h
  have hfx := (fac_le n hn).2
  apply q_8_numbered
  have key : ∀ k spot row met rest : Nat, k + spot = n → row < 8 ^ spot → met < 32 → rest < 121 → numA k spot row met rest = numA n 0 0 0 x → A m8_numbered 2 0 10 [(2, 0), (0, (n : Int)), (0, (row : Int)), (0, (met : Int)), (0, (rest : Int)), (0, (spot : Int)), (2, 0), (2, 0)] [] M (Ki P) := by
    intro k
    induction k with
    | zero =>
      intro spot row met rest hk hrow hmet hrest he
      apply r_8_numbered_10
      refine ⟨fun _ => ?_, fun q => by omega⟩
      rw [← he] at h; exact h
    | succ k ih =>
      intro spot row met rest hk hrow hmet hrest he
      have hfk := fac_le k (by omega)
      have nx := ih (spot + 1) (row ||| (fpt met (rest / fac k) 5 0 0 <<< (3 * spot))) (met ||| (1 <<< fpt met (rest / fac k) 5 0 0)) (rest % fac k) (by omega)
      have hp := fpt_lt (met := met) (ahead := rest / fac k) 5 0 0 rfl
      apply r_8_numbered_10
      refine ⟨fun q => by omega, fun _ => ?_⟩
      refine s_countAll (m := k) (by omega) (by unfold w32; omega) ?_
      refine ⟨fun q => by omega, fun _ => ⟨by omega, ?_⟩⟩
      have e1 : w32 (Int.tdiv (rest : Int) (fac k : Int)) = ((rest / fac k : Nat) : Int) := by
        have hle := Nat.div_le_self rest (fac k)
        rw [Int.tdiv_eq_ediv_of_nonneg (by omega), ← Int.natCast_ediv]
        generalize rest / fac k = z at hle ⊢
        exact w32_id (by omega) (by omega)
      have e2 : w32 (Int.tmod (rest : Int) (fac k : Int)) = ((rest % fac k : Nat) : Int) := by
        have hle := Nat.mod_le rest (fac k)
        rw [Int.tmod_eq_emod_of_nonneg (by omega), ← Int.natCast_emod]
        generalize rest % fac k = z at hle ⊢
        exact w32_id (by omega) (by omega)
      rw [e1, e2]
      apply s_freePart (by omega)
      generalize hpt : fpt met (rest / fac k) 5 0 0 = part at nx hp ⊢
      refine ⟨fun q => by omega, fun _ => ⟨by omega, ?_⟩⟩
      have h9 := p8_lt hn
      have h10 := p8_mono (show spot ≤ n by omega)
      have h11 := p8_mono (show spot + 1 ≤ n by omega)
      have hs := sh_lt (p := part) (j := spot) (n := spot + 1) (by omega) (by omega)
      have h12 := p8_mono (show spot ≤ spot + 1 by omega)
      have e3 : w32 (3 * (spot : Int)) = ((3 * spot : Nat) : Int) := by unfold w32; omega
      have hlt : part * 2 ^ (3 * spot) < 2147483648 := by rw [← Nat.shiftLeft_eq]; omega
      have hb : 1 <<< part < 32 := by
        have : ∀ p, p < 5 → 1 <<< p < 32 := by decide
        exact this part hp
      rw [e3, ishl_n (by omega) hlt, ior_n (by omega) (by omega), ishl1 part (by omega), ior_n (by omega) (by omega), w_1 (by omega)]
      refine nx (or_lt8 (by omega) hs) (Nat.or_lt_two_pow (n := 5) hmet hb) (Nat.lt_of_le_of_lt (Nat.mod_le _ _) hrest) ?_
      rw [← he]
      conv => rhs; unfold numA
      rw [hpt]
  exact key n 0 0 0 x rfl (by decide) (by decide) (by omega) rfl
