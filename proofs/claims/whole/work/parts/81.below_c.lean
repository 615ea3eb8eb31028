/-! one step down, of the class -/
def fsb (q : Nat → Bool) : Nat → Nat → Int
  | 0, _ => -1
  | k + 1, i => if q i = true then (i : Int) else fsb q k (i + 1)
theorem fsb_step {q : Nat → Bool} {k i : Nat} : fsb q (k + 1) i = if q i = true then (i : Int) else fsb q k (i + 1) := rfl
theorem s_firstBelowAt {o pp a : Nat} {far : Int} {L : Nat → Nat → Bool} {M : Mem} {P : Int → Mem → Prop} (ho : isO o) (h5 : pp ≤ 5) (hp : M o 4 = (pp : Int)) (ha : a < 8) (hL : rows M (o + 2) L)
    (h : P (fsb (fun x => L a x && decide (M (o + 4) x = far)) pp 0) M) : CI m5_firstBelowAt 2 [(15, (o : Int)), (0, (a : Int)), (0, far)] M P := by
  obtain ⟨_, ho2, _, ho4⟩ := ho
  have a2 : ((aln (o + 2) : Nat) : Int) = 8 := by rw [ho2]; rfl
  have a4 : ((aln (o + 4) : Nat) : Int) = 8 := by rw [ho4]; rfl
  apply q_5_firstBelowAt
  have key : ∀ k i : Nat, i + k = pp → fsb (fun x => L a x && decide (M (o + 4) x = far)) k i = fsb (fun x => L a x && decide (M (o + 4) x = far)) pp 0 → A m5_firstBelowAt 2 0 2 [(15, (o : Int)), (0, (a : Int)), (0, far), (0, (i : Int))] [] M (Ki P) := by
    intro k
    induction k with
    | zero =>
      intro i hi he
      apply r_5_firstBelowAt_2
      rw [hp]
      refine ⟨fun _ => ?_, fun q => by omega⟩
      rw [← he] at h; exact h
    | succ k ih =>
      intro i hi he
      rw [fsb_step] at he
      apply r_5_firstBelowAt_2
      rw [hp, w_1 (i := i) (by omega)]
      refine ⟨fun q => by omega, fun _ => s_at (by omega) (by omega) ?_⟩
      rw [Int.toNat_natCast, hL a ha]
      have hmk := mk_lt31 (L a)
      refine ⟨fun q => ?_, fun q => s_at (by omega) (by omega) ?_⟩
      · have hb := bit_q1 hmk (by omega) q
        rw [mk_test (by omega)] at hb
        rw [if_neg (by rw [hb]; simp)] at he
        exact ih (i + 1) (by omega) he
      · have hb := (bit_1 hmk (by omega)).mp q
        rw [mk_test (by omega)] at hb
        rw [Int.toNat_natCast]
        refine ⟨fun q2 => ?_, fun q2 => ?_⟩
        · rw [if_neg (by rw [hb, decide_eq_false q2]; simp)] at he
          exact ih (i + 1) (by omega) he
        · rw [if_pos (by rw [hb, decide_eq_true q2]; rfl)] at he
          rw [← he] at h; exact h
  exact key pp 0 (by omega) rfl
