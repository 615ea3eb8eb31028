/-! fault, named -/
def fndN (N : Nat → Int) (x : Int) : Nat → Nat → Int
  | 0, _ => -1
  | k + 1, i => if N i = x then (i : Int) else fndN N x k (i + 1)
theorem fndN_step {N : Nat → Int} {x : Int} {k i : Nat} : fndN N x (k + 1) i = if N i = x then (i : Int) else fndN N x k (i + 1) := rfl
theorem fndN_congr {N N' : Nat → Int} {x : Int} : ∀ (k i : Nat), (∀ j, j < i + k → N j = N' j) → fndN N x k i = fndN N' x k i
  | 0, _, _ => rfl
  | k + 1, i, h => by rw [fndN_step, fndN_step, h i (by omega), fndN_congr k (i + 1) (fun j hj => h j (by omega))]
theorem s_found {r m b : Nat} {x : Int} {M : Mem} {P : Int → Mem → Prop} (hr : b + m ≤ aln r) (hal : aln r ≤ 1000) (h : P (fndN (fun i => M r (b + i)) x m 0) M) : CI m11_found 1 [(30, (r : Int)), (0, (b : Int)), (0, (m : Int)), (0, x)] M P := by
  apply q_11_found
  have key : ∀ k i : Nat, i + k = m → fndN (fun i => M r (b + i)) x k i = fndN (fun i => M r (b + i)) x m 0 → A m11_found 1 0 3 [(30, (r : Int)), (0, (b : Int)), (0, (m : Int)), (0, x), (0, (i : Int))] [] M (Ki P) := by
    intro k
    induction k with
    | zero =>
      intro i hi he
      apply r_11_found_3
      refine ⟨fun _ => ?_, fun q => by omega⟩
      rw [← he] at h; exact h
    | succ k ih =>
      intro i hi he
      have ew : w32 ((b : Int) + (i : Int)) = ((b + i : Nat) : Int) := by unfold w32; omega
      rw [fndN_step] at he
      apply r_11_found_3
      rw [ew, w_1 (i := i) (by omega), Int.toNat_natCast]
      refine ⟨fun q => by omega, fun _ => ⟨by omega, fun q => ?_, fun q => ?_⟩⟩
      · rw [if_neg q] at he; exact ih (i + 1) (by omega) he
      · rw [if_pos q] at he; rw [← he] at h; exact h
  exact key m 0 (by omega) rfl
theorem s_numberOf {r m : Nat} {x : Int} {M : Mem} {P : Int → Mem → Prop} (hr : m ≤ aln r) (hal : aln r ≤ 1000) (h : P (fndN (M r) x m 0) M) : CI m0_numberOf 2 [(30, (r : Int)), (0, (m : Int)), (0, x)] M P := by
  apply q_0_numberOf
  have key : ∀ k i : Nat, i + k = m → fndN (M r) x k i = fndN (M r) x m 0 → A m0_numberOf 2 0 2 [(30, (r : Int)), (0, (m : Int)), (0, x), (0, (i : Int))] [] M (Ki P) := by
    intro k
    induction k with
    | zero =>
      intro i hi he
      apply r_0_numberOf_2
      refine ⟨fun _ => ?_, fun q => by omega⟩
      rw [← he] at h; exact h
    | succ k ih =>
      intro i hi he
      rw [fndN_step] at he
      apply r_0_numberOf_2
      rw [w_1 (i := i) (by omega)]
      refine ⟨fun q => by omega, fun _ => s_at (by omega) (by omega) ?_⟩
      rw [Int.toNat_natCast]
      refine ⟨fun q => ?_, fun q => ?_⟩
      · rw [if_neg q] at he; exact ih (i + 1) (by omega) he
      · rw [if_pos q] at he; rw [← he] at h; exact h
  exact key m 0 (by omega) rfl
def namV (pp n : Nat) (Np Nq : Nat → Int) (w x : Int) : Int := if w = 0 then fndN Np x pp 0 else if w = 1 then fndN Nq x n 0 else -1
theorem s_named {pp n nf : Nat} {s : Int} {F : FTab} {ag C Np Nq : Nat → Int} {Bg E : Nat → Nat} {M : Mem} {P : Int → Mem → Prop} {w x : Int} (hS : SC M pp n s nf F ag C Bg E) (h5 : pp ≤ 5) (hp : ∀ j, j < pp → M 22 j = Np j) (hq : ∀ j, j < n → M 24 j = Nq j)
    (h : P (namV pp n Np Nq w x) M) : CI m10_named 4 [(19, ((0 : Nat) : Int)), (0, w), (0, x)] M P := by
  have hn6 := hS.2.2.1.2.1
  unfold namV at h
  apply q_10_named
  refine ⟨fun q => ⟨fun q1 => ?_, fun q1 => ?_⟩, fun q => ?_⟩
  · rwa [if_neg q, if_neg q1] at h
  · rw [if_neg q, if_pos q1] at h
    apply q_0_partNamed
    rw [hS.2.2.1.2.2.1]
    refine s_numberOf (r := 24) (by have : aln 24 = 5 := by decide
                                    omega) (by decide) ?_
    rw [fndN_congr n 0 (fun j hj => hq j (by omega))]
    exact h
  · rw [if_pos q] at h
    apply q_0_personNamed
    rw [hS.1]
    refine s_numberOf (r := 22) (by have : aln 22 = 5 := by decide
                                    omega) (by decide) ?_
    rw [fndN_congr pp 0 (fun j hj => hp j (by omega))]
    exact h
theorem s_named_r {pp n nf : Nat} {s : Int} {F : FTab} {ag C Np Nq : Nat → Int} {Bg E : Nat → Nat} {M : Mem} {P : Int → Mem → Prop} {w x : Int} (hS : SR M pp n s nf F ag C Bg E) (h5 : pp ≤ 5) (hp : ∀ j, j < pp → M 62 j = Np j) (hq : ∀ j, j < n → M 64 j = Nq j)
    (h : P (namV pp n Np Nq w x) (mset M 59 0 0)) : CI m11_named 2 [(20, ((59 : Nat) : Int)), (0, w), (0, x)] M P := by
  have hS0 := hS.th (v := 0)
  have hn6 := hS0.2.2.1.1
  have hp0 : ∀ j, j < pp → (mset M 59 0 0) 62 j = Np j := fun j hj => by rw [mset_k (by decide)]; exact hp j hj
  have hq0 : ∀ j, j < n → (mset M 59 0 0) 64 j = Nq j := fun j hj => by rw [mset_k (by decide)]; exact hq j hj
  unfold namV at h
  apply q_11_named
  generalize mset M 59 0 0 = M0 at hS0 hp0 hq0 h ⊢
  refine ⟨fun q => ⟨fun q1 => ?_, fun q1 => ?_⟩, fun q => ?_⟩
  · rwa [if_neg q, if_neg q1] at h
  · rw [if_neg q, if_pos q1] at h
    rw [hS0.2.2.1.2.1]
    refine s_found (r := 64) (b := 0) (by have : aln 64 = 10 := by decide
                                          omega) (by decide) ?_
    rw [fndN_congr (N' := Nq) n 0 (fun j hj => by rw [Nat.zero_add]; exact hq0 j (by omega))]
    exact h
  · rw [if_pos q] at h
    rw [hS0.1]
    refine s_found (r := 62) (b := 0) (by have : aln 62 = 10 := by decide
                                          omega) (by decide) ?_
    rw [fndN_congr (N' := Np) pp 0 (fun j hj => by rw [Nat.zero_add]; exact hp0 j (by omega))]
    exact h
def fauV (f p x : Int) : Int := if x = 0 then f else if x = 1 then p else -1
theorem s_fault {f p x : Int} {M : Mem} {P : Int → Mem → Prop} (hf : M 2 3 = f) (hp : M 2 4 = p) (h : P (fauV f p x) M) : CI m10_fault 1 [(19, ((0 : Nat) : Int)), (0, x)] M P := by
  unfold fauV at h
  apply q_10_fault
  rw [hf, hp]
  refine ⟨fun q => ⟨fun q1 => ?_, fun q1 => ?_⟩, fun q => ?_⟩
  · rwa [if_neg q, if_neg q1] at h
  · rwa [if_neg q, if_pos q1] at h
  · rwa [if_pos q] at h
theorem s_fault_r {f p x : Int} {M : Mem} {P : Int → Mem → Prop} (hf : M 59 25 = f) (hp : M 59 26 = p) (h : P (fauV f p x) (mset M 59 0 0)) : CI m11_fault 1 [(20, ((59 : Nat) : Int)), (0, x)] M P := by
  have hf0 : (mset M 59 0 0) 59 25 = f := by rw [mset_j (by decide)]; exact hf
  have hp0 : (mset M 59 0 0) 59 26 = p := by rw [mset_j (by decide)]; exact hp
  unfold fauV at h
  apply q_11_fault
  rw [hf0, hp0]
  refine ⟨fun q => ⟨fun q1 => ?_, fun q1 => ?_⟩, fun q => ?_⟩
  · rwa [if_neg q, if_neg q1] at h
  · rwa [if_neg q, if_pos q1] at h
  · rwa [if_pos q] at h
