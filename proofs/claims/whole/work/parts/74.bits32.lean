/-! all 32 bits of an int -/
theorem w32_b (z : Int) : in32 (w32 z) := by unfold in32 w32; omega
theorem bit_full {u q : Nat} (hu : u < 4294967296) (hq : q < 32) : iand (ishr (w32 (u : Int)) (q : Int)) 1 = ((u.testBit q).toNat : Int) := by
  have h1 : iand (ishr (w32 (u : Int)) (q : Int)) ((2 ^ 1 - 1 : Nat) : Int) = _ := iand_k 1 (by decide)
  have h1 : iand (ishr (w32 (u : Int)) (q : Int)) 1 = ishr (w32 (u : Int)) (q : Int) % 2 ^ 1 := h1
  rw [h1, ishr_k (w32_b _) hq]
  have e32 : (4294967296 : Int) = 2 ^ q * (2 * 2 ^ (31 - q)) := by
    have : (2 : Int) ^ q * (2 * 2 ^ (31 - q)) = 2 ^ (q + ((31 - q) + 1)) := by
      rw [Int.pow_add, Int.pow_succ 2 (31 - q), Int.mul_comm 2]
    rw [this, show q + (31 - q + 1) = 32 by omega]
    rfl
  have hne : (2 : Int) ^ q ≠ 0 := Int.pow_ne_zero (by decide)
  have hz : w32 (u : Int) / 2 ^ q % 2 = (u : Int) / 2 ^ q % 2 := by
    by_cases c : u < 2147483648
    · rw [w32_id (by omega) (by omega)]
    · have e : w32 (u : Int) = (u : Int) + 2 ^ q * (-(2 * 2 ^ (31 - q))) := by
        have : w32 (u : Int) = (u : Int) - 4294967296 := by unfold w32; omega
        rw [this, Int.mul_neg, ← e32]
        omega
      rw [e, Int.add_mul_ediv_left _ _ hne]
      generalize (2 : Int) ^ (31 - q) = k
      generalize (u : Int) / 2 ^ q = z
      omega
  have ht := Nat.toNat_testBit u q
  rw [ht]
  show w32 (u : Int) / 2 ^ q % 2 = _
  rw [hz, Int.natCast_emod, Int.natCast_ediv, Int.natCast_pow]
  rfl
theorem ior_full {u v : Nat} : ior (w32 (u : Int)) (w32 (v : Int)) = w32 ((u ||| v : Nat) : Int) := by
  unfold ior
  rw [ofI_w, ofI_w, nb_nI, nb_nI, nb_or, ← nb_nI, toI_of]
theorem ishl_full : ∀ k : Nat, k < 32 → ishl 1 (k : Int) = w32 ((1 <<< k : Nat) : Int) := by decide +kernel
