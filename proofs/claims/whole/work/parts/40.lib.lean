/-! plain facts: bits of small numbers, reads and writes of rows -/
theorem nb_nI (n : Nat) : Int32.ofInt (n : Int) = nI n := Int32.ofInt_eq_ofNat
theorem nb_to {n : Nat} (h : n < 2147483648) : (nI n).toInt = (n : Int) := nI_toInt h
theorem nb_sh : ∀ b, b < 32 → (((nI b) &&& 31 : Int32).toBitVec.smod 32).toNat = b := by decide +kernel
theorem nb_and (a b : Nat) : nI a &&& nI b = nI (a &&& b) := by
  apply Int32.toBitVec_inj.1
  show BitVec.ofNat 32 a &&& BitVec.ofNat 32 b = BitVec.ofNat 32 (a &&& b)
  apply BitVec.eq_of_getLsbD_eq
  intro i hi
  simp [hi]
theorem nb_or (a b : Nat) : nI a ||| nI b = nI (a ||| b) := by
  apply Int32.toBitVec_inj.1
  show BitVec.ofNat 32 a ||| BitVec.ofNat 32 b = BitVec.ofNat 32 (a ||| b)
  apply BitVec.eq_of_getLsbD_eq
  intro i hi
  simp [hi]
theorem nb_xor (a b : Nat) : nI a ^^^ nI b = nI (a ^^^ b) := by
  apply Int32.toBitVec_inj.1
  show BitVec.ofNat 32 a ^^^ BitVec.ofNat 32 b = BitVec.ofNat 32 (a ^^^ b)
  apply BitVec.eq_of_getLsbD_eq
  intro i hi
  simp [hi]
theorem ishr_n {a b : Nat} (ha : a < 2147483648) (hb : b < 32) : ishr (a : Int) (b : Int) = ((a >>> b : Nat) : Int) := by
  unfold ishr
  rw [nb_nI, nb_nI, pk_shrN ha _ b (nb_sh b hb), nb_to (Nat.lt_of_le_of_lt (Nat.div_le_self _ _) ha), Nat.shiftRight_eq_div_pow]
theorem iand_n {a b : Nat} (ha : a < 2147483648) : iand (a : Int) (b : Int) = ((a &&& b : Nat) : Int) := by
  unfold iand
  rw [nb_nI, nb_nI, nb_and, nb_to (Nat.lt_of_le_of_lt Nat.and_le_left ha)]
theorem ior_n {a b : Nat} (ha : a < 2147483648) (hb : b < 2147483648) : ior (a : Int) (b : Int) = ((a ||| b : Nat) : Int) := by
  unfold ior
  rw [nb_nI, nb_nI, nb_or, nb_to (Nat.or_lt_two_pow (n := 31) ha hb)]
theorem ixor_n {a b : Nat} (ha : a < 2147483648) (hb : b < 2147483648) : ixor (a : Int) (b : Int) = ((a ^^^ b : Nat) : Int) := by
  unfold ixor
  rw [nb_nI, nb_nI, nb_xor, nb_to (Nat.xor_lt_two_pow (n := 31) ha hb)]
theorem ishl_n {a b : Nat} (hb : b < 32) (h : a * 2 ^ b < 2147483648) : ishl (a : Int) (b : Int) = ((a <<< b : Nat) : Int) := by
  unfold ishl
  rw [nb_nI, nb_nI, pk_shlN _ b (nb_sh b hb) (by omega), nb_to h, Nat.shiftLeft_eq]
/-- a shift to the right by a small number, of any int -/
theorem ishr_k {x : Int} {b : Nat} (hx : in32 x) (hb : b < 32) : ishr x (b : Int) = x / 2 ^ b := by
  unfold ishr
  rw [nb_nI, pk_shr _ _ b (nb_sh b hb), toI_of, w32_of hx, Int.shiftRight_eq_div_pow]
  norm_cast
theorem bv_of (x : Int) : ((Int32.ofInt x).toBitVec.toNat : Int) = x % 4294967296 := by
  show (((BitVec.ofInt 32 x).toNat : Nat) : Int) = _
  rw [BitVec.toNat_ofInt]
  norm_cast
  omega
/-- a mask of low bits, of any int -/
theorem iand_k {x : Int} (k : Nat) (hk : k < 32) : iand x ((2 ^ k - 1 : Nat) : Int) = x % 2 ^ k := by
  have h2 : (2 : Nat) ^ k ≤ 2147483648 := by
    have := Nat.pow_le_pow_right (n := 2) (by decide) (show k ≤ 31 by omega)
    simpa using this
  unfold iand
  rw [nb_nI, pk_and _ k (by rw [pk_tn (by omega)]), nb_to (by have := Nat.mod_lt (Int32.ofInt x).toBitVec.toNat (show 0 < 2 ^ k from Nat.two_pow_pos k); omega)]
  have h3 := bv_of x
  have h4 : ((2 : Int) ^ k) ∣ 4294967296 := ⟨2 ^ (32 - k), by
    rw [← Int.pow_add]
    have : k + (32 - k) = 32 := by omega
    rw [this]; rfl⟩
  rw [show (((Int32.ofInt x).toBitVec.toNat % 2 ^ k : Nat) : Int) = ((Int32.ofInt x).toBitVec.toNat : Int) % (2 ^ k) by norm_cast, h3, Int.emod_emod_of_dvd _ h4]
