/-! plain facts: bits of small numbers, reads and writes of rows -/
theorem nb_nI (n : Nat) : Int32.ofInt (n : Int) = nI n := Int32.ofInt_eq_ofNat
theorem nb_to {n : Nat} (h : n < 2147483648) : (nI n).toInt = (n : Int) := nI_toInt h
theorem nb_sh : ∀ b, b < 32 → (((nI b) &&& 31 : Int32).toBitVec.smod 32).toNat = b := by decide +kernel
theorem nb_and (a b : Nat) : nI a &&& nI b = nI (a &&& b) := by
  apply Int32.toBitVec_inj.1
  show BitVec.ofNat 32 a &&& BitVec.ofNat 32 b = BitVec.ofNat 32 (a &&& b)
  apply BitVec.eq_of_getLsbD_eq
  intro i hi
  simp [hi]
theorem nb_or (a b : Nat) : nI a ||| nI b = nI (a ||| b) := by
  apply Int32.toBitVec_inj.1
  show BitVec.ofNat 32 a ||| BitVec.ofNat 32 b = BitVec.ofNat 32 (a ||| b)
  apply BitVec.eq_of_getLsbD_eq
  intro i hi
  simp [hi]
theorem nb_xor (a b : Nat) : nI a ^^^ nI b = nI (a ^^^ b) := by
  apply Int32.toBitVec_inj.1
  show BitVec.ofNat 32 a ^^^ BitVec.ofNat 32 b = BitVec.ofNat 32 (a ^^^ b)
  apply BitVec.eq_of_getLsbD_eq
  intro i hi
  simp [hi]
theorem ishr_n {a b : Nat} (ha : a < 2147483648) (hb : b < 32) : ishr (a : Int) (b : Int) = ((a >>> b : Nat) : Int) := by
  unfold ishr
  rw [nb_nI, nb_nI, pk_shrN ha _ b (nb_sh b hb), nb_to (Nat.lt_of_le_of_lt (Nat.div_le_self _ _) ha), Nat.shiftRight_eq_div_pow]
theorem iand_n {a b : Nat} (ha : a < 2147483648) : iand (a : Int) (b : Int) = ((a &&& b : Nat) : Int) := by
  unfold iand
  rw [nb_nI, nb_nI, nb_and, nb_to (Nat.lt_of_le_of_lt Nat.and_le_left ha)]
theorem ior_n {a b : Nat} (ha : a < 2147483648) (hb : b < 2147483648) : ior (a : Int) (b : Int) = ((a ||| b : Nat) : Int) := by
  unfold ior
  rw [nb_nI, nb_nI, nb_or, nb_to (Nat.or_lt_two_pow (n := 31) ha hb)]
theorem ixor_n {a b : Nat} (ha : a < 2147483648) (hb : b < 2147483648) : ixor (a : Int) (b : Int) = ((a ^^^ b : Nat) : Int) := by
  unfold ixor
  rw [nb_nI, nb_nI, nb_xor, nb_to (Nat.xor_lt_two_pow (n := 31) ha hb)]
theorem ishl_n {a b : Nat} (hb : b < 32) (h : a * 2 ^ b < 2147483648) : ishl (a : Int) (b : Int) = ((a <<< b : Nat) : Int) := by
  unfold ishl
  rw [nb_nI, nb_nI, pk_shlN _ b (nb_sh b hb) (by omega), nb_to h, Nat.shiftLeft_eq]
/-- a shift to the right by a small number, of any int -/
theorem ishr_k {x : Int} {b : Nat} (hx : in32 x) (hb : b < 32) : ishr x (b : Int) = x / 2 ^ b := by
  unfold ishr
  rw [nb_nI, pk_shr _ _ b (nb_sh b hb), toI_of, w32_of hx, Int.shiftRight_eq_div_pow]
  norm_cast
theorem bv_of (x : Int) : ((Int32.ofInt x).toBitVec.toNat : Int) = x % 4294967296 := by
  show (((BitVec.ofInt 32 x).toNat : Nat) : Int) = _
  rw [BitVec.toNat_ofInt, Int.toNat_of_nonneg (Int.emod_nonneg _ (by decide))]
  rfl
/-- a mask of low bits, of any int -/
theorem iand_k {x : Int} (k : Nat) (hk : k < 32) : iand x ((2 ^ k - 1 : Nat) : Int) = x % 2 ^ k := by
  have h2 : (2 : Nat) ^ k ≤ 2147483648 := by
    have := Nat.pow_le_pow_right (n := 2) (by decide) (show k ≤ 31 by omega)
    simpa using this
  unfold iand
  rw [nb_nI, pk_and _ k (by rw [pk_tn (by omega)]), nb_to (by have := Nat.mod_lt (Int32.ofInt x).toBitVec.toNat (show 0 < 2 ^ k from Nat.two_pow_pos k); omega)]
  have h3 := bv_of x
  have h4 : ((2 : Int) ^ k) ∣ 4294967296 := ⟨2 ^ (32 - k), by
    rw [← Int.pow_add]
    have : k + (32 - k) = 32 := by omega
    rw [this]; rfl⟩
  rw [show (((Int32.ofInt x).toBitVec.toNat % 2 ^ k : Nat) : Int) = ((Int32.ofInt x).toBitVec.toNat : Int) % (2 ^ k) by norm_cast, h3, Int.emod_emod_of_dvd _ h4]

theorem CI_know {y : MT} {d : Nat} {args : List AV} {M : Mem} {P : Int → Mem → Prop} (h : (∀ k j, in64 (M k j)) → (∀ k j, kd k ≠ 32 → in32 (M k j)) → (∀ v ∈ args, vok v) → CI y d args M P) : CI y d args M P := by
  intro l ad dd cs SM sz hfl p e ha hc hk s m ar below hf hap hP
  have hM := hP.2.2.2.2.2.2.2
  exact h hM.1.1 hM.1.2.1 hM.2 l ad dd cs SM sz hfl p e ha hc hk s m ar below hf hap hP
theorem CD_know {y : MT} {d : Nat} {args : List AV} {M : Mem} {P : Mem → Prop} (h : (∀ k j, in64 (M k j)) → (∀ k j, kd k ≠ 32 → in32 (M k j)) → (∀ v ∈ args, vok v) → CD y d args M P) : CD y d args M P := by
  intro l ad dd cs SM sz hfl p e ha hc hk s m ar below hf hap hP
  have hM := hP.2.2.2.2.2.2.2
  exact h hM.1.1 hM.1.2.1 hM.2 l ad dd cs SM sz hfl p e ha hc hk s m ar below hf hap hP
theorem CL_know {y : MT} {d : Nat} {args : List AV} {M : Mem} {P : Int → Mem → Prop} (h : (∀ k j, in64 (M k j)) → (∀ k j, kd k ≠ 32 → in32 (M k j)) → (∀ v ∈ args, vok v) → CL y d args M P) : CL y d args M P := by
  intro l ad dd cs SM sz hfl p e ha hc hk s m ar below hf hap hP
  have hM := hP.2.2.2.2.2.2.2
  exact h hM.1.1 hM.1.2.1 hM.2 l ad dd cs SM sz hfl p e ha hc hk s m ar below hf hap hP
/-! the guarded reads and writes -/
theorem s_at {r : Nat} {x : Int} {M : Mem} {P : Int → Mem → Prop} (h0 : 0 ≤ x) (h1 : x < (aln r : Int)) (h : P (M r x.toNat) M) : CI m10_at 1 [(30, (r : Int)), (0, x)] M P := by
  apply q_10_at
  exact ⟨fun q => by omega, fun _ => ⟨fun q => by omega, fun _ => ⟨⟨h0, h1⟩, h⟩⟩⟩
theorem s_at_o {r : Nat} {x : Int} {M : Mem} {P : Int → Mem → Prop} (h0 : x < 0 ∨ (aln r : Int) ≤ x) (h : P 0 M) : CI m10_at 1 [(30, (r : Int)), (0, x)] M P := by
  apply q_10_at
  exact ⟨fun q => h, fun _ => ⟨fun q => h, fun _ => by omega⟩⟩
theorem s_att {r : Nat} {x : Int} {M : Mem} {P : Int → Mem → Prop} (h0 : 0 ≤ x) (h1 : x < (aln r : Int)) (h : P (M r x.toNat) M) : CI m10_at 1 [(34, (r : Int)), (0, x)] M P := by
  apply q_10_at_t
  exact ⟨fun q => by omega, fun _ => ⟨fun q => by omega, fun _ => ⟨⟨h0, h1⟩, h⟩⟩⟩
theorem s_put {r : Nat} {x v : Int} {M : Mem} {P : Mem → Prop} (h0 : 0 ≤ x) (h1 : x < (aln r : Int)) (h : P (mset M r x.toNat v)) : CD m10_put 1 [(30, (r : Int)), (0, x), (0, v)] M P := by
  apply q_10_put
  exact ⟨fun q => by omega, fun _ => ⟨fun q => by omega, fun _ => ⟨⟨h0, h1⟩, h⟩⟩⟩
theorem s_put_o {r : Nat} {x v : Int} {M : Mem} {P : Mem → Prop} (h0 : x < 0 ∨ (aln r : Int) ≤ x) (h : P M) : CD m10_put 1 [(30, (r : Int)), (0, x), (0, v)] M P := by
  apply q_10_put
  exact ⟨fun q => h, fun _ => ⟨fun q => h, fun _ => by omega⟩⟩
theorem s_lat {r : Nat} {x : Int} {M : Mem} {P : Int → Mem → Prop} (h0 : 0 ≤ x) (h1 : x < (aln r : Int)) (h : P (M r x.toNat) M) : CL m10_longAt 1 [(32, (r : Int)), (0, x)] M P := by
  apply q_10_longAt
  exact ⟨fun q => by omega, fun _ => ⟨fun q => by omega, fun _ => ⟨⟨h0, h1⟩, h⟩⟩⟩
theorem s_lput {r : Nat} {x v : Int} {M : Mem} {P : Mem → Prop} (h0 : 0 ≤ x) (h1 : x < (aln r : Int)) (h : P (mset M r x.toNat v)) : CD m10_putLong 1 [(32, (r : Int)), (0, x), (1, v)] M P := by
  apply q_10_putLong
  exact ⟨fun q => by omega, fun _ => ⟨fun q => by omega, fun _ => ⟨⟨h0, h1⟩, h⟩⟩⟩
/-- a truth as an int -/
def bi (p : Prop) [Decidable p] : Int := if p then 1 else 0
theorem bi_t {p : Prop} [Decidable p] (h : p) : bi p = 1 := if_pos h
theorem bi_f {p : Prop} [Decidable p] (h : ¬ p) : bi p = 0 := if_neg h
/-- the same memory but for the cells of s -/
def Fr (s : Nat → Prop) (M M' : Mem) : Prop := ∀ k, ¬ s k → M' k = M k
theorem Fr.rf {s : Nat → Prop} {M : Mem} : Fr s M M := fun _ _ => rfl
theorem Fr.tr {s : Nat → Prop} {M M1 M2 : Mem} (h1 : Fr s M M1) (h2 : Fr s M1 M2) : Fr s M M2 := fun k hk => (h2 k hk).trans (h1 k hk)
theorem Fr.mono {s t : Nat → Prop} {M M1 : Mem} (h : Fr s M M1) (hs : ∀ k, s k → t k) : Fr t M M1 := fun k hk => h k (fun q => hk (hs k q))
theorem Fr.set {s : Nat → Prop} {M M1 : Mem} {k j : Nat} {v : Int} (h : Fr s M M1) (hk : s k) : Fr s M (mset M1 k j v) := fun k' hk' => by
  rw [← h k' hk']
  funext j'
  exact mset_k (fun e => hk' (e ▸ hk))
