/-! a byte of an int -/
theorem byte_bv (X : BitVec 32) : ∀ k, k ≤ 24 → (X >>> k) &&& 255#32 = (X.sshiftRight k) &&& 255#32 := by
  intro k hk
  apply BitVec.eq_of_getLsbD_eq
  intro i hi
  rw [BitVec.getLsbD_and, BitVec.getLsbD_and]
  by_cases h8 : i < 8
  · rw [BitVec.getLsbD_ushiftRight, BitVec.getLsbD_sshiftRight]
    simp [show ¬ (32 ≤ i) by omega, show k + i < 32 by omega]
  · have : (255#32).getLsbD i = false := by
      have hb : ∀ i, i < 32 → ¬ i < 8 → (255#32).getLsbD i = false := by decide
      exact hb i hi h8
    rw [this, Bool.and_false, Bool.and_false]
theorem byte_eq (x : Int) (k : Nat) (hk : k = 0 ∨ k = 8 ∨ k = 16 ∨ k = 24) : iand (iushr x (k : Int)) 255 = iand (ishr x (k : Int)) 255 := by
  have e : ∀ z : Int32, Int32.ofInt z.toInt = z := fun z => Int32.ofInt_toInt z
  unfold iand iushr ishr
  rw [e, e]
  congr 1
  apply Int32.toBitVec_inj.1
  have hb := byte_bv (Int32.ofInt x).toBitVec k (by omega)
  rcases hk with rfl | rfl | rfl | rfl <;> exact hb
