/-! the class: all orders -/
theorem psum_top {W R x : Nat → Nat} {D : Nat} (hW : ∀ e, e < D → W e = R (e + 1) * W (e + 1)) : ∀ d, d ≤ D → (∀ e, e ≤ d → x e < R e) → psum W x (d + 1) + W d ≤ R 0 * W 0
  | 0, _, hx => by
    have h := hx 0 (by omega)
    show 0 + x 0 * W 0 + W 0 ≤ R 0 * W 0
    rw [Nat.zero_add, ← Nat.succ_mul]
    exact Nat.mul_le_mul_right _ h
  | d + 1, hd, hx => by
    have ih := psum_top hW d (by omega) (fun e he => hx e (by omega))
    have h := hx (d + 1) (by omega)
    have h2 : (x (d + 1) + 1) * W (d + 1) ≤ R (d + 1) * W (d + 1) := Nat.mul_le_mul_right _ h
    rw [← hW d (by omega), Nat.succ_mul] at h2
    show psum W x (d + 1) + x (d + 1) * W (d + 1) + W (d + 1) ≤ R 0 * W 0
    omega
theorem W4_lt {x : Nat → Nat} {d : Nat} (hd : d < 10) (hx : ∀ e, e ≤ d → x e < 4) : psum W4 x (d + 1) + W4 d ≤ 1048576 :=
  psum_top (W := W4) (R := fun _ => 4) (D := 9) (fun e he => W4_s he) d (by omega) hx
theorem W4_dig {x : Nat → Nat} {d : Nat} (hd : d < 10) (hx : ∀ e, e ≤ d → x e < 4) : ∀ e, e ≤ d → psum W4 x (d + 1) / W4 e % 4 = x e :=
  psum_dig (W := W4) (R := fun _ => 4) (D := 9) (fun e he => W4_s he) (fun e _ => Nat.pow_pos (by decide)) d (by omega) hx _ (Nat.le_refl _) (by have : 0 < W4 d := Nat.pow_pos (by decide); omega)
theorem W4_two (e : Nat) : W4 e = 2 ^ (2 * (9 - e)) := by unfold W4; rw [Nat.pow_mul]
theorem W4_sh {x : Nat → Nat} {d e : Nat} (hd : d < 10) (hx : ∀ e, e ≤ d → x e < 4) (he : e ≤ d) : iand (ishr ((psum W4 x (d + 1) : Nat) : Int) ((2 * (9 - e) : Nat) : Int)) 3 = (x e : Int) := by
  have h1 := W4_lt hd hx
  have h2 := W4_dig hd hx e he
  have h3 : psum W4 x (d + 1) >>> (2 * (9 - e)) ≤ psum W4 x (d + 1) := by rw [Nat.shiftRight_eq_div_pow]; exact Nat.div_le_self _ _
  have h4 : iand ((psum W4 x (d + 1) >>> (2 * (9 - e)) : Nat) : Int) ((3 : Nat) : Int) = ((psum W4 x (d + 1) >>> (2 * (9 - e)) &&& 3 : Nat) : Int) := iand_n (by omega)
  rw [ishr_n (by omega) (by omega)]
  refine h4.trans ?_
  rw [show (3 : Nat) = 2 ^ 2 - 1 from rfl, Nat.and_two_pow_sub_one_eq_mod, Nat.shiftRight_eq_div_pow, ← W4_two]
  have : psum W4 x (d + 1) / W4 e % 2 ^ 2 = x e := h2
  rw [this]
theorem iandm {A y k : Nat} (hy : y < 4) (hk : k ≤ 9) (ha : (4 * A + y) * 2 ^ (2 * k) < 2147483648) : iand (((4 * A + y) * 2 ^ (2 * k) : Nat) : Int) (ixor (ishl 3 ((2 * k : Nat) : Int)) (-1)) = ((4 * A * 2 ^ (2 * k) : Nat) : Int) := by
  have h3 : 3 * 2 ^ (2 * k) < 2147483648 := by
    have : 2 ^ (2 * k) ≤ 2 ^ 18 := Nat.pow_le_pow_right (by decide) (by omega)
    omega
  have e1 : ishl 3 ((2 * k : Nat) : Int) = ((3 <<< (2 * k) : Nat) : Int) := ishl_n (a := 3) (by omega) h3
  have e2 : Int32.ofInt (-1) = nI 4294967295 := by decide
  have e3 : Int32.ofInt (ixor ((3 <<< (2 * k) : Nat) : Int) (-1)) = nI (3 <<< (2 * k) ^^^ 4294967295) := by
    unfold ixor
    rw [Int32.ofInt_toInt, nb_nI, e2, nb_xor]
  rw [e1]
  unfold iand
  rw [e3, nb_nI, nb_and, nb_to (Nat.lt_of_le_of_lt Nat.and_le_left ha)]
  congr 1
  rw [← Nat.shiftLeft_eq] at ha ⊢
  rw [← Nat.shiftLeft_eq]
  apply Nat.eq_of_testBit_eq
  intro i
  rw [Nat.testBit_and, Nat.testBit_xor, Nat.testBit_shiftLeft, Nat.testBit_shiftLeft, Nat.testBit_shiftLeft, show (4294967295 : Nat) = 2 ^ 32 - 1 from rfl, Nat.testBit_two_pow_sub_one]
  by_cases hi : i ≥ 2 * k
  · rw [decide_eq_true hi, Bool.true_and, Bool.true_and, Bool.true_and]
    generalize hj : i - 2 * k = j
    rcases (show j = 0 ∨ j = 1 ∨ ∃ j', j = j' + 2 by
      rcases j with _ | _ | j'
      · exact Or.inl rfl
      · exact Or.inr (Or.inl rfl)
      · exact Or.inr (Or.inr ⟨j', rfl⟩)) with rfl | rfl | ⟨j', rfl⟩
    · rw [decide_eq_true (show i < 32 by omega), show Nat.testBit 3 0 = true by decide, Nat.testBit_zero, Nat.testBit_zero, show 4 * A % 2 = 0 by omega]; simp
    · rw [decide_eq_true (show i < 32 by omega), show Nat.testBit 3 1 = true by decide, Nat.testBit_succ, Nat.testBit_succ, Nat.testBit_zero, Nat.testBit_zero, show 4 * A / 2 % 2 = 0 by omega]; simp
    · have t3 : Nat.testBit 3 (j' + 2) = false := by
        rw [Nat.testBit_succ, Nat.testBit_succ]
        exact Nat.zero_testBit j'
      rw [t3, Bool.false_xor, Nat.testBit_succ, Nat.testBit_succ, Nat.testBit_succ, Nat.testBit_succ, show (4 * A + y) / 2 / 2 = A by omega, show 4 * A / 2 / 2 = A by omega]
      by_cases h32 : i < 32
      · rw [decide_eq_true h32, Bool.and_true]
      · have : A.testBit j' = false := by
          apply Nat.testBit_lt_two_pow
          rw [Nat.shiftLeft_eq] at ha
          have hA : A * 2 ^ (2 * k + 2) ≤ (4 * A + y) * 2 ^ (2 * k) := by
            rw [Nat.pow_add, ← Nat.mul_assoc, Nat.mul_right_comm]
            exact Nat.mul_le_mul_right _ (by omega)
          apply Nat.lt_of_mul_lt_mul_right (a := 2 ^ (2 * k + 2))
          rw [← Nat.pow_add]
          have : 2 ^ 31 ≤ 2 ^ (j' + (2 * k + 2)) := Nat.pow_le_pow_right (by decide) (by omega)
          omega
        rw [this]; rfl
  · rw [decide_eq_false hi]; simp
/-- the tables of the class -/
def TB (M : Mem) : Prop := (∀ d, d < 10 → M 94 d = (onT d : Int)) ∧ (∀ d, d < 10 → M 95 d = (otT d : Int)) ∧ ∀ a b, a < 5 → b < 5 → a ≠ b → M 96 (5 * a + b) = ((2 * (9 - pix (min a b) (max a b)) : Nat) : Int)
theorem s_betw {x : Nat → Nat} {d a b : Nat} {M : Mem} {P : Int → Mem → Prop} (hT : TB M) (hd : d < 10) (hx : ∀ e, e ≤ d → x e < 4) (ha : a < 5) (hb : b < 5) (hab : a ≠ b → pix (min a b) (max a b) ≤ d) (h : P (bx x a b) M) : CI m6_between 2 [(0, ((psum W4 x (d + 1) : Nat) : Int)), (0, (a : Int)), (0, (b : Int))] M P := by
  have a96 : ((aln 96 : Nat) : Int) = 25 := by decide
  apply q_6_between
  refine ⟨fun q => ?_, fun q => ?_⟩
  · have hne : a ≠ b := by omega
    have e5 : w32 (w32 (5 * (a : Int)) + (b : Int)) = ((5 * a + b : Nat) : Int) := by unfold w32; omega
    rw [e5]
    apply s_att (by omega) (by omega)
    rw [Int.toNat_natCast, hT.2.2 a b ha hb hne, W4_sh hd hx (hab hne)]
    have h4 := hx _ (hab hne)
    unfold bx at h
    rw [if_neg hne] at h
    rcases Nat.lt_or_ge a b with z | z
    · rw [if_pos z] at h
      rw [Nat.min_eq_left (by omega), Nat.max_eq_right (by omega)] at h4 ⊢
      refine ⟨fun q1 => ⟨fun q2 => by omega, fun _ => ?_⟩, fun q1 => ⟨fun q2 => by omega, fun _ => ?_⟩⟩
      · unfold dv at h; rwa [if_neg (by omega)] at h
      · unfold dv at h; rwa [if_pos (by omega)] at h
    · rw [if_neg (by omega)] at h
      rw [Nat.min_eq_right (by omega), Nat.max_eq_left (by omega)] at h4 ⊢
      refine ⟨fun q1 => ⟨fun q2 => ?_, fun _ => by omega⟩, fun q1 => ⟨fun q2 => ?_, fun _ => by omega⟩⟩
      · unfold dv at h; rw [if_neg (by omega)] at h
        rw [w32_id (by omega) (by omega)]; exact h
      · unfold dv at h; rw [if_pos (by omega)] at h
        rw [show w32 (- -1) = - -1 by decide]; exact h
  · have e : a = b := by omega
    unfold bx at h
    rwa [if_pos e] at h
theorem dv_bd {u : Nat} (h : u < 3) : -1 ≤ dv u ∧ dv u ≤ 1 := by unfold dv; split <;> omega
theorem s_okSoFar {x : Nat → Nat} {d : Nat} {M : Mem} {P : Int → Mem → Prop} (hT : TB M) (hd : d < 10) (hx : ∀ e, e ≤ d → x e < 3) (h : P (bi (okb x d = true)) M) : CI m6_goesOnSoFar 3 [(0, ((psum W4 x (d + 1) : Nat) : Int)), (0, (d : Int))] M P := by
  obtain ⟨h1, h2, h3, h4⟩ := pix_le d hd
  have hx4 : ∀ e, e ≤ d → x e < 4 := fun e he => by have := hx e he; omega
  have a9 : ((aln 94 : Nat) : Int) = 10 ∧ ((aln 95 : Nat) : Int) = 10 := by decide
  have hm : ∀ {u v : Nat}, u < v → min u v = u ∧ max u v = v := fun z => ⟨Nat.min_eq_left (by omega), Nat.max_eq_right (by omega)⟩
  apply q_6_goesOnSoFar
  apply s_att (by omega) (by omega)
  apply s_att (by omega) (by omega)
  rw [Int.toNat_natCast, hT.1 d hd, hT.2.1 d hd]
  apply s_betw hT hd hx4 (by omega) h2 (fun _ => by rw [(hm h1).1, (hm h1).2, h3]; exact Nat.le_refl d)
  refine loop_up (Inv := fun k M1 => M1 = M ∧ ∀ p, p < k → canB (bx x (onT d) (otT d)) (bx x p (otT d)) (bx x p (onT d)) = true)
    (G := fun k M1 => A m6_goesOnSoFar 3 0 27 [(0, ((psum W4 x (d + 1) : Nat) : Int)), (2, 0), (0, (onT d : Int)), (0, (otT d : Int)), (0, bx x (onT d) (otT d)), (0, (k : Int))] [] M1 (Ki P)) (onT d) ?_ ?_ 0 M (Nat.zero_le _) ⟨rfl, fun p hp => by omega⟩
  · rintro M1 ⟨rfl, hk⟩
    apply r_6_goesOnSoFar_27
    refine ⟨fun _ => ?_, fun q => by omega⟩
    rwa [bi_t (by unfold okb; rw [List.all_eq_true]; exact fun p hp => hk p (List.mem_range.mp hp))] at h
  · rintro k M1 hk ⟨rfl, hall⟩ ih
    obtain ⟨z1, z2⟩ := h4 k hk
    have b1 := dv_bd (hx _ (show pix k (onT d) ≤ d by omega))
    have b2 := dv_bd (hx _ (show pix k (otT d) ≤ d by omega))
    have b3 := dv_bd (hx (pix (onT d) (otT d)) (by omega))
    rw [← bx_lt hk] at b1
    rw [← bx_lt (show k < otT d by omega)] at b2
    rw [← bx_lt h1] at b3
    apply r_6_goesOnSoFar_27
    refine ⟨fun q => by omega, fun _ => ?_⟩
    apply s_betw hT hd hx4 (by omega) (by omega) (fun _ => by rw [(hm hk).1, (hm hk).2]; omega)
    apply s_betw hT hd hx4 (by omega) (by omega) (fun _ => by rw [(hm (show k < otT d by omega)).1, (hm (show k < otT d by omega)).2]; omega)
    apply s_goesOn b3 b2 b1
    refine ⟨fun q => ?_, fun q => ?_⟩
    · rw [w_1 (i := k) (by omega)]
      refine ih M1 ⟨rfl, fun p hp => ?_⟩
      by_cases e : p = k
      · subst e; exact bi_ne q
      · exact hall p (by omega)
    · rw [bi_f (fun z => bi_eq q (by
        unfold okb at z
        rw [List.all_eq_true] at z
        exact z k (List.mem_range.mpr hk)))] at h
      exact h
def upd (x : Nat → Nat) (d v : Nat) : Nat → Nat := fun e => if e = d then v else x e
theorem upd_s {x : Nat → Nat} {d v : Nat} : upd x d v d = v := if_pos rfl
theorem upd_o {x : Nat → Nat} {d v e : Nat} (h : e ≠ d) : upd x d v e = x e := if_neg h
theorem psum_upd {W x : Nat → Nat} {d v : Nat} : psum W (upd x d v) (d + 1) = psum W x d + v * W d := by
  show psum W (upd x d v) d + upd x d v d * W d = _
  rw [psum_congr d (fun e he => upd_o (by omega)), upd_s]
def cw (d : Nat) : Nat := 2 * 3 ^ (9 - d) - 1
theorem cw_s : ∀ e, e < 9 → cw e = 3 * cw (e + 1) + 2 := by decide
theorem psum_mono {W x y : Nat → Nat} : ∀ d, (∀ e, e < d → x e ≤ y e) → psum W x d ≤ psum W y d
  | 0, _ => Nat.le_refl _
  | d + 1, h => by
    have := psum_mono (W := W) d (fun e he => h e (by omega))
    have h2 := Nat.mul_le_mul_right (W d) (h d (by omega))
    show psum W x d + x d * W d ≤ psum W y d + y d * W d
    omega
theorem cw_most : ∀ d, d < 10 → psum cw (fun _ => 3) (d + 1) ≤ 200000 := by decide
/-- the orders of n people are all there -/
def OM (M : Mem) (n : Nat) : Prop := M 49 0 = (cnt (trb n) (tot n) : Int) ∧ ∀ c, c < tot n → trb n c = true → M 50 (cnt (trb n) c) = (c4 n c : Int)
def omset (k j : Nat) : Prop := (k = 49 ∧ (j = 0 ∨ j = 2)) ∨ k = 50
