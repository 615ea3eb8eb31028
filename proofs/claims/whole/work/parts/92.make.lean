/-! the class: all orders -/
theorem psum_top {W R x : Nat → Nat} {D : Nat} (hW : ∀ e, e < D → W e = R (e + 1) * W (e + 1)) : ∀ d, d ≤ D → (∀ e, e ≤ d → x e < R e) → psum W x (d + 1) + W d ≤ R 0 * W 0
  | 0, _, hx => by
    have h := hx 0 (by omega)
    show 0 + x 0 * W 0 + W 0 ≤ R 0 * W 0
    rw [Nat.zero_add, ← Nat.succ_mul]
    exact Nat.mul_le_mul_right _ h
  | d + 1, hd, hx => by
    have ih := psum_top hW d (by omega) (fun e he => hx e (by omega))
    have h := hx (d + 1) (by omega)
    have h2 : (x (d + 1) + 1) * W (d + 1) ≤ R (d + 1) * W (d + 1) := Nat.mul_le_mul_right _ h
    rw [← hW d (by omega), Nat.succ_mul] at h2
    show psum W x (d + 1) + x (d + 1) * W (d + 1) + W (d + 1) ≤ R 0 * W 0
    omega
theorem W4_lt {x : Nat → Nat} {d : Nat} (hd : d < 10) (hx : ∀ e, e ≤ d → x e < 4) : psum W4 x (d + 1) + W4 d ≤ 1048576 :=
  psum_top (W := W4) (R := fun _ => 4) (D := 9) (fun e he => W4_s he) d (by omega) hx
theorem W4_dig {x : Nat → Nat} {d : Nat} (hd : d < 10) (hx : ∀ e, e ≤ d → x e < 4) : ∀ e, e ≤ d → psum W4 x (d + 1) / W4 e % 4 = x e :=
  psum_dig (W := W4) (R := fun _ => 4) (D := 9) (fun e he => W4_s he) (fun e _ => Nat.pow_pos (by decide)) d (by omega) hx _ (Nat.le_refl _) (by have : 0 < W4 d := Nat.pow_pos (by decide); omega)
theorem W4_two (e : Nat) : W4 e = 2 ^ (2 * (9 - e)) := by unfold W4; rw [Nat.pow_mul]
theorem W4_sh {x : Nat → Nat} {d e : Nat} (hd : d < 10) (hx : ∀ e, e ≤ d → x e < 4) (he : e ≤ d) : iand (ishr ((psum W4 x (d + 1) : Nat) : Int) ((2 * (9 - e) : Nat) : Int)) 3 = (x e : Int) := by
  have h1 := W4_lt hd hx
  have h2 := W4_dig hd hx e he
  have h3 : psum W4 x (d + 1) >>> (2 * (9 - e)) ≤ psum W4 x (d + 1) := by rw [Nat.shiftRight_eq_div_pow]; exact Nat.div_le_self _ _
  have h4 : iand ((psum W4 x (d + 1) >>> (2 * (9 - e)) : Nat) : Int) ((3 : Nat) : Int) = ((psum W4 x (d + 1) >>> (2 * (9 - e)) &&& 3 : Nat) : Int) := iand_n (by omega)
  rw [ishr_n (by omega) (by omega)]
  refine h4.trans ?_
  rw [show (3 : Nat) = 2 ^ 2 - 1 from rfl, Nat.and_two_pow_sub_one_eq_mod, Nat.shiftRight_eq_div_pow, ← W4_two]
  have : psum W4 x (d + 1) / W4 e % 2 ^ 2 = x e := h2
  rw [this]
theorem iandm {A y k : Nat} (hy : y < 4) (hk : k ≤ 9) (ha : (4 * A + y) * 2 ^ (2 * k) < 2147483648) : iand (((4 * A + y) * 2 ^ (2 * k) : Nat) : Int) (ixor (ishl 3 ((2 * k : Nat) : Int)) (-1)) = ((4 * A * 2 ^ (2 * k) : Nat) : Int) := by
  have h3 : 3 * 2 ^ (2 * k) < 2147483648 := by
    have : 2 ^ (2 * k) ≤ 2 ^ 18 := Nat.pow_le_pow_right (by decide) (by omega)
    omega
  have e1 : ishl 3 ((2 * k : Nat) : Int) = ((3 <<< (2 * k) : Nat) : Int) := ishl_n (a := 3) (by omega) h3
  have e2 : Int32.ofInt (-1) = nI 4294967295 := by decide
  have e3 : Int32.ofInt (ixor ((3 <<< (2 * k) : Nat) : Int) (-1)) = nI (3 <<< (2 * k) ^^^ 4294967295) := by
    unfold ixor
    rw [Int32.ofInt_toInt, nb_nI, e2, nb_xor]
  rw [e1]
  unfold iand
  rw [e3, nb_nI, nb_and, nb_to (Nat.lt_of_le_of_lt Nat.and_le_left ha)]
  congr 1
  rw [← Nat.shiftLeft_eq] at ha ⊢
  rw [← Nat.shiftLeft_eq]
  apply Nat.eq_of_testBit_eq
  intro i
  rw [Nat.testBit_and, Nat.testBit_xor, Nat.testBit_shiftLeft, Nat.testBit_shiftLeft, Nat.testBit_shiftLeft, show (4294967295 : Nat) = 2 ^ 32 - 1 from rfl, Nat.testBit_two_pow_sub_one]
  by_cases hi : i ≥ 2 * k
  · rw [decide_eq_true hi, Bool.true_and, Bool.true_and, Bool.true_and]
    generalize hj : i - 2 * k = j
    rcases (show j = 0 ∨ j = 1 ∨ ∃ j', j = j' + 2 by
      rcases j with _ | _ | j'
      · exact Or.inl rfl
      · exact Or.inr (Or.inl rfl)
      · exact Or.inr (Or.inr ⟨j', rfl⟩)) with rfl | rfl | ⟨j', rfl⟩
    · rw [decide_eq_true (show i < 32 by omega), show Nat.testBit 3 0 = true by decide, Nat.testBit_zero, Nat.testBit_zero, show 4 * A % 2 = 0 by omega]; simp
    · rw [decide_eq_true (show i < 32 by omega), show Nat.testBit 3 1 = true by decide, Nat.testBit_succ, Nat.testBit_succ, Nat.testBit_zero, Nat.testBit_zero, show 4 * A / 2 % 2 = 0 by omega]; simp
    · have t3 : Nat.testBit 3 (j' + 2) = false := by
        rw [Nat.testBit_succ, Nat.testBit_succ]
        exact Nat.zero_testBit j'
      rw [t3, Bool.false_xor, Nat.testBit_succ, Nat.testBit_succ, Nat.testBit_succ, Nat.testBit_succ, show (4 * A + y) / 2 / 2 = A by omega, show 4 * A / 2 / 2 = A by omega]
      by_cases h32 : i < 32
      · rw [decide_eq_true h32, Bool.and_true]
      · have : A.testBit j' = false := by
          apply Nat.testBit_lt_two_pow
          rw [Nat.shiftLeft_eq] at ha
          have hA : A * 2 ^ (2 * k + 2) ≤ (4 * A + y) * 2 ^ (2 * k) := by
            rw [Nat.pow_add, ← Nat.mul_assoc, Nat.mul_right_comm]
            exact Nat.mul_le_mul_right _ (by omega)
          apply Nat.lt_of_mul_lt_mul_right (a := 2 ^ (2 * k + 2))
          rw [← Nat.pow_add]
          have : 2 ^ 31 ≤ 2 ^ (j' + (2 * k + 2)) := Nat.pow_le_pow_right (by decide) (by omega)
          omega
        rw [this]; rfl
  · rw [decide_eq_false hi]; simp
/-- the tables of the class -/
def TB (M : Mem) : Prop := (∀ d, d < 10 → M 94 d = (onT d : Int)) ∧ (∀ d, d < 10 → M 95 d = (otT d : Int)) ∧ ∀ a b, a < 5 → b < 5 → a ≠ b → M 96 (5 * a + b) = ((2 * (9 - pix (min a b) (max a b)) : Nat) : Int)
theorem s_betw {x : Nat → Nat} {d a b : Nat} {M : Mem} {P : Int → Mem → Prop} (hT : TB M) (hd : d < 10) (hx : ∀ e, e ≤ d → x e < 4) (ha : a < 5) (hb : b < 5) (hab : a ≠ b → pix (min a b) (max a b) ≤ d) (h : P (bx x a b) M) : CI m6_between 2 [(0, ((psum W4 x (d + 1) : Nat) : Int)), (0, (a : Int)), (0, (b : Int))] M P := by
  have a96 : ((aln 96 : Nat) : Int) = 25 := by decide
  apply q_6_between
  refine ⟨fun q => ?_, fun q => ?_⟩
  · have hne : a ≠ b := by omega
    have e5 : w32 (w32 (5 * (a : Int)) + (b : Int)) = ((5 * a + b : Nat) : Int) := by unfold w32; omega
    rw [e5]
    apply s_att (by omega) (by omega)
    rw [Int.toNat_natCast, hT.2.2 a b ha hb hne, W4_sh hd hx (hab hne)]
    have h4 := hx _ (hab hne)
    unfold bx at h
    rw [if_neg hne] at h
    rcases Nat.lt_or_ge a b with z | z
    · rw [if_pos z] at h
      rw [Nat.min_eq_left (by omega), Nat.max_eq_right (by omega)] at h4 ⊢
      refine ⟨fun q1 => ⟨fun q2 => by omega, fun _ => ?_⟩, fun q1 => ⟨fun q2 => by omega, fun _ => ?_⟩⟩
      · unfold dv at h; rwa [if_neg (by omega)] at h
      · unfold dv at h; rwa [if_pos (by omega)] at h
    · rw [if_neg (by omega)] at h
      rw [Nat.min_eq_right (by omega), Nat.max_eq_left (by omega)] at h4 ⊢
      refine ⟨fun q1 => ⟨fun q2 => ?_, fun _ => by omega⟩, fun q1 => ⟨fun q2 => ?_, fun _ => by omega⟩⟩
      · unfold dv at h; rw [if_neg (by omega)] at h
        rw [w32_id (by omega) (by omega)]; exact h
      · unfold dv at h; rw [if_pos (by omega)] at h
        rw [show w32 (- -1) = - -1 by decide]; exact h
  · have e : a = b := by omega
    unfold bx at h
    rwa [if_pos e] at h
theorem dv_bd {u : Nat} (h : u < 3) : -1 ≤ dv u ∧ dv u ≤ 1 := by unfold dv; split <;> omega
theorem s_okSoFar {x : Nat → Nat} {d : Nat} {M : Mem} {P : Int → Mem → Prop} (hT : TB M) (hd : d < 10) (hx : ∀ e, e ≤ d → x e < 3) (h : P (bi (okb x d = true)) M) : CI m6_goesOnSoFar 3 [(0, ((psum W4 x (d + 1) : Nat) : Int)), (0, (d : Int))] M P := by
  obtain ⟨h1, h2, h3, h4⟩ := pix_le d hd
  have hx4 : ∀ e, e ≤ d → x e < 4 := fun e he => by have := hx e he; omega
  have a9 : ((aln 94 : Nat) : Int) = 10 ∧ ((aln 95 : Nat) : Int) = 10 := by decide
  have hm : ∀ {u v : Nat}, u < v → min u v = u ∧ max u v = v := fun z => ⟨Nat.min_eq_left (by omega), Nat.max_eq_right (by omega)⟩
  apply q_6_goesOnSoFar
  apply s_att (by omega) (by omega)
  apply s_att (by omega) (by omega)
  rw [Int.toNat_natCast, hT.1 d hd, hT.2.1 d hd]
  apply s_betw hT hd hx4 (by omega) h2 (fun _ => by rw [(hm h1).1, (hm h1).2, h3]; exact Nat.le_refl d)
  refine loop_up (Inv := fun k M1 => M1 = M ∧ ∀ p, p < k → canB (bx x (onT d) (otT d)) (bx x p (otT d)) (bx x p (onT d)) = true)
    (G := fun k M1 => A m6_goesOnSoFar 3 0 27 [(0, ((psum W4 x (d + 1) : Nat) : Int)), (2, 0), (0, (onT d : Int)), (0, (otT d : Int)), (0, bx x (onT d) (otT d)), (0, (k : Int))] [] M1 (Ki P)) (onT d) ?_ ?_ 0 M (Nat.zero_le _) ⟨rfl, fun p hp => by omega⟩
  · rintro M1 ⟨rfl, hk⟩
    apply r_6_goesOnSoFar_27
    refine ⟨fun _ => ?_, fun q => by omega⟩
    rwa [bi_t (by unfold okb; rw [List.all_eq_true]; exact fun p hp => hk p (List.mem_range.mp hp))] at h
  · rintro k M1 hk ⟨rfl, hall⟩ ih
    obtain ⟨z1, z2⟩ := h4 k hk
    have b1 := dv_bd (hx _ (show pix k (onT d) ≤ d by omega))
    have b2 := dv_bd (hx _ (show pix k (otT d) ≤ d by omega))
    have b3 := dv_bd (hx (pix (onT d) (otT d)) (by omega))
    rw [← bx_lt hk] at b1
    rw [← bx_lt (show k < otT d by omega)] at b2
    rw [← bx_lt h1] at b3
    apply r_6_goesOnSoFar_27
    refine ⟨fun q => by omega, fun _ => ?_⟩
    apply s_betw hT hd hx4 (by omega) (by omega) (fun _ => by rw [(hm hk).1, (hm hk).2]; omega)
    apply s_betw hT hd hx4 (by omega) (by omega) (fun _ => by rw [(hm (show k < otT d by omega)).1, (hm (show k < otT d by omega)).2]; omega)
    apply s_goesOn b3 b2 b1
    refine ⟨fun q => ?_, fun q => ?_⟩
    · rw [w_1 (i := k) (by omega)]
      refine ih M1 ⟨rfl, fun p hp => ?_⟩
      by_cases e : p = k
      · subst e; exact bi_ne q
      · exact hall p (by omega)
    · rw [bi_f (fun z => bi_eq q (by
        unfold okb at z
        rw [List.all_eq_true] at z
        exact z k (List.mem_range.mpr hk)))] at h
      exact h
def udg (x : Nat → Nat) (d v : Nat) : Nat → Nat := fun e => if e = d then v else x e
theorem udg_s {x : Nat → Nat} {d v : Nat} : udg x d v d = v := if_pos rfl
theorem udg_o {x : Nat → Nat} {d v e : Nat} (h : e ≠ d) : udg x d v e = x e := if_neg h
theorem psum_udg {W x : Nat → Nat} {d v : Nat} : psum W (udg x d v) (d + 1) = psum W x d + v * W d := by
  show psum W (udg x d v) d + udg x d v d * W d = _
  rw [psum_congr d (fun e he => udg_o (by omega)), udg_s]
def cw (d : Nat) : Nat := 2 * 3 ^ (9 - d) - 1
theorem cw_s : ∀ e, e < 9 → cw e = 3 * cw (e + 1) + 2 := by decide
theorem psum_mono {W x y : Nat → Nat} : ∀ d, (∀ e, e < d → x e ≤ y e) → psum W x d ≤ psum W y d
  | 0, _ => Nat.le_refl _
  | d + 1, h => by
    have := psum_mono (W := W) d (fun e he => h e (by omega))
    have h2 := Nat.mul_le_mul_right (W d) (h d (by omega))
    show psum W x d + x d * W d ≤ psum W y d + y d * W d
    omega
theorem cw_most : ∀ d, d < 10 → psum cw (fun _ => 3) (d + 1) ≤ 200000 := by decide
/-- the orders of n people are all there -/
def OM (M : Mem) (n : Nat) : Prop := M 49 0 = (cnt (trb n) (tot n) : Int) ∧ ∀ c, c < tot n → trb n c = true → M 50 (cnt (trb n) c) = (c4 n c : Int)
def omset (k j : Nat) : Prop := (k = 49 ∧ (j = 0 ∨ j = 2)) ∨ k = 50
/-- how far the making is: the digits up to pair d -/
def MkI (n : Nat) (x : Nat → Nat) (d i : Nat) (code : Int) (M : Mem) : Prop := d < 10 ∧ code = ((psum W4 x (d + 1) : Nat) : Int) ∧ (∀ e, e < d → x e < rd n e ∧ okb x e = true) ∧ x d ≤ rd n d ∧ M 49 0 = (cnt (trb n) (psum (pw n) x (d + 1)) : Int) ∧ (∀ c, c < psum (pw n) x (d + 1) → trb n c = true → M 50 (cnt (trb n) c) = (c4 n c : Int)) ∧ i ≤ psum cw x (d + 1) + d
theorem s_make {n : Nat} {M : Mem} {P : Mem → Prop} (hn : n ≤ 5) (hT : TB M) (hO : M 49 2 = (n : Int) → OM M n) (h : ∀ M', Fp omset M M' → M' 49 2 = (n : Int) → OM M' n → P M') : CD m6_make 4 [(16, ((49 : Nat) : Int)), (0, (n : Int))] M P := by
  have a50 : ((aln 50 : Nat) : Int) = 4231 := by decide
  have a95 : ((aln 95 : Nat) : Int) = 10 := by decide
  apply q_6_make
  refine ⟨fun q => ?_, fun q => h M Fp.rf q.symm (hO q.symm)⟩
  have fin : ∀ M1, Fp omset M M1 → OM M1 n → P (mset M1 49 2 (n : Int)) := fun M1 hF ho => by
    exact h _ (hF.set (Or.inl ⟨rfl, Or.inr rfl⟩)) mset_s ⟨by rw [mset_j (by decide)]; exact ho.1, fun c hc ht => by rw [mset_k (by decide)]; exact ho.2 c hc ht⟩
  refine loop_upS (σ := Int × Int × (Nat → Nat)) (Inv := fun i s M1 => Fp omset M M1 ∧ ((s.2.1 = -1 ∧ OM M1 n) ∨ ∃ d : Nat, s.2.1 = (d : Int) ∧ MkI n s.2.2 d i s.1 M1))
    (G := fun i s M1 => A m6_make 4 0 21 [(16, ((49 : Nat) : Int)), (0, (n : Int)), (0, s.1), (0, s.2.1), (0, (i : Int)), (2, 0), (2, 0)] [] M1 (Kd P)) 1000000 ?_ ?_ 0 (0, 0, fun _ => 0) _ (by omega) ⟨Fp.rf.set (Or.inl ⟨rfl, Or.inl rfl⟩), Or.inr ⟨0, rfl, by omega, rfl, fun e he => by omega, Nat.zero_le _, ?_, fun c hc => by exact absurd hc (by show ¬ c < 0 + 0 * _; omega), Nat.zero_le _⟩⟩
  · rintro ⟨code, p, x⟩ M1 ⟨hF, hI⟩
    dsimp only at hI
    apply r_6_make_21
    refine ⟨fun _ => ?_, fun q => by omega⟩
    rcases hI with ⟨_, ho⟩ | ⟨d, _, h10, _, hx, hxd, _, _, hi⟩
    · exact fin M1 hF ho
    · exfalso
      have h1 : psum cw x (d + 1) ≤ psum cw (fun _ => 3) (d + 1) := psum_mono (d + 1) (fun e he => by
        have := rd_le n e
        by_cases z : e = d
        · subst z; show x e ≤ 3; omega
        · have := (hx e (by omega)).1; show x e ≤ 3; omega)
      have h2 := cw_most d h10
      have hi' : 1000000 ≤ psum cw x (d + 1) + d := hi
      omega
  · rintro i ⟨code, p, x⟩ M1 hi ⟨hF, hI⟩ ih
    dsimp only at hI
    have hT1 : TB M1 := by
      unfold TB
      rw [hF.row (k := 94) (fun j => by unfold omset; omega), hF.row (k := 95) (fun j => by unfold omset; omega), hF.row (k := 96) (fun j => by unfold omset; omega)]
      exact hT
    show A m6_make 4 0 21 [(16, ((49 : Nat) : Int)), (0, (n : Int)), (0, code), (0, p), (0, (i : Int)), (2, 0), (2, 0)] [] M1 (Kd P)
    rcases hI with ⟨hp, ho⟩ | ⟨d, hp, h10, hc, hx, hxd, hsz, harr, hpot⟩
    · subst hp
      apply r_6_make_21
      exact ⟨fun q => by omega, fun _ => ⟨fun _ => fin M1 hF ho, fun q => by omega⟩⟩
    · subst hp hc
      have hrd := rd_le n d
      have hx4 : ∀ e, e ≤ d → x e < 4 := fun e he => by
        have := rd_le n e
        by_cases z : e = d
        · subst z; omega
        · have := (hx e (by omega)).1; omega
      have hlt := W4_lt h10 hx4
      have hw4 : ishl 1 ((2 * (9 - d) : Nat) : Int) = ((W4 d : Nat) : Int) := by
        have : 2 ^ (2 * (9 - d)) ≤ 2 ^ 18 := Nat.pow_le_pow_right (by decide) (by omega)
        have e : ishl ((1 : Nat) : Int) ((2 * (9 - d) : Nat) : Int) = ((1 <<< (2 * (9 - d)) : Nat) : Int) := ishl_n (by omega) (by omega)
        refine e.trans ?_
        rw [Nat.shiftLeft_eq, Nat.one_mul, ← W4_two]
      have hsh : w32 (2 * w32 (9 - (d : Int))) = ((2 * (9 - d) : Nat) : Int) := by
        rw [w32_id (z := 9 - (d : Int)) (by omega) (by omega), w32_id (by omega) (by omega)]; omega
      have hdig := W4_sh h10 hx4 (Nat.le_refl d)
      -- one more at this pair
      have inc : ∀ M2, Fp omset M M2 → x d < rd n d → M2 49 0 = (cnt (trb n) (psum (pw n) x (d + 1) + pw n d) : Int) → (∀ c, c < psum (pw n) x (d + 1) + pw n d → trb n c = true → M2 50 (cnt (trb n) c) = (c4 n c : Int)) → A m6_make 4 0 21 [(16, ((49 : Nat) : Int)), (0, (n : Int)), (0, w32 (((psum W4 x (d + 1) : Nat) : Int) + ((W4 d : Nat) : Int))), (0, (d : Int)), (0, ((i + 1 : Nat) : Int)), (2, 0), (2, 0)] [] M2 (Kd P) := by
        intro M2 hF2 hlt2 hs2 ha2
        have e1 : psum W4 (udg x d (x d + 1)) (d + 1) = psum W4 x (d + 1) + W4 d := by
          rw [psum_udg, Nat.succ_mul]; show _ = psum W4 x d + x d * W4 d + W4 d; omega
        have e2 : psum (pw n) (udg x d (x d + 1)) (d + 1) = psum (pw n) x (d + 1) + pw n d := by
          rw [psum_udg, Nat.succ_mul]; show _ = psum (pw n) x d + x d * pw n d + pw n d; omega
        have e3 : psum cw (udg x d (x d + 1)) (d + 1) = psum cw x (d + 1) + cw d := by
          rw [psum_udg, Nat.succ_mul]; show _ = psum cw x d + x d * cw d + cw d; omega
        have c1 : 1 ≤ cw d := by
          unfold cw
          have : 0 < 3 ^ (9 - d) := Nat.pow_pos (by decide)
          omega
        refine ih (w32 (((psum W4 x (d + 1) : Nat) : Int) + ((W4 d : Nat) : Int)), (d : Int), udg x d (x d + 1)) M2 ⟨hF2, Or.inr ⟨d, rfl, h10, ?_, fun e he => ?_, ?_, ?_, ?_, ?_⟩⟩
        · show w32 _ = _
          rw [e1, w32_id (by omega) (by omega)]; norm_cast
        · obtain ⟨y1, y2⟩ := hx e he
          have y3 : okb (udg x d (x d + 1)) e = okb x e := okb_congr (by omega) (fun e' he' => udg_o (by omega))
          refine ⟨?_, y3.trans y2⟩
          show udg x d (x d + 1) e < _
          rw [udg_o (by omega)]; exact y1
        · show udg x d (x d + 1) d ≤ _
          rw [udg_s]; omega
        · show _ = ((cnt (trb n) (psum (pw n) (udg x d (x d + 1)) (d + 1)) : Nat) : Int)
          rw [e2]; exact hs2
        · show ∀ c, c < psum (pw n) (udg x d (x d + 1)) (d + 1) → _
          rw [e2]; exact ha2
        · show i + 1 ≤ psum cw (udg x d (x d + 1)) (d + 1) + d
          rw [e3]
          have hpot' : i ≤ psum cw x (d + 1) + d := hpot
          omega
      apply r_6_make_21
      rw [w_1 (i := i) (by omega)]
      refine ⟨fun q => by omega, fun _ => ⟨fun q => by omega, fun _ => ?_⟩⟩
      apply q_6_shiftOf
      rw [hsh]
      apply s_att (by omega) (by omega)
      rw [Int.toNat_natCast, hT1.2.1 d h10, hdig, hw4]
      refine ⟨fun q => ⟨fun q2 => ?a1, fun q2 => ?b1⟩, fun q => ⟨fun q2 => ?a2, fun q2 => ?b2⟩⟩
      case a1 | a2 =>
        have hle : x d < rd n d := by unfold rd; split <;> omega
        have hx3 : ∀ e, e ≤ d → x e < rd n e := fun e he => by
          by_cases z : e = d
          · subst z; exact hle
          · exact (hx e (by omega)).1
        apply s_okSoFar hT1 h10 (fun e he => by have := hx3 e he; have := rd_le n e; omega)
        refine ⟨fun q3 => ⟨fun q4 => ?_, fun q4 => ?_⟩, fun q3 => ?_⟩
        · have hd9 : d = 9 := by omega
          subst hd9
          have hb := bi_ne q3
          obtain ⟨g1, g2⟩ := trb_good (n := n) (x := x) hx3 (fun e he => by
            by_cases z : e = 9
            · subst z; exact hb
            · exact (hx e (by omega)).2)
          have htop := psum_lt (n := n) (x := x) 9 (by omega) hx3
          rw [pw_9] at htop
          have hm := trb_most hn
          have hm2 := cnt_mono (p := trb n) (show psum (pw n) x 10 + 1 ≤ tot n from htop)
          have hst := cnt_stp (trb n) (psum (pw n) x 10)
          rw [if_pos g1] at hst
          have hsz' : M1 49 0 = (cnt (trb n) (psum (pw n) x 10) : Int) := hsz
          rw [hsz']
          apply s_put (by omega) (by omega)
          rw [Int.toNat_natCast, mset_k (by decide), hsz', w_1 (by omega)]
          refine inc _ ((hF.set (Or.inr rfl)).set (Or.inl ⟨rfl, Or.inl rfl⟩)) hle ?_ ?_
          · rw [mset_s, pw_9, show psum (pw n) x (9 + 1) = psum (pw n) x 10 from rfl, hst]
          · intro c hc ht
            rw [mset_k (by decide)]
            have hc : c < psum (pw n) x 10 + 1 := hc
            by_cases z : c = psum (pw n) x 10
            · subst z
              rw [mset_s, g2]
            · have hcl : c < psum (pw n) x 10 := by omega
              have hm3 := cnt_mono (p := trb n) (show c + 1 ≤ psum (pw n) x 10 from hcl)
              have hst3 := cnt_stp (trb n) c
              rw [if_pos ht] at hst3
              rw [mset_j (by omega)]
              exact harr c hcl ht
        · have hb := bi_ne q3
          have ex : (udg x (d + 1) 0) (d + 1) = 0 := udg_s
          have eo : ∀ e, e ≤ d → udg x (d + 1) 0 e = x e := fun e he => udg_o (by omega)
          have es : ∀ W, psum W (udg x (d + 1) 0) (d + 1 + 1) = psum W x (d + 1) := fun W => by
            rw [psum_udg, Nat.zero_mul]; rfl
          rw [w_1 (i := d) (by omega)]
          refine ih (((psum W4 x (d + 1) : Nat) : Int), ((d + 1 : Nat) : Int), udg x (d + 1) 0) M1 ⟨hF, Or.inr ⟨d + 1, rfl, by omega, ?_, fun e he => ?_, ?_, ?_, ?_, ?_⟩⟩
          · rw [es]
          · have y3 : okb (udg x (d + 1) 0) e = okb x e := okb_congr (by omega) (fun e' he' => eo e' (by omega))
            refine ⟨?_, ?_⟩
            · show udg x (d + 1) 0 e < _
              rw [eo e (by omega)]; exact hx3 e (by omega)
            · refine y3.trans ?_
              by_cases z : e = d
              · subst z; exact hb
              · exact (hx e (by omega)).2
          · show udg x (d + 1) 0 (d + 1) ≤ _
            rw [ex]; exact Nat.zero_le _
          · rw [es]; exact hsz
          · show ∀ c, c < psum (pw n) (udg x (d + 1) 0) (d + 1 + 1) → _
            rw [es]; exact harr
          · show i + 1 ≤ psum cw (udg x (d + 1) 0) (d + 1 + 1) + (d + 1)
            rw [es]
            have hpot' : i ≤ psum cw x (d + 1) + d := hpot
            omega
        · have hb : okb x d = false := by
            cases w : okb x d with
            | false => rfl
            | true => exact absurd w (bi_eq q3)
          have bad := trb_bad h10 hx3 hb
          refine inc M1 hF hle ?_ ?_
          · rw [cnt_skip (pw n d) bad]; exact hsz
          · intro c hc ht
            by_cases z : c < psum (pw n) x (d + 1)
            · exact harr c z ht
            · rw [bad c (by omega) hc] at ht; cases ht
      case b1 | b2 =>
        have hge : x d = rd n d := by
          have hz : rd n d ≤ x d := by unfold rd; split <;> omega
          omega
        apply q_6_shiftOf
        by_cases d0 : d = 0
        · subst d0
          refine ih (_, w32 (((0 : Nat) : Int) + -1), x) M1 ⟨hF, Or.inl ⟨by show w32 _ = _; decide, ?_⟩⟩
          have e : psum (pw n) x (0 + 1) = tot n := by
            show 0 + x 0 * pw n 0 = _
            rw [hge, Nat.zero_add]; rfl
          rw [e] at hsz harr
          exact ⟨hsz, harr⟩
        · obtain ⟨k, rfl⟩ : ∃ k, d = k + 1 := ⟨d - 1, by omega⟩
          have e0 : w32 (((k + 1 : Nat) : Int) + -1) = (k : Int) := by rw [w32_id (by omega) (by omega)]; omega
          have hshk : w32 (2 * w32 (9 - (k : Int))) = ((2 * (9 - k) : Nat) : Int) := by
            rw [w32_id (z := 9 - (k : Int)) (by omega) (by omega), w32_id (by omega) (by omega)]; omega
          have hwk : ishl 1 ((2 * (9 - k) : Nat) : Int) = ((W4 k : Nat) : Int) := by
            have : 2 ^ (2 * (9 - k)) ≤ 2 ^ 18 := Nat.pow_le_pow_right (by decide) (by omega)
            have e : ishl ((1 : Nat) : Int) ((2 * (9 - k) : Nat) : Int) = ((1 <<< (2 * (9 - k)) : Nat) : Int) := ishl_n (by omega) (by omega)
            refine e.trans ?_
            rw [Nat.shiftLeft_eq, Nat.one_mul, ← W4_two]
          obtain ⟨u, hu⟩ := psum_dvd (W := W4) (R := fun _ => 4) (x := x) (D := 9) (fun e he => W4_s he) k (by omega)
          have hcode : psum W4 x (k + 1 + 1) = (4 * u + x (k + 1)) * 2 ^ (2 * (9 - (k + 1))) := by
            show psum W4 x (k + 1) + x (k + 1) * W4 (k + 1) = _
            rw [hu, W4_s (by omega), ← W4_two, Nat.add_mul, Nat.mul_comm 4 u, Nat.mul_assoc]
          have hmask : iand ((psum W4 x (k + 1 + 1) : Nat) : Int) (ixor (ishl 3 ((2 * (9 - (k + 1)) : Nat) : Int)) (-1)) = ((psum W4 x (k + 1) : Nat) : Int) := by
            rw [hcode]
            rw [hcode] at hlt
            rw [iandm (hx4 (k + 1) (Nat.le_refl _)) (by omega) (by omega), hu, W4_s (by omega), ← W4_two, Nat.mul_comm 4 u, Nat.mul_assoc]
          rw [hmask, e0, hshk, hwk]
          have eo : ∀ e, e < k → udg x k (x k + 1) e = x e := fun e he => udg_o (by omega)
          have es : ∀ W, psum W (udg x k (x k + 1)) (k + 1) = psum W x (k + 1) + W k := fun W => by
            rw [psum_udg, Nat.succ_mul]; show _ = psum W x k + x k * W k + W k; omega
          have ev : psum (pw n) (udg x k (x k + 1)) (k + 1) = psum (pw n) x (k + 1 + 1) := by
            rw [es, pw_s (by omega), ← hge]; rfl
          have hlk := W4_lt (show k < 10 by omega) (fun e he => hx4 e (by omega))
          refine ih (w32 (((psum W4 x (k + 1) : Nat) : Int) + ((W4 k : Nat) : Int)), (k : Int), udg x k (x k + 1)) M1 ⟨hF, Or.inr ⟨k, rfl, by omega, ?_, fun e he => ?_, ?_, ?_, ?_, ?_⟩⟩
          · show w32 _ = _
            rw [es, w32_id (by omega) (by omega)]; exact (Int.natCast_add _ _).symm
          · have y3 : okb (udg x k (x k + 1)) e = okb x e := okb_congr (by omega) (fun e' he' => eo e' (by omega))
            refine ⟨?_, y3.trans (hx e (by omega)).2⟩
            show udg x k (x k + 1) e < _
            rw [eo e he]; exact (hx e (by omega)).1
          · show udg x k (x k + 1) k ≤ _
            rw [udg_s]; exact (hx k (by omega)).1
          · rw [ev]; exact hsz
          · show ∀ c, c < psum (pw n) (udg x k (x k + 1)) (k + 1) → _
            rw [ev]; exact harr
          · show i + 1 ≤ psum cw (udg x k (x k + 1)) (k + 1) + k
            rw [es, cw_s k (by omega)]
            have hpot' : i ≤ psum cw x (k + 1) + x (k + 1) * cw (k + 1) + (k + 1) := hpot
            have : x (k + 1) * cw (k + 1) ≤ 3 * cw (k + 1) := Nat.mul_le_mul_right _ (by omega)
            omega
  · rw [mset_s]
    show (0 : Int) = ((cnt (trb n) (0 + 0 * pw n 0) : Nat) : Int)
    rw [Nat.zero_mul]; rfl
