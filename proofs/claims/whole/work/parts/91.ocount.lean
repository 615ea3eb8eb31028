/-! no more than 4231 orders of five people -/
def tb (u v w : Nat) : Bool := Nat.testBit 83339103 (9 * u + 3 * v + w)
theorem tb_c : ∀ u, u < 3 → ∀ v, v < 3 → ∀ w, w < 3 → canB (dv v) (dv w) (dv u) = tb u v w := by decide
def dg4 (p d e : Nat) : Nat := (p >>> (2 * (d - e))) &&& 3
def okN (d p : Nat) : Bool :=
  (Nat.ble (onT d) 0 || tb (dg4 p d (pix 0 (onT d))) (dg4 p d d) (dg4 p d (pix 0 (otT d)))) &&
  ((Nat.ble (onT d) 1 || tb (dg4 p d (pix 1 (onT d))) (dg4 p d d) (dg4 p d (pix 1 (otT d)))) &&
   (Nat.ble (onT d) 2 || tb (dg4 p d (pix 2 (onT d))) (dg4 p d d) (dg4 p d (pix 2 (otT d)))))
def cT : Nat → Nat → Nat → Nat
  | 0, _, _ => 1
  | k + 1, d, p => (if okN d (4 * p) = true then cT k (d + 1) (4 * p) else 0) + ((if okN d (4 * p + 1) = true then cT k (d + 1) (4 * p + 1) else 0) + (if okN d (4 * p + 2) = true then cT k (d + 1) (4 * p + 2) else 0))
theorem cT_all : cT 10 0 0 ≤ 4231 := by decide +kernel
def p4 (x : Nat → Nat) : Nat → Nat
  | 0 => 0
  | d + 1 => 4 * p4 x d + x d
theorem p4_dig {x : Nat → Nat} : ∀ d, (∀ e, e ≤ d → x e < 4) → ∀ e, e ≤ d → dg4 (p4 x (d + 1)) d e = x e
  | 0, h, e, he => by
    have : e = 0 := by omega
    subst this
    have h0 := h 0 (by omega)
    show ((4 * 0 + x 0) >>> (2 * (0 - 0))) &&& 3 = x 0
    rw [Nat.mul_zero, Nat.zero_add, Nat.shiftRight_zero, show (3 : Nat) = 2 ^ 2 - 1 from rfl, Nat.and_two_pow_sub_one_eq_mod, Nat.mod_eq_of_lt h0]
  | d + 1, h, e, he => by
    have hd := h (d + 1) (by omega)
    unfold dg4
    rw [show p4 x (d + 1 + 1) = 4 * p4 x (d + 1) + x (d + 1) from rfl]
    by_cases q : e = d + 1
    · subst q
      rw [Nat.sub_self, Nat.mul_zero, Nat.shiftRight_zero, show (3 : Nat) = 2 ^ 2 - 1 from rfl, Nat.and_two_pow_sub_one_eq_mod]
      show (4 * p4 x (d + 1) + x (d + 1)) % 4 = _
      omega
    · have ih := p4_dig d (fun e' he' => h e' (by omega)) e (by omega)
      rw [show 2 * (d + 1 - e) = 2 + 2 * (d - e) by omega, Nat.shiftRight_add, show (4 * p4 x (d + 1) + x (d + 1)) >>> 2 = p4 x (d + 1) by rw [Nat.shiftRight_eq_div_pow]; omega]
      exact ih
theorem okN_eq {x : Nat → Nat} {d : Nat} (hd : d < 10) (hx : ∀ e, e ≤ d → x e < 3) : okN d (p4 x (d + 1)) = okb x d := by
  obtain ⟨h1, h2, h3, h4⟩ := pix_le d hd
  have g := p4_dig (x := x) d (fun e he => by have := hx e he; omega)
  have key : ∀ q, q < onT d → canB (bx x (onT d) (otT d)) (bx x q (otT d)) (bx x q (onT d)) = tb (dg4 (p4 x (d + 1)) d (pix q (onT d))) (dg4 (p4 x (d + 1)) d d) (dg4 (p4 x (d + 1)) d (pix q (otT d))) := fun q hq => by
    obtain ⟨z1, z2⟩ := h4 q hq
    rw [g _ (by omega), g d (by omega), g _ (by omega), bx_lt h1, bx_lt (show q < otT d by omega), bx_lt hq, h3]
    exact tb_c _ (hx _ (by omega)) _ (hx _ (by omega)) _ (hx _ (by omega))
  have h5 : onT d < 4 := by omega
  have kk : ∀ q, (Nat.ble (onT d) q || tb (dg4 (p4 x (d + 1)) d (pix q (onT d))) (dg4 (p4 x (d + 1)) d d) (dg4 (p4 x (d + 1)) d (pix q (otT d)))) = true ↔ (q < onT d → canB (bx x (onT d) (otT d)) (bx x q (otT d)) (bx x q (onT d)) = true) := fun q => by
    by_cases z : q < onT d
    · rw [← key q z]
      have : Nat.ble (onT d) q = false := by
        cases w : Nat.ble (onT d) q with
        | false => rfl
        | true => have := Nat.le_of_ble_eq_true w; omega
      rw [this, Bool.false_or]
      exact ⟨fun w _ => w, fun w => w z⟩
    · have : Nat.ble (onT d) q = true := Nat.ble_eq_true_of_le (by omega)
      rw [this, Bool.true_or]
      exact ⟨fun _ w => absurd w z, fun _ => rfl⟩
  unfold okN okb
  rw [Bool.eq_iff_iff, List.all_eq_true, Bool.and_eq_true, Bool.and_eq_true, kk 0, kk 1, kk 2]
  constructor
  · rintro ⟨a0, a1, a2⟩ q hq
    have hq := List.mem_range.mp hq
    rcases (show q = 0 ∨ q = 1 ∨ q = 2 by omega) with rfl | rfl | rfl
    · exact a0 hq
    · exact a1 hq
    · exact a2 hq
  · intro h
    exact ⟨fun z => h 0 (List.mem_range.mpr z), fun z => h 1 (List.mem_range.mpr z), fun z => h 2 (List.mem_range.mpr z)⟩
theorem cnt_split (p : Nat → Bool) (m : Nat) : ∀ w, cnt p (m + w) = cnt p m + cnt (fun t => p (m + t)) w
  | 0 => rfl
  | w + 1 => by
    rw [show m + (w + 1) = (m + w) + 1 by omega, cnt_stp, cnt_stp, cnt_split p m w]
    split <;> omega
theorem pw5 : ∀ d, d < 10 → pw 5 d = 3 ^ (9 - d) := by decide
theorem rd5 : ∀ d, d < 10 → rd 5 d = 3 := by decide
theorem cT_le : ∀ k d x, d + k = 10 → (∀ e, e < d → x e < 3) → cnt (fun t => trb 5 (psum (pw 5) x d + t)) (3 ^ k) ≤ cT k d (p4 x d)
  | 0, d, x, _, _ => by
    show cnt _ 1 ≤ 1
    exact cnt_le _ 1
  | k + 1, d, x, hd, hx => by
    have hp : pw 5 d = 3 ^ k := by rw [pw5 d (by omega), show 9 - d = k by omega]
    have one : ∀ y, y < 3 → cnt (fun t => trb 5 (psum (pw 5) x d + (y * 3 ^ k + t))) (3 ^ k) ≤ (if okN d (4 * p4 x d + y) = true then cT k (d + 1) (4 * p4 x d + y) else 0) := fun y hy => by
      have ex : ∃ x' : Nat → Nat, x' = fun e => if e = d then y else x e := ⟨_, rfl⟩
      obtain ⟨x', hx'⟩ := ex
      have e1 : ∀ e, e < d → x' e = x e := fun e he => by rw [hx']; exact if_neg (by omega)
      have e2 : x' d = y := by rw [hx']; exact if_pos rfl
      have e3 : psum (pw 5) x' (d + 1) = psum (pw 5) x d + y * 3 ^ k := by
        show psum (pw 5) x' d + x' d * pw 5 d = _
        rw [psum_congr d e1, e2, hp]
      have e4 : ∀ m, m ≤ d → p4 x' m = p4 x m := by
        intro m
        induction m with
        | zero => intro _; rfl
        | succ m ih =>
          intro hm
          show 4 * p4 x' m + x' m = 4 * p4 x m + x m
          rw [ih (by omega), e1 m (by omega)]
      have e5 : p4 x' (d + 1) = 4 * p4 x d + y := by
        show 4 * p4 x' d + x' d = _
        rw [e4 d (Nat.le_refl d), e2]
      have h3 : ∀ e, e ≤ d → x' e < 3 := fun e he => by
        by_cases q : e = d
        · subst q; rw [e2]; exact hy
        · rw [e1 e (by omega)]; exact hx e (by omega)
      have e6 : (fun t => trb 5 (psum (pw 5) x d + (y * 3 ^ k + t))) = (fun t => trb 5 (psum (pw 5) x' (d + 1) + t)) := by
        funext t; rw [e3, Nat.add_assoc]
      rw [e6, ← e5, okN_eq (by omega) h3]
      split
      · exact cT_le k (d + 1) x' (by omega) (fun e he => h3 e (by omega))
      · next q =>
        have hb : okb x' d = false := by
          cases w : okb x' d with
          | false => rfl
          | true => exact absurd w q
        have := cnt_skip (p := fun t => trb 5 (psum (pw 5) x' (d + 1) + t)) (v := 0) (3 ^ k) (fun c _ hc => trb_bad (by omega) (fun e he => by rw [rd5 e (by omega)]; exact h3 e he) hb _ (by omega) (by rw [hp]; omega))
        rw [Nat.zero_add] at this
        rw [this]
        exact Nat.le_refl 0
    have h0 := one 0 (by omega)
    have h1 := one 1 (by omega)
    have h2 := one 2 (by omega)
    rw [show 3 ^ (k + 1) = 3 ^ k + (3 ^ k + 3 ^ k) by rw [Nat.pow_succ]; omega, cnt_split, cnt_split]
    simp only [Nat.zero_mul, Nat.zero_add, Nat.one_mul, Nat.add_zero] at h0 h1
    have h2' : cnt (fun t => trb 5 (psum (pw 5) x d + (3 ^ k + (3 ^ k + t)))) (3 ^ k) ≤ (if okN d (4 * p4 x d + 2) = true then cT k (d + 1) (4 * p4 x d + 2) else 0) := by
      have e : (fun t => trb 5 (psum (pw 5) x d + (3 ^ k + (3 ^ k + t)))) = (fun t => trb 5 (psum (pw 5) x d + (2 * 3 ^ k + t))) := by
        funext t; rw [show 3 ^ k + (3 ^ k + t) = 2 * 3 ^ k + t by omega]
      rw [e]; exact h2
    exact Nat.add_le_add h0 (Nat.add_le_add h1 h2')
theorem trb_most {n : Nat} (hn : n ≤ 5) : cnt (trb n) (tot n) ≤ 4231 := by
  by_cases q : n = 5
  · subst q
    have h := cT_le 10 0 (fun _ => 0) rfl (fun e he => by omega)
    have e : (fun t => trb 5 (psum (pw 5) (fun _ => 0) 0 + t)) = trb 5 := by
      funext t; show trb 5 (0 + t) = _; rw [Nat.zero_add]
    rw [e] at h
    exact Nat.le_trans h cT_all
  · have h1 := cnt_le (trb n) (tot n)
    have h2 : ∀ m, m < 5 → tot m ≤ 4231 := by decide
    have := h2 n (by omega)
    omega
