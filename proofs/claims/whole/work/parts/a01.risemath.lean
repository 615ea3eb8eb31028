/-! RISE: the states of a court as numbers -/
def plR (r p : Nat) : Nat := r / 4 / 5 ^ (4 - p) % 5
def wR (r : Nat) : Nat := r % 4
def kR (pl : Nat → Nat) (w : Nat) : Nat := ((((pl 0 * 5 + pl 1) * 5 + pl 2) * 5 + pl 3) * 5 + pl 4) * 4 + w
theorem plR_lt (r p : Nat) : plR r p < 5 := Nat.mod_lt _ (by decide)
theorem wR_lt (r : Nat) : wR r < 4 := Nat.mod_lt _ (by decide)
theorem plR_n (r : Nat) : plR r 0 = r / 4 / 625 % 5 ∧ plR r 1 = r / 4 / 125 % 5 ∧ plR r 2 = r / 4 / 25 % 5 ∧ plR r 3 = r / 4 / 5 % 5 ∧ plR r 4 = r / 4 % 5 := by
  refine ⟨rfl, rfl, rfl, rfl, ?_⟩
  show r / 4 / 5 ^ 0 % 5 = _
  rw [Nat.pow_zero, Nat.div_one]
theorem five {P : Nat → Prop} (h0 : P 0) (h1 : P 1) (h2 : P 2) (h3 : P 3) (h4 : P 4) : ∀ p, p < 5 → P p := by
  intro p hp
  rcases (show p = 0 ∨ p = 1 ∨ p = 2 ∨ p = 3 ∨ p = 4 by omega) with rfl | rfl | rfl | rfl | rfl
  · exact h0
  · exact h1
  · exact h2
  · exact h3
  · exact h4
theorem kR_of {pl : Nat → Nat} {w : Nat} (h : ∀ p, p < 5 → pl p < 5) (hw : w < 4) : (∀ p, p < 5 → plR (kR pl w) p = pl p) ∧ wR (kR pl w) = w ∧ kR pl w < 12500 := by
  have h0 := h 0 (by omega)
  have h1 := h 1 (by omega)
  have h2 := h 2 (by omega)
  have h3 := h 3 (by omega)
  have h4 := h 4 (by omega)
  obtain ⟨p0, p1, p2, p3, p4⟩ := plR_n (kR pl w)
  refine ⟨five ?_ ?_ ?_ ?_ ?_, ?_, ?_⟩
  · rw [p0]; unfold kR; omega
  · rw [p1]; unfold kR; omega
  · rw [p2]; unfold kR; omega
  · rw [p3]; unfold kR; omega
  · rw [p4]; unfold kR; omega
  · unfold wR kR; omega
  · unfold kR; omega
theorem kR_plR {r : Nat} (h : r < 12500) : kR (plR r) (wR r) = r := by
  obtain ⟨p0, p1, p2, p3, p4⟩ := plR_n r
  unfold kR wR
  rw [p0, p1, p2, p3, p4]
  omega
theorem kR_congr {x y : Nat → Nat} {w : Nat} (h : ∀ p, p < 5 → x p = y p) : kR x w = kR y w := by
  unfold kR
  rw [h 0 (by omega), h 1 (by omega), h 2 (by omega), h 3 (by omega), h 4 (by omega)]
theorem key_ext {r s : Nat} (hr : r < 12500) (hs : s < 12500) (h : ∀ p, p < 5 → plR r p = plR s p) (hw : wR r = wR s) : r = s := by
  rw [← kR_plR hr, ← kR_plR hs, hw]
  exact kR_congr h
/-- a state: all five stand in different places -/
def vR (r : Nat) : Prop := r < 12500 ∧ ∀ p q, p < 5 → q < 5 → plR r p = plR r q → p = q
def swp (x : Nat → Nat) (c h : Nat) : Nat → Nat := fun p => if p = c then x h else if p = h then x c else x p
def chg (r c h : Nat) : Nat := kR (swp (plR r) c h) ((wR r + 1) % 4)
theorem swp_lt {x : Nat → Nat} {c h p : Nat} (hx : ∀ p, x p < 5) : swp x c h p < 5 := by
  unfold swp; split
  · exact hx h
  · split
    · exact hx c
    · exact hx p
theorem chg_of (r c h : Nat) : (∀ p, p < 5 → plR (chg r c h) p = swp (plR r) c h p) ∧ wR (chg r c h) = (wR r + 1) % 4 ∧ chg r c h < 12500 :=
  kR_of (fun p _ => swp_lt (plR_lt r)) (by omega)
theorem vR_chg {r c h : Nat} (hv : vR r) (hc : c < 5) (hh : h < 5) : vR (chg r c h) := by
  obtain ⟨h1, h2, h3⟩ := chg_of r c h
  refine ⟨h3, fun p q hp hq e => ?_⟩
  rw [h1 p hp, h1 q hq] at e
  have inj := hv.2
  unfold swp at e
  split at e
  · split at e
    · omega
    · split at e
      · have := inj _ _ hh hc e; omega
      · have := inj _ _ hh hq e; omega
  · split at e
    · split at e
      · have := inj _ _ hc hh e; omega
      · split at e
        · omega
        · have := inj _ _ hc hq e; omega
    · split at e
      · have := inj _ _ hp hh e; omega
      · split at e
        · have := inj _ _ hp hc e; omega
        · exact inj _ _ hp hq e
/-- the class's own number of a state -/
def lwc (x : Nat → Nat) (p : Nat) : Nat → Nat
  | 0 => 0
  | k + 1 => if p < k ∧ x k < x p then lwc x p k + 1 else lwc x p k
theorem lwc_step {x : Nat → Nat} {p k : Nat} : lwc x p (k + 1) = if p < k ∧ x k < x p then lwc x p k + 1 else lwc x p k := rfl
theorem lwc_0 {x : Nat → Nat} {p : Nat} : ∀ k, k ≤ p + 1 → lwc x p k = 0
  | 0, _ => rfl
  | k + 1, h => by rw [lwc_step, if_neg (by omega)]; exact lwc_0 k (by omega)
theorem lwc_le {x : Nat → Nat} {p : Nat} : ∀ k, lwc x p k ≤ k - (p + 1)
  | 0 => Nat.zero_le _
  | k + 1 => by
    have := lwc_le (x := x) (p := p) k
    rw [lwc_step]; split <;> omega
def nbR (x : Nat → Nat) (w : Nat) : Nat → Nat
  | 0 => w
  | p + 1 => nbR x w p * (5 - p) + lwc x p 5
def lhm (r : Nat) : Nat := nbR (plR r) (wR r) 5
theorem nb_lt {x : Nat → Nat} {w : Nat} (hw : w < 4) : ∀ p, p ≤ 5 → nbR x w p < 480 ∧ (p = 1 → nbR x w p < 20) ∧ (p = 2 → nbR x w p < 80) ∧ (p = 3 → nbR x w p < 240) := by
  have a0 := lwc_le (x := x) (p := 0) 5
  have a1 := lwc_le (x := x) (p := 1) 5
  have a2 := lwc_le (x := x) (p := 2) 5
  have a3 := lwc_le (x := x) (p := 3) 5
  have a4 := lwc_le (x := x) (p := 4) 5
  have e1 : nbR x w 1 = w * 5 + lwc x 0 5 := rfl
  have e2 : nbR x w 2 = nbR x w 1 * 4 + lwc x 1 5 := rfl
  have e3 : nbR x w 3 = nbR x w 2 * 3 + lwc x 2 5 := rfl
  have e4 : nbR x w 4 = nbR x w 3 * 2 + lwc x 3 5 := rfl
  have e5 : nbR x w 5 = nbR x w 4 * 1 + lwc x 4 5 := rfl
  have e0 : nbR x w 0 = w := rfl
  intro p hp
  rcases (show p = 0 ∨ p = 1 ∨ p = 2 ∨ p = 3 ∨ p = 4 ∨ p = 5 by omega) with rfl | rfl | rfl | rfl | rfl | rfl
  · rw [e0]; omega
  · rw [e1]; omega
  · rw [e2, e1]; omega
  · rw [e3, e2, e1]; omega
  · rw [e4, e3, e2, e1]; omega
  · rw [e5, e4, e3, e2, e1]; omega
theorem lhm_lt (r : Nat) : lhm r < 480 := (nb_lt (wR_lt r) 5 (by omega)).1
def b2 (a b : Nat) : Nat := if a < b then 1 else 0
def LL (a b c d e : Nat) : Nat := (((b2 b a + b2 c a + b2 d a + b2 e a) * 4 + (b2 c b + b2 d b + b2 e b)) * 3 + (b2 d c + b2 e c)) * 2 + b2 e d
def nd5 (a b c d e : Nat) : Bool := !(a == b) && !(a == c) && !(a == d) && !(a == e) && !(b == c) && !(b == d) && !(b == e) && !(c == d) && !(c == e) && !(d == e)
def tb5 : List Nat := [194, 198, 214, 222, 238, 242, 294, 298, 334, 346, 358, 366, 414, 422, 434, 446, 482, 486, 538, 542, 558, 566, 582, 586, 694, 698, 714, 722, 738, 742, 894, 898, 954, 970, 978, 990, 1014, 1022, 1054, 1070, 1102, 1110, 1138, 1142, 1178, 1190, 1202, 1210, 1294, 1298, 1334, 1346, 1358, 1366, 1394, 1398, 1454, 1470, 1478, 1490, 1634, 1646, 1654, 1670, 1726, 1730, 1758, 1766, 1778, 1790, 1826, 1830, 1914, 1922, 1934, 1946, 1982, 1986, 2014, 2022, 2054, 2070, 2102, 2110, 2134, 2146, 2154, 2170, 2226, 2230, 2382, 2386, 2402, 2410, 2426, 2430, 2538, 2542, 2558, 2566, 2582, 2586, 2638, 2642, 2678, 2690, 2702, 2710, 2758, 2766, 2778, 2790, 2826, 2830, 2882, 2886, 2902, 2910, 2926, 2930]
def un5B (a b c d e : Nat) : Bool := !nd5 a b c d e || (Nat.blt (LL a b c d e) 120 && Nat.beq (tb5.getD (LL a b c d e) 0) ((((a * 5 + b) * 5 + c) * 5 + d) * 5 + e))
theorem un5C : ((List.range 5).all fun a => (List.range 5).all fun b => (List.range 5).all fun c => (List.range 5).all fun d => (List.range 5).all fun e => un5B a b c d e) = true := by decide +kernel
theorem un5 (a : Nat) (ha : a < 5) (b : Nat) (hb : b < 5) (c : Nat) (hc : c < 5) (d : Nat) (hd : d < 5) (e : Nat) (he : e < 5) (h : nd5 a b c d e = true) : LL a b c d e < 120 ∧ tb5.getD (LL a b c d e) 0 = (((a * 5 + b) * 5 + c) * 5 + d) * 5 + e := by
  have h1 := List.all_eq_true.mp un5C a (List.mem_range.mpr ha)
  have h2 := List.all_eq_true.mp h1 b (List.mem_range.mpr hb)
  have h3 := List.all_eq_true.mp h2 c (List.mem_range.mpr hc)
  have h4 := List.all_eq_true.mp h3 d (List.mem_range.mpr hd)
  have h5 := List.all_eq_true.mp h4 e (List.mem_range.mpr he)
  unfold un5B at h5
  rw [h, Bool.not_true, Bool.false_or, Bool.and_eq_true] at h5
  exact ⟨by have := h5.1; simp [Nat.blt] at this; omega, Nat.eq_of_beq_eq_true h5.2⟩
theorem lwc_5 (x : Nat → Nat) : lwc x 0 5 = b2 (x 1) (x 0) + b2 (x 2) (x 0) + b2 (x 3) (x 0) + b2 (x 4) (x 0) ∧ lwc x 1 5 = b2 (x 2) (x 1) + b2 (x 3) (x 1) + b2 (x 4) (x 1) ∧ lwc x 2 5 = b2 (x 3) (x 2) + b2 (x 4) (x 2) ∧ lwc x 3 5 = b2 (x 4) (x 3) ∧ lwc x 4 5 = 0 := by
  have one : ∀ p k, lwc x p (k + 1) = lwc x p k + (if p < k then b2 (x k) (x p) else 0) := fun p k => by
    rw [lwc_step]; unfold b2
    by_cases h1 : p < k <;> by_cases h2 : x k < x p <;> simp [h1, h2]
  have z : ∀ p, lwc x p 0 = 0 := fun p => rfl
  refine ⟨?_, ?_, ?_, ?_, ?_⟩ <;> · rw [one, one, one, one, one, z]; simp
theorem lhm_inj {r s : Nat} (hr : vR r) (hs : vR s) (h : lhm r = lhm s) : r = s := by
  have key : ∀ r, vR r → ∃ L, lhm r = wR r * 120 + L ∧ L < 120 ∧ r / 4 = tb5.getD L 0 := fun r hv => by
    obtain ⟨l0, l1, l2, l3, l4⟩ := lwc_5 (plR r)
    have inj := hv.2
    have hne : ∀ p q, p < 5 → q < 5 → p ≠ q → (plR r p == plR r q) = false := fun p q hp hq hpq => by
      rw [beq_eq_false_iff_ne]; exact fun e => hpq (inj p q hp hq e)
    obtain ⟨u1, u2⟩ := un5 (plR r 0) (plR_lt r 0) (plR r 1) (plR_lt r 1) (plR r 2) (plR_lt r 2) (plR r 3) (plR_lt r 3) (plR r 4) (plR_lt r 4) (by
      unfold nd5
      rw [hne 0 1 (by omega) (by omega) (by omega), hne 0 2 (by omega) (by omega) (by omega), hne 0 3 (by omega) (by omega) (by omega), hne 0 4 (by omega) (by omega) (by omega), hne 1 2 (by omega) (by omega) (by omega), hne 1 3 (by omega) (by omega) (by omega), hne 1 4 (by omega) (by omega) (by omega), hne 2 3 (by omega) (by omega) (by omega), hne 2 4 (by omega) (by omega) (by omega), hne 3 4 (by omega) (by omega) (by omega)]
      rfl)
    refine ⟨_, ?_, u1, ?_⟩
    · show ((((wR r * (5 - 0) + lwc (plR r) 0 5) * (5 - 1) + lwc (plR r) 1 5) * (5 - 2) + lwc (plR r) 2 5) * (5 - 3) + lwc (plR r) 3 5) * (5 - 4) + lwc (plR r) 4 5 = _
      rw [l0, l1, l2, l3, l4]
      unfold LL
      omega
    · rw [u2]
      have := kR_plR hv.1
      unfold kR at this
      unfold wR at this
      omega
  obtain ⟨L1, a1, a2, a3⟩ := key r hr
  obtain ⟨L2, b1, b2, b3⟩ := key s hs
  have w1 := wR_lt r
  have w2 := wR_lt s
  have : L1 = L2 := by omega
  subst this
  have hw : wR r = wR s := by omega
  unfold wR at hw
  omega
/-- the class's code of a state -/
def cC (r : Nat) : Nat := orow (plR r) 5
def sC (r : Nat) : Nat := cC r + wR r * 32768
theorem cC_of (r : Nat) : (∀ p, p < 5 → w8 (cC r) p = plR r p) ∧ cC r < 32768 := by
  obtain ⟨h1, h2⟩ := orow_w (o := plR r) (n := 5) (fun j _ => by have := plR_lt r j; omega) 5 (Nat.le_refl 5)
  exact ⟨fun p hp => by unfold cC; rw [h1 p, if_pos hp], h2⟩
theorem w8_div (x k : Nat) : w8 x k = x / 8 ^ k % 8 := by
  unfold w8
  rw [show (7 : Nat) = 2 ^ 3 - 1 from rfl, Nat.and_two_pow_sub_one_eq_mod, Nat.shiftRight_eq_div_pow, Nat.pow_mul]
theorem sC_w8 (r : Nat) : ∀ p, p < 5 → w8 (sC r) p = plR r p := by
  obtain ⟨h1, h2⟩ := cC_of r
  have key : ∀ p, p < 5 → w8 (sC r) p = w8 (cC r) p := by
    unfold sC
    refine five ?_ ?_ ?_ ?_ ?_ <;> · rw [w8_div, w8_div]; simp only [Nat.reducePow]; omega
  exact fun p hp => (key p hp).trans (h1 p hp)
theorem sC_lt (r : Nat) : sC r < 131072 := by
  have := (cC_of r).2
  have := wR_lt r
  unfold sC; omega
theorem sC_w (r : Nat) : sC r / 32768 = wR r := by
  have := (cC_of r).2
  unfold sC; omega
theorem w8_xor (a b k : Nat) : w8 (a ^^^ b) k = w8 a k ^^^ w8 b k := by
  unfold w8
  rw [Nat.shiftRight_xor_distrib, Nat.and_xor_distrib_right]
theorem sC_chg {r c h : Nat} (hc : c < 5) (hh : h < 5) (hne : h ≠ c) :
    ((sC r &&& 32767) ^^^ (((plR r c ^^^ plR r h) <<< (3 * c)) ||| ((plR r c ^^^ plR r h) <<< (3 * h)))) ||| (((wR r + 1) % 4) <<< 15) = sC (chg r c h) := by
  obtain ⟨g1, g2, g3⟩ := chg_of r c h
  have ht : plR r c ^^^ plR r h < 8 := Nat.xor_lt_two_pow (n := 3) (by have := plR_lt r c; omega) (by have := plR_lt r h; omega)
  have hm : sC r &&& 32767 = cC r := by
    rw [show (32767 : Nat) = 2 ^ 15 - 1 from rfl, Nat.and_two_pow_sub_one_eq_mod]
    have := (cC_of r).2
    unfold sC
    show _ % 32768 = _
    omega
  rw [hm]
  have hlt : cC r ^^^ (((plR r c ^^^ plR r h) <<< (3 * c)) ||| ((plR r c ^^^ plR r h) <<< (3 * h))) < 8 ^ 5 := by
    have e : (8 : Nat) ^ 5 = 2 ^ 15 := by decide
    rw [e]
    refine Nat.xor_lt_two_pow (cC_of r).2 ?_
    rw [← e]
    exact or_lt8 (sh_lt ht hc) (sh_lt ht hh)
  have hpl : cC r ^^^ (((plR r c ^^^ plR r h) <<< (3 * c)) ||| ((plR r c ^^^ plR r h) <<< (3 * h))) = cC (chg r c h) := by
    refine w8_ext (n := 5) hlt (cC_of _).2 (fun p hp => ?_)
    rw [w8_xor, w8_or, w8_sh ht, w8_sh ht, (cC_of r).1 p hp, (cC_of (chg r c h)).1 p hp, g1 p hp]
    unfold swp
    by_cases q1 : p = c
    · subst q1
      rw [if_pos rfl, if_neg hne, Nat.or_zero, if_pos rfl, ← Nat.xor_assoc, Nat.xor_self, Nat.zero_xor]
    · by_cases q2 : p = h
      · subst q2
        rw [if_neg (fun e => q1 e.symm), if_pos rfl, Nat.zero_or, if_neg q1, if_pos rfl, Nat.xor_comm (plR r c), ← Nat.xor_assoc, Nat.xor_self, Nat.zero_xor]
      · rw [if_neg (fun e => q1 e.symm), if_neg (fun e => q2 e.symm), if_neg q1, if_neg q2]
        simp
  rw [hpl]
  unfold sC
  rw [g2, Nat.or_comm, ← Nat.shiftLeft_add_eq_or_of_lt (by have := (cC_of (chg r c h)).2; exact this), Nat.shiftLeft_eq]
  show (wR r + 1) % 4 * 32768 + _ = _
  omega
