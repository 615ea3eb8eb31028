/-! all orders of few people, as numbers: each pair a digit, the first pair highest -/
def onT (d : Nat) : Nat := [0, 0, 0, 0, 1, 1, 1, 2, 2, 3].getD d 0
def otT (d : Nat) : Nat := [1, 2, 3, 4, 2, 3, 4, 3, 4, 4].getD d 0
def pix (a b : Nat) : Nat := if a = 0 then b - 1 else if a = 1 then b + 2 else if a = 2 then b + 4 else 9
def psum (W x : Nat → Nat) : Nat → Nat
  | 0 => 0
  | d + 1 => psum W x d + x d * W d
theorem psum_congr {W x y : Nat → Nat} : ∀ d, (∀ e, e < d → x e = y e) → psum W x d = psum W y d
  | 0, _ => rfl
  | d + 1, h => by
    show psum W x d + x d * W d = psum W y d + y d * W d
    rw [psum_congr d (fun e he => h e (by omega)), h d (by omega)]
theorem psum_dvd {W R x : Nat → Nat} {D : Nat} (hW : ∀ e, e < D → W e = R (e + 1) * W (e + 1)) : ∀ d, d ≤ D → ∃ q, psum W x (d + 1) = q * W d
  | 0, _ => ⟨x 0, by show 0 + x 0 * W 0 = _; rw [Nat.zero_add]⟩
  | d + 1, h => by
    obtain ⟨q, e⟩ := psum_dvd hW d (by omega)
    refine ⟨q * R (d + 1) + x (d + 1), ?_⟩
    show psum W x (d + 1) + x (d + 1) * W (d + 1) = _
    rw [e, hW d (by omega), Nat.add_mul, Nat.mul_assoc]
theorem psum_dig {W R x : Nat → Nat} {D : Nat} (hW : ∀ e, e < D → W e = R (e + 1) * W (e + 1)) (hp : ∀ e, e ≤ D → 0 < W e) : ∀ d, d ≤ D → (∀ e, e ≤ d → x e < R e) → ∀ c, psum W x (d + 1) ≤ c → c < psum W x (d + 1) + W d → ∀ e, e ≤ d → c / W e % R e = x e
  | 0, _, hx, c, h1, h2, e, he => by
    have : e = 0 := by omega
    subst this
    have h0 := hx 0 (by omega)
    have h3 : psum W x (0 + 1) = x 0 * W 0 := by show 0 + x 0 * W 0 = _; rw [Nat.zero_add]
    rw [h3] at h1 h2
    have h4 : c / W 0 = x 0 := by
      apply Nat.div_eq_of_lt_le
      · exact h1
      · rw [Nat.succ_mul]; exact h2
    rw [h4, Nat.mod_eq_of_lt h0]
  | d + 1, hd, hx, c, h1, h2, e, he => by
    have h3 : psum W x (d + 1 + 1) = psum W x (d + 1) + x (d + 1) * W (d + 1) := rfl
    rw [h3] at h1 h2
    have hr := hx (d + 1) (by omega)
    by_cases q : e = d + 1
    · subst q
      obtain ⟨u, hu⟩ := psum_dvd (x := x) hW d (by omega)
      rw [hW d (by omega), ← Nat.mul_assoc] at hu
      rw [hu, ← Nat.add_mul] at h1 h2
      have h4 : c / W (d + 1) = u * R (d + 1) + x (d + 1) := by
        apply Nat.div_eq_of_lt_le
        · exact h1
        · rw [Nat.succ_mul]; exact h2
      rw [h4, Nat.mul_comm, Nat.mul_add_mod, Nat.mod_eq_of_lt hr]
    · refine psum_dig hW hp d (by omega) (fun e' he' => hx e' (by omega)) c (by omega) ?_ e (by omega)
      have h5 : (x (d + 1) + 1) * W (d + 1) ≤ R (d + 1) * W (d + 1) := Nat.mul_le_mul_right _ (by omega)
      rw [← hW d (by omega), Nat.succ_mul] at h5
      omega
def dv (u : Nat) : Int := if u = 2 then -1 else (u : Int)
/-- how two stand by their digit -/
def bx (x : Nat → Nat) (a b : Nat) : Int := if a = b then 0 else if a < b then dv (x (pix a b)) else - dv (x (pix b a))
def bB (x : Nat → Nat) (a b : Nat) : Bool := if a < b then decide (x (pix a b) = 1) else if b < a then decide (x (pix b a) = 2) else false
theorem bB_self (x : Nat → Nat) (a : Nat) : bB x a a = false := by
  unfold bB; rw [if_neg (by omega), if_neg (by omega)]
theorem btw_bB {x : Nat → Nat} {a b : Nat} (h : ∀ p q, x (pix p q) < 3) : btw (bB x) a b = bx x a b := by
  unfold btw bx bB
  rcases Nat.lt_trichotomy a b with q | q | q
  · have := h a b
    simp only [if_pos q, if_neg (show ¬ b < a by omega), if_neg (show ¬ a = b by omega)]
    generalize x (pix a b) = u at this ⊢
    rcases (show u = 0 ∨ u = 1 ∨ u = 2 by omega) with rfl | rfl | rfl <;> rfl
  · subst q; simp
  · have := h b a
    simp only [if_pos q, if_neg (show ¬ a < b by omega), if_neg (show ¬ a = b by omega)]
    generalize x (pix b a) = u at this ⊢
    rcases (show u = 0 ∨ u = 1 ∨ u = 2 by omega) with rfl | rfl | rfl <;> rfl
def okb (x : Nat → Nat) (d : Nat) : Bool := (List.range (onT d)).all (fun p => canB (bx x (onT d) (otT d)) (bx x p (otT d)) (bx x p (onT d)))
theorem pix_le : ∀ d, d < 10 → onT d < otT d ∧ otT d < 5 ∧ pix (onT d) (otT d) = d ∧ ∀ p, p < onT d → pix p (onT d) < d ∧ pix p (otT d) < d := by decide
theorem pix_inv : ∀ q, q < 5 → ∀ r, r < 5 → q < r → pix q r < 10 ∧ onT (pix q r) = q ∧ otT (pix q r) = r := by decide
theorem bx_congr {x y : Nat → Nat} {a b : Nat} (hab : a < b) (h : x (pix a b) = y (pix a b)) : bx x a b = bx y a b := by
  unfold bx
  rw [if_neg (by omega), if_pos hab, if_neg (by omega), if_pos hab, h]
theorem okb_congr {x y : Nat → Nat} {d : Nat} (hd : d < 10) (h : ∀ e, e ≤ d → x e = y e) : okb x d = okb y d := by
  obtain ⟨h1, h2, h3, h4⟩ := pix_le d hd
  unfold okb
  rw [Bool.eq_iff_iff, List.all_eq_true, List.all_eq_true]
  have key : ∀ p, p < onT d → canB (bx x (onT d) (otT d)) (bx x p (otT d)) (bx x p (onT d)) = canB (bx y (onT d) (otT d)) (bx y p (otT d)) (bx y p (onT d)) := fun p hp => by
    have h5 := h4 p hp
    rw [bx_congr h1 (h _ (by omega)), bx_congr (show p < otT d by omega) (h _ (by omega)), bx_congr hp (h _ (by omega))]
  constructor
  · intro z p hp
    rw [← key p (List.mem_range.mp hp)]; exact z p hp
  · intro z p hp
    rw [key p (List.mem_range.mp hp)]; exact z p hp
/-- the weights: pairs with one who isn't there have but one choice -/
def rd (n d : Nat) : Nat := if otT d < n then 3 else 1
def pwr (n : Nat) : Nat → Nat
  | 0 => 1
  | k + 1 => rd n (9 - k) * pwr n k
def pw (n d : Nat) : Nat := pwr n (9 - d)
def tot (n : Nat) : Nat := rd n 0 * pw n 0
def W4 (d : Nat) : Nat := 4 ^ (9 - d)
theorem rd_le (n d : Nat) : 1 ≤ rd n d ∧ rd n d ≤ 3 := by unfold rd; split <;> omega
theorem pwr_pos (n : Nat) : ∀ k, 0 < pwr n k
  | 0 => by unfold pwr; decide
  | k + 1 => Nat.mul_pos (by have := rd_le n (9 - k); omega) (pwr_pos n k)
theorem pw_pos (n d : Nat) : 0 < pw n d := pwr_pos n _
theorem pw_s {n e : Nat} (h : e < 9) : pw n e = rd n (e + 1) * pw n (e + 1) := by
  unfold pw
  rw [show 9 - e = (9 - (e + 1)) + 1 by omega]
  show rd n (9 - (9 - (e + 1))) * pwr n (9 - (e + 1)) = _
  rw [show 9 - (9 - (e + 1)) = e + 1 by omega]
theorem pw_9 (n : Nat) : pw n 9 = 1 := rfl
theorem W4_s {e : Nat} (h : e < 9) : W4 e = 4 * W4 (e + 1) := by
  unfold W4
  rw [show 9 - e = (9 - (e + 1)) + 1 by omega, Nat.pow_succ, Nat.mul_comm]
def dgt (n c d : Nat) : Nat := c / pw n d % rd n d
theorem dgt_lt (n c d : Nat) : dgt n c d < rd n d := Nat.mod_lt _ (by have := rd_le n d; omega)
theorem dgt_3 (n c d : Nat) : dgt n c d < 3 := by have := dgt_lt n c d; have := rd_le n d; omega
def trb (n c : Nat) : Bool := (List.range 10).all (fun d => okb (dgt n c) d)
def c4 (n c : Nat) : Nat := psum W4 (dgt n c) 10
theorem dgt_eq {n : Nat} {x : Nat → Nat} {d c : Nat} (hd : d < 10) (hx : ∀ e, e ≤ d → x e < rd n e) (h1 : psum (pw n) x (d + 1) ≤ c) (h2 : c < psum (pw n) x (d + 1) + pw n d) : ∀ e, e ≤ d → dgt n c e = x e :=
  psum_dig (D := 9) (fun e he => pw_s he) (fun e _ => pw_pos n e) d (by omega) hx c h1 h2
theorem cnt_skip {p : Nat → Bool} {v : Nat} : ∀ w, (∀ c, v ≤ c → c < v + w → p c = false) → cnt p (v + w) = cnt p v
  | 0, _ => rfl
  | w + 1, h => by
    rw [show v + (w + 1) = (v + w) + 1 by omega, cnt_stp, if_neg (by rw [h (v + w) (by omega) (by omega)]; decide)]
    exact cnt_skip w (fun c h1 h2 => h c h1 (by omega))
theorem cnt_mono {p : Nat → Bool} {a b : Nat} (h : a ≤ b) : cnt p a ≤ cnt p b := by
  induction b with
  | zero => have : a = 0 := by omega
            subst this; exact Nat.le_refl _
  | succ b ih =>
    by_cases q : a = b + 1
    · subst q; exact Nat.le_refl _
    · have := ih (by omega)
      rw [cnt_stp]
      split <;> omega
/-- a code under which the last told pair doesn't go on with the others has no order at all -/
theorem trb_bad {n : Nat} {x : Nat → Nat} {d : Nat} (hd : d < 10) (hx : ∀ e, e ≤ d → x e < rd n e) (hb : okb x d = false) : ∀ c, psum (pw n) x (d + 1) ≤ c → c < psum (pw n) x (d + 1) + pw n d → trb n c = false := by
  intro c h1 h2
  have e := dgt_eq hd hx h1 h2
  cases h : trb n c with
  | false => rfl
  | true =>
    unfold trb at h
    rw [List.all_eq_true] at h
    have := h d (List.mem_range.mpr hd)
    rw [okb_congr hd e, hb] at this
    cases this
theorem trb_good {n : Nat} {x : Nat → Nat} (hx : ∀ e, e ≤ 9 → x e < rd n e) (hb : ∀ d, d ≤ 9 → okb x d = true) : trb n (psum (pw n) x 10) = true ∧ c4 n (psum (pw n) x 10) = psum W4 x 10 := by
  have e := dgt_eq (n := n) (x := x) (d := 9) (c := psum (pw n) x 10) (by omega) hx (Nat.le_refl _) (by have := pw_pos n 9; show psum (pw n) x 10 < psum (pw n) x 10 + pw n 9; omega)
  constructor
  · unfold trb
    rw [List.all_eq_true]
    intro d hd
    have hd := List.mem_range.mp hd
    rw [okb_congr hd (fun e' he' => e e' (by omega))]
    exact hb d (by omega)
  · exact psum_congr 10 (fun e' he' => e e' (by omega))
theorem psum_lt {n : Nat} {x : Nat → Nat} : ∀ d, d < 10 → (∀ e, e ≤ d → x e < rd n e) → psum (pw n) x (d + 1) + pw n d ≤ tot n
  | 0, _, hx => by
    have h := hx 0 (by omega)
    show 0 + x 0 * pw n 0 + pw n 0 ≤ rd n 0 * pw n 0
    rw [Nat.zero_add, ← Nat.succ_mul]
    exact Nat.mul_le_mul_right _ h
  | d + 1, hd, hx => by
    have ih := psum_lt d (by omega) (fun e he => hx e (by omega))
    have h := hx (d + 1) (by omega)
    have h2 : (x (d + 1) + 1) * pw n (d + 1) ≤ rd n (d + 1) * pw n (d + 1) := Nat.mul_le_mul_right _ h
    rw [← pw_s (by omega), Nat.succ_mul] at h2
    show psum (pw n) x (d + 1) + x (d + 1) * pw n (d + 1) + pw n (d + 1) ≤ tot n
    omega
/-- going on in three: what is above goes on -/
theorem tri_c : ∀ u, u < 3 → ∀ v, v < 3 → ∀ w, w < 3 → canB (dv v) (dv w) (dv u) = true → (u = 1 → v = 1 → w = 1) ∧ (w = 1 → v = 2 → u = 1) ∧ (u = 2 → w = 1 → v = 1) ∧ (v = 1 → w = 2 → u = 2) ∧ (v = 2 → u = 2 → w = 2) ∧ (w = 2 → u = 1 → v = 2) := by
  intro u hu v hv w hw
  rcases (show u = 0 ∨ u = 1 ∨ u = 2 by omega) with rfl | rfl | rfl <;> rcases (show v = 0 ∨ v = 1 ∨ v = 2 by omega) with rfl | rfl | rfl <;> rcases (show w = 0 ∨ w = 1 ∨ w = 2 by omega) with rfl | rfl | rfl <;> simp [canB, dv]
theorem tri_d : ∀ u, u < 3 → ∀ v, v < 3 → ∀ w, w < 3 → ((u = 1 → v = 1 → w = 1) ∧ (w = 1 → v = 2 → u = 1) ∧ (u = 2 → w = 1 → v = 1) ∧ (v = 1 → w = 2 → u = 2) ∧ (v = 2 → u = 2 → w = 2) ∧ (w = 2 → u = 1 → v = 2)) → canB (dv v) (dv w) (dv u) = true := by
  intro u hu v hv w hw
  rcases (show u = 0 ∨ u = 1 ∨ u = 2 by omega) with rfl | rfl | rfl <;> rcases (show v = 0 ∨ v = 1 ∨ v = 2 by omega) with rfl | rfl | rfl <;> rcases (show w = 0 ∨ w = 1 ∨ w = 2 by omega) with rfl | rfl | rfl <;> simp [canB, dv]
def trans (n : Nat) (B : Nat → Nat → Bool) : Prop := ∀ a, a < n → ∀ b, b < n → ∀ c, c < n → B a b = true → B b c = true → B a c = true
theorem bx_lt {x : Nat → Nat} {a b : Nat} (h : a < b) : bx x a b = dv (x (pix a b)) := by unfold bx; rw [if_neg (by omega), if_pos h]
theorem bB_lt {x : Nat → Nat} {a b : Nat} (h : a < b) : bB x a b = true ↔ x (pix a b) = 1 := by unfold bB; rw [if_pos h, decide_eq_true_eq]
theorem bB_gt {x : Nat → Nat} {a b : Nat} (h : b < a) : bB x a b = true ↔ x (pix b a) = 2 := by unfold bB; rw [if_neg (by omega), if_pos h, decide_eq_true_eq]
theorem ok_trans {x : Nat → Nat} (hx : ∀ p q, x (pix p q) < 3) (h : ∀ d, d < 10 → okb x d = true) : trans 5 (bB x) := by
  have G : ∀ p q r, p < q → q < r → r < 5 → _ := fun p q r h1 h2 h3 => by
    obtain ⟨e1, e2, e3⟩ := pix_inv q (by omega) r h3 h2
    have := h _ e1
    unfold okb at this
    rw [List.all_eq_true] at this
    have := this p (List.mem_range.mpr (by rw [e2]; exact h1))
    rw [e2, e3, bx_lt h2, bx_lt (show p < r by omega), bx_lt h1] at this
    exact tri_c _ (hx p q) _ (hx q r) _ (hx p r) this
  intro a ha b hb c hc h1 h2
  rcases Nat.lt_trichotomy a b with q1 | q1 | q1
  · rcases Nat.lt_trichotomy b c with q2 | q2 | q2
    · obtain ⟨g1, g2, g3, g4, g5, g6⟩ := G a b c q1 q2 hc
      rw [bB_lt q1] at h1; rw [bB_lt q2] at h2; rw [bB_lt (by omega)]
      exact g1 h1 h2
    · subst q2; rw [bB_self] at h2; cases h2
    · rcases Nat.lt_trichotomy a c with q3 | q3 | q3
      · obtain ⟨g1, g2, g3, g4, g5, g6⟩ := G a c b q3 q2 hb
        rw [bB_lt q1] at h1; rw [bB_gt q2] at h2; rw [bB_lt q3]
        exact g2 h1 h2
      · subst q3
        rw [bB_lt q1] at h1; rw [bB_gt q2] at h2; omega
      · obtain ⟨g1, g2, g3, g4, g5, g6⟩ := G c a b q3 q1 hb
        rw [bB_lt q1] at h1; rw [bB_gt q2] at h2; rw [bB_gt q3]
        exact g4 h1 h2
  · subst q1; rw [bB_self] at h1; cases h1
  · rcases Nat.lt_trichotomy b c with q2 | q2 | q2
    · rcases Nat.lt_trichotomy a c with q3 | q3 | q3
      · obtain ⟨g1, g2, g3, g4, g5, g6⟩ := G b a c q1 q3 hc
        rw [bB_gt q1] at h1; rw [bB_lt q2] at h2; rw [bB_lt q3]
        exact g3 h1 h2
      · subst q3
        rw [bB_gt q1] at h1; rw [bB_lt q2] at h2; omega
      · obtain ⟨g1, g2, g3, g4, g5, g6⟩ := G b c a q2 q3 ha
        rw [bB_gt q1] at h1; rw [bB_lt q2] at h2; rw [bB_gt q3]
        exact g6 h1 h2
    · subst q2; rw [bB_self] at h2; cases h2
    · obtain ⟨g1, g2, g3, g4, g5, g6⟩ := G c b a q2 q1 ha
      rw [bB_gt q1] at h1; rw [bB_gt q2] at h2; rw [bB_gt (by omega)]
      exact g5 h1 h2
theorem trans_ok {x : Nat → Nat} (hx : ∀ p q, x (pix p q) < 3) (h : trans 5 (bB x)) : ∀ d, d < 10 → okb x d = true := by
  intro d hd
  obtain ⟨h1, h2, h3, h4⟩ := pix_le d hd
  unfold okb
  rw [List.all_eq_true]
  intro p hp
  have hp := List.mem_range.mp hp
  rw [bx_lt h1, bx_lt (show p < otT d by omega), bx_lt hp]
  have hq : otT d < 5 := h2
  generalize onT d = q at h1 hp ⊢
  generalize otT d = r at h1 hq ⊢
  refine tri_d _ (hx p q) _ (hx q r) _ (hx p r) ⟨fun z1 z2 => ?_, fun z1 z2 => ?_, fun z1 z2 => ?_, fun z1 z2 => ?_, fun z1 z2 => ?_, fun z1 z2 => ?_⟩
  · exact (bB_lt (by omega)).mp (h p (by omega) q (by omega) r hq ((bB_lt hp).mpr z1) ((bB_lt h1).mpr z2))
  · exact (bB_lt hp).mp (h p (by omega) r (by omega) q (by omega) ((bB_lt (by omega)).mpr z1) ((bB_gt h1).mpr z2))
  · exact (bB_lt h1).mp (h q (by omega) p (by omega) r (by omega) ((bB_gt hp).mpr z1) ((bB_lt (by omega)).mpr z2))
  · exact (bB_gt hp).mp (h q (by omega) r (by omega) p (by omega) ((bB_lt h1).mpr z1) ((bB_gt (by omega)).mpr z2))
  · exact (bB_gt (show p < r by omega)).mp (h r (by omega) q (by omega) p (by omega) ((bB_gt h1).mpr z1) ((bB_gt hp).mpr z2))
  · exact (bB_gt h1).mp (h r (by omega) p (by omega) q (by omega) ((bB_gt (by omega)).mpr z1) ((bB_lt hp).mpr z2))
/-- those who aren't there stand by nobody -/
theorem bB_off {n c a b : Nat} (ha : a < 5) (hb : b < 5) (h : n ≤ a ∨ n ≤ b) : bB (dgt n c) a b = false := by
  have key : ∀ q, q < 5 → ∀ r, r < 5 → q < r → n ≤ r → dgt n c (pix q r) = 0 := fun q hq r hr hqr hn => by
    obtain ⟨_, _, e3⟩ := pix_inv q hq r hr hqr
    have := dgt_lt n c (pix q r)
    unfold rd at this
    rw [e3, if_neg (by omega)] at this
    omega
  unfold bB
  rcases Nat.lt_trichotomy a b with q | q | q
  · rw [if_pos q, key a ha b hb q (by omega)]; rfl
  · rw [if_neg (by omega), if_neg (by omega)]
  · rw [if_neg (by omega), if_pos q, key b hb a ha q (by omega)]; rfl
theorem trb_iff {n c : Nat} (hn : n ≤ 5) : trb n c = true ↔ trans n (bB (dgt n c)) := by
  have hx : ∀ p q, dgt n c (pix p q) < 3 := fun p q => dgt_3 _ _ _
  unfold trb
  rw [List.all_eq_true]
  constructor
  · intro h a ha b hb d hd
    exact ok_trans hx (fun d hd => h d (List.mem_range.mpr hd)) a (by omega) b (by omega) d (by omega)
  · intro h d hd
    refine trans_ok hx (fun a ha b hb d hd h1 h2 => ?_) d (List.mem_range.mp hd)
    by_cases q1 : a < n
    · by_cases q2 : b < n
      · by_cases q3 : d < n
        · exact h a q1 b q2 d q3 h1 h2
        · rw [bB_off hb hd (Or.inr (by omega))] at h2; cases h2
      · rw [bB_off ha hb (Or.inr (by omega))] at h1; cases h1
    · rw [bB_off ha hb (Or.inl (by omega))] at h1; cases h1
