/-! what is RIGHT: the row by the values of the parts -/
theorem evl_bd {C N : Nat → Int} (hN : ∀ i, i < 8 → -1000000000000 ≤ N i ∧ N i ≤ 1000000000000) : ∀ (n i : Nat) (st st' : List Int) (d : Nat), bdd st → wfc C i n st.length = some d → evl C N i n st = some st' → bdd st'
  | 0, i, st, st', d, hb, hw, he => by
    have he : some st = some st' := he
    cases he; exact hb
  | n + 1, i, st, st', d, hb, hw, he => by
    obtain ⟨d', hd, hw'⟩ := wfc_s hw
    cases hs : sk N (C i) st with
    | none => rw [evl_none hs] at he; cases he
    | some st1 =>
      rw [evl_some hs] at he
      exact evl_bd hN n (i + 1) st1 st' d (sk_bd hN hd hb hs) (by rw [sk_len hd hs]; exact hw') he
def rvv (C : Nat → Int) (B E : Nat → Nat) (j : Nat) (N : Nat → Int) : Option Int := rv (evl C N (B j) (E j - B j) [])
theorem rvv_bd {C : Nat → Int} {B E : Nat → Nat} {j : Nat} {N : Nat → Int} {v : Int} (hN : ∀ i, i < 8 → -1000000000000 ≤ N i ∧ N i ≤ 1000000000000) (hw : wfc C (B j) (E j - B j) 0 = some 1) (h : rvv C B E j N = some v) : -1000000000000 ≤ v ∧ v ≤ 1000000000000 := by
  unfold rvv rv at h
  cases he : evl C N (B j) (E j - B j) [] with
  | none => rw [he] at h; cases h
  | some st =>
    have hb := evl_bd hN _ _ [] st 1 (fun x hx => by cases hx) hw he
    rw [he] at h
    match st, h with
    | x :: st', h => cases h; exact bdd_h hb
def Wt (C : Nat → Int) (B E : Nat → Nat) (N : Nat → Int) (p : Nat) : Int := match rvv C B E p N with | some v => v | none => 0
/-- a formula as it is told: where it lies, and that it can be worked out -/
def fok (C : Nat → Int) (B E : Nat → Nat) (j : Nat) : Prop := B j ≤ E j ∧ E j ≤ 64 ∧ wfc C (B j) (E j - B j) 0 = some 1
def Nok (N : Nat → Int) : Prop := ∀ i, i < 8 → -1000000000000 ≤ N i ∧ N i ≤ 1000000000000
def bef (W : Nat → Int) (a b : Nat) : Bool := decide (W a < W b) || (decide (W a = W b) && decide (a < b))
theorem bef_irr (W : Nat → Int) (a : Nat) : bef W a a = false := by simp [bef]
theorem bef_tr {W : Nat → Int} {a b c : Nat} (h1 : bef W a b = true) (h2 : bef W b c = true) : bef W a c = true := by
  simp only [bef, Bool.or_eq_true, Bool.and_eq_true, decide_eq_true_eq] at h1 h2 ⊢
  omega
theorem bef_tot {W : Nat → Int} {a b : Nat} (h : a ≠ b) : bef W a b = true ∨ bef W b a = true := by
  simp only [bef, Bool.or_eq_true, Bool.and_eq_true, decide_eq_true_eq]
  omega
theorem bef_asy {W : Nat → Int} {a b : Nat} (h : bef W a b = true) : bef W b a = false := by
  cases hb : bef W b a with
  | false => rfl
  | true => have := bef_tr h hb; rw [bef_irr] at this; cases this
def rk (W : Nat → Int) (n p : Nat) : Nat := cnt (fun o => bef W o p) n
theorem rk_lt_of {W : Nat → Int} {n p q : Nat} (hp : p < n) (h : bef W p q = true) : rk W n p < rk W n q := by
  refine cnt_lt hp (bef_irr W p) h (fun j _ hj => bef_tr hj h)
theorem rk_lt {W : Nat → Int} {n p : Nat} (hp : p < n) : rk W n p < n := by
  have h1 : rk W n p < cnt (fun _ => true) n := cnt_lt hp (bef_irr W p) rfl (fun _ _ _ => rfl)
  have h2 := cnt_le (fun _ => true) n
  omega
theorem rk_inj {W : Nat → Int} {n p q : Nat} (hp : p < n) (hq : q < n) (e : rk W n p = rk W n q) : p = q := by
  by_cases h : p = q
  · exact h
  · rcases bef_tot (W := W) h with z | z
    · have := rk_lt_of hp z; omega
    · have := rk_lt_of hq z; omega
def crow (W : Nat → Int) (n : Nat) : Nat → Nat
  | 0 => 0
  | m + 1 => crow W n m ||| (m <<< (3 * rk W n m))
theorem w8_or (a b k : Nat) : w8 (a ||| b) k = w8 a k ||| w8 b k := by
  unfold w8
  rw [Nat.shiftRight_or_distrib, Nat.and_or_distrib_right]
theorem w8_sh {p j k : Nat} (hp : p < 8) : w8 (p <<< (3 * j)) k = if j = k then p else 0 := by
  apply Nat.eq_of_testBit_eq
  intro i
  unfold w8
  rw [Nat.testBit_and, Nat.testBit_shiftRight, Nat.testBit_shiftLeft]
  have h7 : Nat.testBit 7 i = decide (i < 3) := by
    by_cases h : i < 3
    · rcases (show i = 0 ∨ i = 1 ∨ i = 2 by omega) with rfl | rfl | rfl <;> decide
    · rw [decide_eq_false h]
      apply Nat.testBit_lt_two_pow
      have : 2 ^ 3 ≤ 2 ^ i := Nat.pow_le_pow_right (by decide) (by omega)
      omega
  have hbig : ∀ m, 3 ≤ m → p.testBit m = false := by
    intro m hm
    apply Nat.testBit_lt_two_pow
    have : 2 ^ 3 ≤ 2 ^ m := Nat.pow_le_pow_right (by decide) hm
    omega
  rw [h7]
  by_cases e : j = k
  · subst e
    rw [if_pos rfl, show 3 * j + i - 3 * j = i by omega, decide_eq_true (show 3 * j + i ≥ 3 * j by omega)]
    by_cases h : i < 3
    · simp [h]
    · simp [h, hbig i (by omega)]
  · rw [if_neg e, Nat.zero_testBit]
    by_cases h : i < 3
    · by_cases h2 : 3 * k + i ≥ 3 * j
      · rw [hbig (3 * k + i - 3 * j) (by omega)]; simp
      · simp [h2]
    · simp [h]
theorem sh_lt {p j n : Nat} (hp : p < 8) (hj : j < n) : p <<< (3 * j) < 8 ^ n := by
  rw [Nat.shiftLeft_eq, Nat.pow_mul]
  have h1 : 8 ^ (j + 1) ≤ 8 ^ n := p8_mono hj
  have h2 : p * 8 ^ j < 8 * 8 ^ j := Nat.mul_lt_mul_of_pos_right hp (Nat.pow_pos (by decide))
  rw [Nat.pow_succ] at h1
  show p * 8 ^ j < _
  omega
theorem or_lt8 {a b n : Nat} (ha : a < 8 ^ n) (hb : b < 8 ^ n) : a ||| b < 8 ^ n := by
  rw [show (8 : Nat) = 2 ^ 3 from rfl, ← Nat.pow_mul] at ha hb ⊢
  exact Nat.or_lt_two_pow ha hb
theorem crow_w {W : Nat → Int} {n k : Nat} (hn : n < 6) : ∀ m, m ≤ n → (∀ q, q < m → rk W n q = k → w8 (crow W n m) k = q) ∧ ((∀ q, q < m → rk W n q ≠ k) → w8 (crow W n m) k = 0) ∧ crow W n m < 8 ^ n
  | 0, _ => ⟨fun q hq => by omega, fun _ => by unfold crow w8; simp, Nat.pow_pos (by decide)⟩
  | m + 1, hm => by
    obtain ⟨h1, h2, h3⟩ := crow_w (k := k) hn m (by omega)
    have hs := w8_sh (p := m) (j := rk W n m) (k := k) (by omega)
    have hr := rk_lt (W := W) (show m < n by omega)
    refine ⟨fun q hq e => ?_, fun h => ?_, ?_⟩
    · unfold crow
      rw [w8_or, hs]
      by_cases z : q = m
      · subst z
        rw [if_pos e, h2 (fun q' hq' e' => by have := rk_inj (W := W) (n := n) (show q' < n by omega) (by omega) (e'.trans e.symm); omega), Nat.zero_or]
      · rw [if_neg (fun e' => z (rk_inj (W := W) (n := n) (by omega) (by omega) (e.trans e'.symm))), h1 q (by omega) e, Nat.or_zero]
    · unfold crow
      rw [w8_or, hs, if_neg (h m (by omega)), h2 (fun q hq => h q (by omega))]
      rfl
    · unfold crow
      exact or_lt8 h3 (sh_lt (by omega) hr)
theorem w8_ext {a b n : Nat} (ha : a < 8 ^ n) (hb : b < 8 ^ n) (h : ∀ k, k < n → w8 a k = w8 b k) : a = b := by
  apply Nat.eq_of_testBit_eq
  intro i
  by_cases hi : i / 3 < n
  · have e := congrArg (fun x => x.testBit (i % 3)) (h (i / 3) hi)
    simp only [w8, Nat.testBit_and, Nat.testBit_shiftRight] at e
    have h7 : Nat.testBit 7 (i % 3) = true := by
      rcases (show i % 3 = 0 ∨ i % 3 = 1 ∨ i % 3 = 2 by omega) with q | q | q <;> rw [q] <;> decide
    rw [h7, Bool.and_true, Bool.and_true, show 3 * (i / 3) + i % 3 = i by omega] at e
    exact e
  · have big : ∀ x, x < 8 ^ n → x.testBit i = false := by
      intro x hx
      apply Nat.testBit_lt_two_pow
      have : (2 : Nat) ^ (3 * n) ≤ 2 ^ i := Nat.pow_le_pow_right (by decide) (by omega)
      rw [Nat.pow_mul] at this
      exact Nat.lt_of_lt_of_le hx this
    rw [big a ha, big b hb]
theorem pm_of {n r : Nat} (hn : n < 6) (hr : r < 8 ^ n) (h1 : ∀ k, k < n → w8 r k < n) (h2 : ∀ j k, j < k → k < n → w8 r j ≠ w8 r k) : pm n r := by
  refine ⟨List.all_eq_true.mpr (fun k hk => ?_), hr, hn⟩
  have hk := List.mem_range.mp hk
  simp only [Bool.and_eq_true, decide_eq_true_eq]
  refine ⟨h1 k hk, List.all_eq_true.mpr (fun j hj => ?_)⟩
  simp only [Bool.not_eq_true', beq_eq_false_iff_ne]
  exact h2 j k (List.mem_range.mp hj) hk
/-- sorted rows of parts -/
def srt (W : Nat → Int) (n : Nat) (o : Nat → Nat) : Prop := (∀ j, j < n → o j < n) ∧ (∀ i j, i < j → j < n → bef W (o i) (o j) = true) ∧ ∀ x, x < n → ∃ j, j < n ∧ o j = x
theorem srt_rk {W : Nat → Int} {n : Nat} {o : Nat → Nat} (h : srt W n o) {k : Nat} (hk : k < n) : rk W n (o k) = k := by
  obtain ⟨h1, h2, h3⟩ := h
  have hinj : ∀ i j, i < n → j < n → o i = o j → i = j := by
    intro i j hi hj e
    rcases Nat.lt_trichotomy i j with q | q | q
    · have := h2 i j q hj; rw [e, bef_irr] at this; cases this
    · exact q
    · have := h2 j i q hi; rw [e, bef_irr] at this; cases this
  have hp : ((List.range n).map o).Perm (List.range n) := by
    apply (List.perm_ext_iff_of_nodup ?_ List.nodup_range).mpr
    · intro a
      rw [List.mem_map, List.mem_range]
      constructor
      · rintro ⟨j, hj, rfl⟩; exact h1 j (List.mem_range.mp hj)
      · intro ha
        obtain ⟨j, hj, e⟩ := h3 a ha
        exact ⟨j, List.mem_range.mpr hj, e⟩
    · rw [List.nodup_iff_pairwise_ne, List.pairwise_map]
      have hr : (List.range n).Pairwise (· ≠ ·) := List.nodup_iff_pairwise_ne.mp List.nodup_range
      exact hr.imp_of_mem (fun ha hb hne e => hne (hinj _ _ (List.mem_range.mp ha) (List.mem_range.mp hb) e))
  unfold rk
  rw [cnt_sm, sm_list, ← ((hp.map (fun i => (bef W i (o k)).toNat)).sum_nat), List.map_map, ← sm_list]
  have e : sm ((fun i => (bef W i (o k)).toNat) ∘ o) n = sm (fun j => (decide (j < k)).toNat) n := by
    refine sm_congr (fun j hj => ?_)
    show (bef W (o j) (o k)).toNat = _
    rcases Nat.lt_trichotomy j k with q | q | q
    · rw [h2 j k q hk, decide_eq_true q]
    · subst q; rw [bef_irr, decide_eq_false (by omega)]
    · rw [bef_asy (h2 k j q hj), decide_eq_false (by omega)]
  rw [e]
  have key : ∀ m, k ≤ m → sm (fun j => (decide (j < k)).toNat) m = k := by
    intro m
    induction m with
    | zero => intro h; have : k = 0 := by omega
              subst this; rfl
    | succ m ih =>
      intro hm
      unfold sm
      by_cases q : k ≤ m
      · rw [ih q, decide_eq_false (by omega)]; rfl
      · have e2 : sm (fun j => (decide (j < k)).toNat) m = m := by
          have : ∀ m', m' ≤ m → sm (fun j => (decide (j < k)).toNat) m' = m' := by
            intro m'
            induction m' with
            | zero => intro _; rfl
            | succ m' ih' =>
              intro h
              unfold sm
              rw [ih' (by omega), decide_eq_true (by omega)]; rfl
          exact this m (Nat.le_refl m)
        rw [e2, decide_eq_true (by omega)]
        show m + 1 = k
        omega
  exact key n (by omega)
def orow (o : Nat → Nat) : Nat → Nat
  | 0 => 0
  | k + 1 => orow o k ||| (o k <<< (3 * k))
theorem orow_w {o : Nat → Nat} {n : Nat} (ho : ∀ j, j < n → o j < 8) : ∀ m, m ≤ n → (∀ k, w8 (orow o m) k = if k < m then o k else 0) ∧ orow o m < 8 ^ m
  | 0, _ => ⟨fun k => by unfold orow w8; simp, by unfold orow; decide⟩
  | m + 1, hm => by
    obtain ⟨h1, h2⟩ := orow_w ho m (by omega)
    have hm8 := ho m (by omega)
    refine ⟨fun k => ?_, ?_⟩
    · unfold orow
      rw [w8_or, h1, w8_sh hm8]
      by_cases e : m = k
      · subst e; rw [if_neg (by omega), if_pos rfl, if_pos (by omega), Nat.zero_or]
      · rw [if_neg e, Nat.or_zero]
        by_cases q : k < m
        · rw [if_pos q, if_pos (by omega)]
        · rw [if_neg q, if_neg (by omega)]
    · unfold orow
      exact or_lt8 (Nat.lt_of_lt_of_le h2 (p8_mono (by omega))) (sh_lt hm8 (by omega))
theorem orow_crow {W : Nat → Int} {n : Nat} {o : Nat → Nat} (hn : n < 6) (h : srt W n o) : orow o n = crow W n n := by
  obtain ⟨a1, a2⟩ := orow_w (o := o) (n := n) (fun j hj => by have := h.1 j hj; omega) n (Nat.le_refl n)
  refine w8_ext a2 (crow_w (k := 0) hn n (Nat.le_refl n)).2.2 (fun k hk => ?_)
  rw [a1 k, if_pos hk, (crow_w (k := k) hn n (Nat.le_refl n)).1 (o k) (h.1 k hk) (srt_rk h hk)]
theorem crow_at {W : Nat → Int} {n q : Nat} (hn : n < 6) (hq : q < n) : w8 (crow W n n) (rk W n q) = q := (crow_w (k := rk W n q) hn n (Nat.le_refl n)).1 q hq rfl
