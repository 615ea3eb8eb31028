/-! TOKENS: what stands at a place of the tape -/
def isB (x : Int) : Bool := decide (x = 10 ∨ x = 32)
def isL (x : Int) : Bool := decide (97 ≤ x ∧ x ≤ 122)
def isD (x : Int) : Bool := decide (48 ≤ x ∧ x ≤ 57)
def runF (P : Int → Bool) (t : Nat → Int) (n : Nat) : Nat → Nat → Nat
  | 0, c => c
  | f + 1, c => if c < n ∧ P (t c) = true then runF P t n f (c + 1) else c
def runE (P : Int → Bool) (t : Nat → Int) (n c : Nat) : Nat := runF P t n (n - c) c
theorem runE_y {P : Int → Bool} {t : Nat → Int} {n c : Nat} (h : c < n) (hp : P (t c) = true) : runE P t n c = runE P t n (c + 1) := by
  unfold runE
  rw [show n - c = (n - (c + 1)) + 1 by omega]
  exact if_pos ⟨h, hp⟩
theorem runE_n {P : Int → Bool} {t : Nat → Int} {n c : Nat} (h : ¬ (c < n ∧ P (t c) = true)) : runE P t n c = c := by
  unfold runE
  cases hf : n - c with
  | zero => rfl
  | succ f => exact if_neg h
theorem runF_p {P : Int → Bool} {t : Nat → Int} {n : Nat} : ∀ f c, c ≤ runF P t n f c ∧ (c ≤ n → runF P t n f c ≤ n) ∧ (∀ j, c ≤ j → j < runF P t n f c → P (t j) = true) ∧ (n - c ≤ f → ¬ (runF P t n f c < n ∧ P (t (runF P t n f c)) = true))
  | 0, c => ⟨Nat.le_refl c, fun h => h, fun j h1 h2 => by have h2 : j < c := h2; omega, fun h hc => by have hc : c < n ∧ _ := hc; omega⟩
  | f + 1, c => by
    by_cases q : c < n ∧ P (t c) = true
    · have e : runF P t n (f + 1) c = runF P t n f (c + 1) := if_pos q
      rw [e]
      obtain ⟨h1, h2, h3, h4⟩ := runF_p (P := P) (t := t) (n := n) f (c + 1)
      refine ⟨by omega, fun _ => h2 (by omega), fun j hj1 hj2 => ?_, fun h => h4 (by omega)⟩
      by_cases z : j = c
      · subst z; exact q.2
      · exact h3 j (by omega) hj2
    · have e : runF P t n (f + 1) c = c := if_neg q
      rw [e]
      exact ⟨Nat.le_refl c, fun h => h, fun j h1 h2 => by omega, fun _ => q⟩
theorem runE_p (P : Int → Bool) (t : Nat → Int) (n c : Nat) : c ≤ runE P t n c ∧ (c ≤ n → runE P t n c ≤ n) ∧ (∀ j, c ≤ j → j < runE P t n c → P (t j) = true) ∧ ¬ (runE P t n c < n ∧ P (t (runE P t n c)) = true) := by
  obtain ⟨h1, h2, h3, h4⟩ := runF_p (P := P) (t := t) (n := n) (n - c) c
  exact ⟨h1, h2, h3, h4 (Nat.le_refl _)⟩
def lgw : List Nat := [542723566, 36165792, 408622464, 538529792, 642829806, 614044672, 316669952, 522190848, 48365568, 486146048, 273729714, 679654560, 83501056, 180491840, 516030464, 680956928, 643176448, 236453888]
def wdx (v : Nat) : Int := fst1 (fun w => lgw.getD w 0 == v) 18 0
def pkN (t : Nat → Int) (p : Nat) : Nat → Nat
  | 0 => 0
  | k + 1 => pkN t p k * 32 + (t (p + k) - 96).toNat
def nmN (t : Nat → Int) (p e : Nat) : Nat := pkN t p (e - p) * 32 ^ (6 - (e - p))
def dgN (t : Nat → Int) (p : Nat) : Nat → Nat
  | 0 => 0
  | k + 1 => min (dgN t p k * 10 + (t (p + k) - 48).toNat) 10000
def isS (x : Int) : Bool := decide (x = 59 ∨ x = 40 ∨ x = 41 ∨ x = 43 ∨ x = 45 ∨ x = 42 ∨ x = 47 ∨ x = 60 ∨ x = 61 ∨ x = 62)
def sgV (x y : Int) : Int := if x = 60 ∧ y = 61 then 256 else if x = 60 ∧ y = 62 then 257 else if x = 62 ∧ y = 61 then 258 else x
def nxb (t : Nat → Int) (n p : Nat) : Int := if p + 1 < n then t (p + 1) else -1
/-- the place, the end, the sort (0 a word of the language, 1 a name, 2 a number, 3 a sign, 4 the end, 5 none) and the value of the TOKEN behind c -/
def tkP (t : Nat → Int) (n c : Nat) : Nat := runE isB t n c
def tkE (t : Nat → Int) (n c : Nat) : Nat :=
  if n ≤ tkP t n c then tkP t n c else if isL (t (tkP t n c)) = true then runE isL t n (tkP t n c) else if isD (t (tkP t n c)) = true then runE isD t n (tkP t n c)
  else if 256 ≤ sgV (t (tkP t n c)) (nxb t n (tkP t n c)) then tkP t n c + 2 else tkP t n c + 1
def tkS (t : Nat → Int) (n c : Nat) : Nat :=
  if n ≤ tkP t n c then 4 else if isL (t (tkP t n c)) = true then (if tkE t n c - tkP t n c ≤ 6 then (if wdx (nmN t (tkP t n c) (tkE t n c)) = -1 then 1 else 0) else 5) else if isD (t (tkP t n c)) = true then 2
  else if isS (t (tkP t n c)) = true then 3 else 5
def tkV (t : Nat → Int) (n c : Nat) : Int :=
  if n ≤ tkP t n c then 0 else if isL (t (tkP t n c)) = true then (if wdx (nmN t (tkP t n c) (tkE t n c)) = -1 then (nmN t (tkP t n c) (tkE t n c) : Int) else wdx (nmN t (tkP t n c) (tkE t n c))) else if isD (t (tkP t n c)) = true then (dgN t (tkP t n c) (tkE t n c - tkP t n c) : Int)
  else sgV (t (tkP t n c)) (nxb t n (tkP t n c))
theorem isL_of {x : Int} : isL x = true ↔ 97 ≤ x ∧ x ≤ 122 := by unfold isL; rw [decide_eq_true_eq]
theorem isD_of {x : Int} : isD x = true ↔ 48 ≤ x ∧ x ≤ 57 := by unfold isD; rw [decide_eq_true_eq]
theorem isB_of {x : Int} : isB x = true ↔ x = 10 ∨ x = 32 := by unfold isB; rw [decide_eq_true_eq]
theorem tkP_p (t : Nat → Int) (n c : Nat) : c ≤ tkP t n c ∧ (c ≤ n → tkP t n c ≤ n) := ⟨(runE_p isB t n c).1, (runE_p isB t n c).2.1⟩
def bys (t : Nat → Int) (n : Nat) : Prop := ∀ j, j < n → 0 ≤ t j ∧ t j ≤ 255
theorem tkE_p {t : Nat → Int} {n c : Nat} (hb : bys t n) (hc : c ≤ n) : tkP t n c ≤ tkE t n c ∧ tkE t n c ≤ n ∧ (tkP t n c < n → tkP t n c < tkE t n c) := by
  have h1 := (tkP_p t n c).2 hc
  unfold tkE
  by_cases q : n ≤ tkP t n c
  · rw [if_pos q]; omega
  · rw [if_neg q]
    have hlt : tkP t n c < n := by omega
    by_cases q1 : isL (t (tkP t n c)) = true
    · rw [if_pos q1, runE_y hlt q1]
      obtain ⟨a1, a2, _, _⟩ := runE_p isL t n (tkP t n c + 1)
      have := a2 (by omega)
      omega
    · rw [if_neg q1]
      by_cases q2 : isD (t (tkP t n c)) = true
      · rw [if_pos q2, runE_y hlt q2]
        obtain ⟨a1, a2, _, _⟩ := runE_p isD t n (tkP t n c + 1)
        have := a2 (by omega)
        omega
      · rw [if_neg q2]
        by_cases q3 : 256 ≤ sgV (t (tkP t n c)) (nxb t n (tkP t n c))
        · rw [if_pos q3]
          have : tkP t n c + 1 < n := by
            rcases Nat.lt_or_ge (tkP t n c + 1) n with z | z
            · exact z
            · exfalso
              have e : nxb t n (tkP t n c) = -1 := if_neg (by omega)
              rw [e] at q3
              unfold sgV at q3
              rw [if_neg (by omega), if_neg (by omega), if_neg (by omega)] at q3
              have := hb _ hlt
              omega
          omega
        · rw [if_neg q3]; omega
theorem pkN_lt {t : Nat → Int} {p k : Nat} (h : ∀ j, j < k → isL (t (p + j)) = true) : ∀ i, i ≤ k → pkN t p i < 32 ^ i
  | 0, _ => by unfold pkN; decide
  | i + 1, hi => by
    have ih := pkN_lt h i (by omega)
    have := isL_of.mp (h i (by omega))
    unfold pkN
    rw [Nat.pow_succ]
    omega
/-- a number as each side keeps it: exact up to 9999, else only that it is above -/
def NRl (v : Int) (k : Nat) : Prop := 0 ≤ v ∧ v ≤ 100000 ∧ k ≤ 10000 ∧ (v ≤ 9999 → v = (k : Int)) ∧ (9999 < v → k = 10000)
theorem NRl_c {v d : Int} {k : Nat} (h : NRl v k) (hd : 0 ≤ d ∧ d ≤ 9) : NRl (if 100000 < v * 10 + d then 100000 else v * 10 + d) (min (k * 10 + d.toNat) 10000) := by
  obtain ⟨h1, h2, h3, h4, h5⟩ := h
  unfold NRl
  rcases Int.lt_or_le v 10000 with z | z
  · have := h4 (by omega)
    split <;> omega
  · have := h5 (by omega)
    split <;> omega
theorem NRl_r {v d : Int} {k : Nat} (h : NRl v k) (hd : 0 ≤ d ∧ d ≤ 9) : NRl (if 9999 < v then v else 10 * v + d) (min (k * 10 + d.toNat) 10000) := by
  obtain ⟨h1, h2, h3, h4, h5⟩ := h
  unfold NRl
  rcases Int.lt_or_le v 10000 with z | z
  · have := h4 (by omega)
    rw [if_neg (by omega)]
    omega
  · have := h5 (by omega)
    rw [if_pos (by omega)]
    omega
/-! the class's Reader: its TOKENS -/
def TCm (M : Mem) (t : Nat → Int) (n : Nat) : Prop := M 2 12 = (n : Int) ∧ n ≤ 700 ∧ (∀ j, j < n → M 1 j = t j) ∧ bys t n ∧ ∀ w, w < 18 → M 3 w = (lgw.getD w 0 : Int)
def rdset (k j : Nat) : Prop := k = 2 ∧ 13 ≤ j ∧ j ≤ 17
theorem TCm.fp {M M' : Mem} {t : Nat → Int} {n : Nat} {q : Nat → Nat → Prop} (h : TCm M t n) (hF : Fp q M M') (hq : ∀ k j, q k j → (k ≠ 1 ∧ k ≠ 3) ∧ ¬ (k = 2 ∧ j = 12)) : TCm M' t n := by
  unfold TCm
  rw [hF 2 12 (fun hc => (hq _ _ hc).2 ⟨rfl, rfl⟩), hF.row (k := 1) (fun j hc => (hq _ _ hc).1.1 rfl), hF.row (k := 3) (fun j hc => (hq _ _ hc).1.2 rfl)]
  exact h
def kwd (w : Int) : Int := if w = 7 then 10010 else if w = 8 then 10011 else if w = 9 then 10012 else if w < 10 then -1 else 10000 + w - 10
def ksg (v : Int) : Int := if v = 40 then 10030 else if v = 41 then 10031 else if v = 42 then 10021 else if v = 43 then 10019 else if v = 45 then 10020 else if v = 47 then 10022 else if v = 59 then 10032 else if v = 60 then 10013 else if v = 61 then 10015 else if v = 62 then 10018 else if v = 256 then 10014 else if v = 257 then 10016 else if v = 258 then 10017 else -1
theorem s_isBlank {x : Int} {M : Mem} {P : Int → Mem → Prop} (h : P (bi (isB x = true)) M) : CI m7_isBlank 1 [(0, x)] M P := by
  apply q_7_isBlank
  refine ⟨fun q => ?_, fun q => ⟨fun q1 => ?_, fun q1 => ?_⟩⟩
  · rwa [bi_t (isB_of.mpr (Or.inl q))] at h
  · rwa [bi_f (fun z => by have := isB_of.mp z; omega)] at h
  · rwa [bi_t (isB_of.mpr (Or.inr q1))] at h
theorem s_isLetter {x : Int} {M : Mem} {P : Int → Mem → Prop} (h : P (bi (isL x = true)) M) : CI m7_isLetter 1 [(0, x)] M P := by
  apply q_7_isLetter
  refine ⟨fun q => ?_, fun q => ⟨fun q1 => ?_, fun q1 => ?_⟩⟩
  · rwa [bi_f (fun z => by have := isL_of.mp z; omega)] at h
  · rwa [bi_f (fun z => by have := isL_of.mp z; omega)] at h
  · rwa [bi_t (isL_of.mpr (by omega))] at h
theorem s_isDigit {x : Int} {M : Mem} {P : Int → Mem → Prop} (h : P (bi (isD x = true)) M) : CI m7_isDigit 1 [(0, x)] M P := by
  apply q_7_isDigit
  refine ⟨fun q => ?_, fun q => ⟨fun q1 => ?_, fun q1 => ?_⟩⟩
  · rwa [bi_f (fun z => by have := isD_of.mp z; omega)] at h
  · rwa [bi_f (fun z => by have := isD_of.mp z; omega)] at h
  · rwa [bi_t (isD_of.mpr (by omega))] at h
theorem s_knotOfWord {w : Int} {M : Mem} {P : Int → Mem → Prop} (hw : -1 ≤ w ∧ w < 18) (h : P (kwd w) M) : CI m7_knotOfWord 1 [(0, w)] M P := by
  unfold kwd at h
  apply q_7_knotOfWord
  refine ⟨fun q => ?_, fun q => ?_, fun q => ?_, fun q => ⟨fun q1 => ?_, fun q1 => ?_⟩⟩
  · rwa [if_pos q] at h
  · rwa [if_neg (by omega), if_pos q] at h
  · rwa [if_neg (by omega), if_neg (by omega), if_pos q] at h
  · rwa [if_neg (by omega), if_neg (by omega), if_neg (by omega), if_pos q1] at h
  · rw [if_neg (by omega), if_neg (by omega), if_neg (by omega), if_neg (by omega)] at h
    rw [w32_id (z := 10000 + w) (by omega) (by omega), w32_id (by omega) (by omega)]; exact h
theorem wdx_bd (v : Nat) : wdx v = -1 ∨ (0 ≤ wdx v ∧ wdx v < 18) := by
  have := fst1_bd (p := fun w => lgw.getD w 0 == v) 18 0
  unfold wdx; omega
theorem s_languageWord {v : Nat} {t : Nat → Int} {n : Nat} {M : Mem} {P : Int → Mem → Prop} (hT : TCm M t n) (h : P (wdx v) M) : CI m7_languageWord 1 [(17, ((2 : Nat) : Int)), (0, (v : Int))] M P := by
  apply q_7_languageWord
  unfold wdx at h
  refine loop_up (Inv := fun k M1 => M1 = M ∧ fst1 (fun w => lgw.getD w 0 == v) (18 - k) k = fst1 (fun w => lgw.getD w 0 == v) 18 0) (G := fun k M1 => A m7_languageWord 1 0 2 [(17, ((2 : Nat) : Int)), (0, (v : Int)), (0, (k : Int))] [] M1 (Ki P)) 18 ?_ ?_ 0 M (by omega) ⟨rfl, rfl⟩
  · rintro M1 ⟨rfl, e⟩
    apply r_7_languageWord_2
    rw [← e, Nat.sub_self] at h
    exact ⟨fun _ => h, fun q => by omega⟩
  · rintro k M1 hk ⟨rfl, e⟩ ih
    rw [show 18 - k = (18 - (k + 1)) + 1 by omega] at e
    apply r_7_languageWord_2
    rw [Int.toNat_natCast, hT.2.2.2.2 k hk, w_1 (i := k) (by omega)]
    refine ⟨fun q => by omega, fun _ => ⟨by omega, fun q => ?_, fun q => ?_⟩⟩
    · exact ih M1 ⟨rfl, by rw [← e, fst1_n]; rw [beq_eq_false_iff_ne]; omega⟩
    · rw [← e, fst1_y (by rw [beq_iff_eq]; omega)] at h; exact h
theorem s_knotOfSign {x : Int} {M : Mem} {P : Int → Mem → Prop} (hx : x < 256) (h : P (ksg x) M) : CI m7_knotOfSign 1 [(0, x)] M P := by
  have no : (x ≠ 40 ∧ x ≠ 41 ∧ x ≠ 42 ∧ x ≠ 43 ∧ x ≠ 45 ∧ x ≠ 47 ∧ x ≠ 59 ∧ x ≠ 60 ∧ x ≠ 61 ∧ x ≠ 62) → ksg x = -1 := fun q => by
    unfold ksg
    rw [if_neg (by omega), if_neg (by omega), if_neg (by omega), if_neg (by omega), if_neg (by omega), if_neg (by omega), if_neg (by omega), if_neg (by omega), if_neg (by omega), if_neg (by omega), if_neg (by omega), if_neg (by omega), if_neg (by omega)]
  apply q_7_knotOfSign
  refine ⟨?_, ?_, ?_, ?_, ?_, ?_, ?_, ?_, ?_, ?_, ?_, ?_, ?_, ?_, ?_, ?_, ?_, ?_, ?_, ?_, ?_, ?_, ?_, ?_⟩ <;> intro q <;> first | (subst q; exact h) | (rw [no (by omega)] at h; exact h)
