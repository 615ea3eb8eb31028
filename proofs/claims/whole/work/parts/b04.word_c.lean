/-! the class's Reader: a word; next as a whole -/
def rsetW (k j : Nat) : Prop := k = 2 ∧ (j = 13 ∨ j = 15 ∨ j = 16 ∨ j = 17)
theorem pow32_le {k : Nat} (h : k ≤ 6) : 32 ^ k ≤ 1073741824 := by
  have := Nat.pow_le_pow_right (n := 32) (by decide) h
  exact this
theorem s_scanWord {t : Nat → Int} {n p : Nat} {M : Mem} {P : Mem → Prop} (hT : TCm M t n) (hp : p < n) (h13 : M 2 13 = (p : Int)) (h14 : M 2 14 = (p : Int))
    (h : ∀ M', Fp rsetW M M' → M' 2 13 = (runE isL t n p : Int) → (if runE isL t n p - p ≤ 6 then M' 2 15 = 1 ∧ M' 2 16 = (nmN t p (runE isL t n p) : Int) ∧ M' 2 17 = kwd (wdx (nmN t p (runE isL t n p))) else M' 2 15 = 3 ∧ M' 2 17 = M 2 17) → P M') : CD m7_scanWord 2 [(17, ((2 : Nat) : Int))] M P := by
  have a1 : ((aln 1 : Nat) : Int) = 700 := by decide
  have h700 := hT.2.1
  obtain ⟨e1, e2, e3, e4⟩ := runE_p isL t n p
  have e2 := e2 (by omega)
  generalize hL : runE isL t n p = e at e1 e2 e3 e4 h
  have hlet : ∀ j, j < e - p → isL (t (p + j)) = true := fun j hj => e3 (p + j) (by omega) (by omega)
  apply q_7_scanWord
  refine loop_upS (σ := Int) (Inv := fun k x M1 => Fp (fun k j => k = 2 ∧ j = 13) M M1 ∧ M1 2 13 = ((p + k : Nat) : Int) ∧ (k ≤ 6 → x = (pkN t p k : Int))) (G := fun k x M1 => A m7_scanWord 2 0 2 [(17, ((2 : Nat) : Int)), (0, x), (2, 0)] [] M1 (Kd P)) (e - p) ?_ ?_ 0 0 M (by omega) ⟨Fp.rf, h13, fun _ => rfl⟩
  · rintro x M1 ⟨hF, h13', hx⟩
    have hT1 := hT.fp hF (fun k j q => by omega)
    have h14' : M1 2 14 = (p : Int) := by rw [hF 2 14 (by omega)]; exact h14
    have ew : w32 (((p + (e - p) : Nat) : Int) - (p : Int)) = ((e - p : Nat) : Int) := by rw [w32_id (by omega) (by omega)]; omega
    have f0 : Fp rsetW M M1 := hF.mono (fun k j q => ⟨q.1, Or.inl q.2⟩)
    have fin1 : ((e - p : Nat) : Int) ≤ 6 → CI m7_languageWord 1 [(17, ((2 : Nat) : Int)), (0, ((mset (mset M1 2 15 1) 2 16 (ishl x (w32 (5 * (w32 (6 - ((e - p : Nat) : Int))))))) 2 16))] (mset (mset M1 2 15 1) 2 16 (ishl x (w32 (5 * (w32 (6 - ((e - p : Nat) : Int))))))) (fun r7 M8 => (CI m7_knotOfWord 1 [(0, r7)] M8 (fun r10 M11 => (P (mset M11 2 17 r10))))) := by
      intro h6
      have h6 : e - p ≤ 6 := by omega
      have hxx := hx h6
      have hpk := pkN_lt hlet (e - p) (Nat.le_refl _)
      have ee : ishl x (w32 (5 * (w32 (6 - ((e - p : Nat) : Int))))) = (nmN t p e : Int) := by
        rw [w32_id (z := 6 - ((e - p : Nat) : Int)) (by omega) (by omega), show (5 * (6 - ((e - p : Nat) : Int))) = ((5 * (6 - (e - p)) : Nat) : Int) by omega, w32_id (by omega) (by omega), hxx]
        have hpow : 2 ^ (5 * (6 - (e - p))) = 32 ^ (6 - (e - p)) := by rw [Nat.pow_mul]
        have hlt : pkN t p (e - p) * 2 ^ (5 * (6 - (e - p))) < 2147483648 := by
          rw [hpow]
          have h1 : pkN t p (e - p) * 32 ^ (6 - (e - p)) ≤ 32 ^ (e - p) * 32 ^ (6 - (e - p)) := Nat.mul_le_mul_right _ (by omega)
          rw [← Nat.pow_add, show e - p + (6 - (e - p)) = 6 by omega] at h1
          have h2 := pow32_le (k := 6) (by omega)
          omega
        rw [ishl_n (by omega) hlt, Nat.shiftLeft_eq, hpow]
        rfl
      rw [mset_s, ee]
      have f2 : Fp rsetW M (mset (mset M1 2 15 1) 2 16 (nmN t p e : Int)) := (f0.set ⟨rfl, Or.inr (Or.inl rfl)⟩).set ⟨rfl, Or.inr (Or.inr (Or.inl rfl))⟩
      have hT2 := hT.fp f2 (fun k j q => by unfold rsetW at q; omega)
      apply s_languageWord hT2
      apply s_knotOfWord (by have := wdx_bd (nmN t p e); omega)
      refine h _ (f2.set ⟨rfl, Or.inr (Or.inr (Or.inr rfl))⟩) ?_ ?_
      · rw [mset_j (by decide), mset_j (by decide), mset_j (by decide), h13', show p + (e - p) = e by omega]
      · rw [if_pos h6]
        refine ⟨?_, ?_, mset_s⟩
        · rw [mset_j (by decide), mset_j (by decide), mset_s]
        · rw [mset_j (by decide), mset_s]
    have fin2 : 6 < ((e - p : Nat) : Int) → P (mset M1 2 15 3) := fun h6 => by
      refine h _ (f0.set ⟨rfl, Or.inr (Or.inl rfl)⟩) ?_ ?_
      · rw [mset_j (by decide), h13', show p + (e - p) = e by omega]
      · rw [if_neg (by omega)]
        refine ⟨mset_s, ?_⟩
        rw [mset_j (by decide), hF 2 17 (by omega)]
    apply r_7_scanWord_2
    rw [hT1.1, h13', h14', ew]
    refine ⟨fun _ => ⟨fin1, fin2⟩, fun q => ?_⟩
    apply s_at (by omega) (by omega)
    rw [Int.toNat_natCast, hT1.2.2.1 _ (by omega)]
    apply s_isLetter
    refine ⟨fun _ => ?_, fun q1 => ?_⟩
    · rw [h13', h14', ew]
      exact ⟨fin1, fin2⟩
    · exfalso
      apply e4
      rw [show p + (e - p) = e by omega] at q1 q
      exact ⟨by omega, bi_ne q1⟩
  · rintro k x M1 hk ⟨hF, h13', hx⟩ ih
    have hT1 := hT.fp hF (fun k j q => by omega)
    have hl := hlet k hk
    have hl' := isL_of.mp hl
    apply r_7_scanWord_2
    rw [hT1.1, h13']
    refine ⟨fun q => by omega, fun q => ?_⟩
    apply s_at (by omega) (by omega)
    rw [Int.toNat_natCast, hT1.2.2.1 _ (by omega)]
    apply s_isLetter
    refine ⟨fun q1 => absurd hl (bi_eq q1), fun q1 => ?_⟩
    rw [h13']
    apply s_at (by omega) (by omega)
    rw [Int.toNat_natCast, hT1.2.2.1 _ (by omega), h13', w_1 (i := p + k) (by omega)]
    refine ih _ _ ⟨hF.set ⟨rfl, rfl⟩, by rw [mset_s]; rfl, fun h6 => ?_⟩
    have hxx := hx (by omega)
    have hpk := pkN_lt hlet k (by omega)
    have h5 := Nat.pow_le_pow_right (n := 32) (by decide) (show k ≤ 5 by omega)
    have h5 : 32 ^ k ≤ 33554432 := h5
    rw [hxx]
    show _ = ((pkN t p k * 32 + (t (p + k) - 96).toNat : Nat) : Int)
    have eb : w32 (w32 (t (p + k) - 97) + 1) = (((t (p + k) - 96).toNat : Nat) : Int) := by
      rw [w32_id (z := t (p + k) - 97) (by omega) (by omega), w32_id (by omega) (by omega)]; omega
    have es : ishl (pkN t p k : Int) 5 = ((pkN t p k <<< 5 : Nat) : Int) := ishl_n (b := 5) (by omega) (by omega)
    rw [eb, es, ior_n (by rw [Nat.shiftLeft_eq]; omega) (by omega), ← Nat.shiftLeft_add_eq_or_of_lt (by omega), Nat.shiftLeft_eq]
/-- what the class holds once a TOKEN is read that stands behind c -/
def KCo (M : Mem) (t : Nat → Int) (n c : Nat) : Prop :=
  M 2 13 = (tkE t n c : Int) ∧ M 2 14 = (tkP t n c : Int) ∧ (tkS t n c = 4 → M 2 15 = 0 ∧ M 2 17 = -1) ∧ (tkS t n c = 0 ∨ tkS t n c = 1 → M 2 15 = 1 ∧ M 2 16 = (nmN t (tkP t n c) (tkE t n c) : Int) ∧ M 2 17 = kwd (wdx (nmN t (tkP t n c) (tkE t n c)))) ∧ (tkS t n c = 2 → M 2 15 = 2 ∧ M 2 17 = -1 ∧ NRl (M 2 16) (tkV t n c).toNat) ∧ (tkS t n c = 3 → M 2 15 = 3 ∧ M 2 17 = ksg (tkV t n c)) ∧ (tkS t n c = 5 → M 2 15 = 3 ∧ M 2 17 = -1)
theorem ksg_none {x y : Int} (hx : x < 256) (h : ¬ isS x = true) : ksg (sgV x y) = -1 := by
  unfold isS at h
  rw [decide_eq_true_eq] at h
  have e : sgV x y = x := by unfold sgV; rw [if_neg (by omega), if_neg (by omega), if_neg (by omega)]
  rw [e]
  unfold ksg
  rw [if_neg (by omega), if_neg (by omega), if_neg (by omega), if_neg (by omega), if_neg (by omega), if_neg (by omega), if_neg (by omega), if_neg (by omega), if_neg (by omega), if_neg (by omega), if_neg (by omega), if_neg (by omega), if_neg (by omega)]
theorem s_nexto {t : Nat → Int} {n c : Nat} {M : Mem} {P : Mem → Prop} (hT : TCm M t n) (hc : c ≤ n) (h13 : M 2 13 = (c : Int)) (h : ∀ M', Fp rdset M M' → KCo M' t n c → P M') : CD m7_next 3 [(17, ((2 : Nat) : Int))] M P := by
  have a1 : ((aln 1 : Nat) : Int) = 700 := by decide
  have h700 := hT.2.1
  obtain ⟨e1, e2, e3, e4⟩ := runE_p isB t n c
  have e2 := e2 hc
  have hpp : tkP t n c = runE isB t n c := rfl
  unfold KCo at h
  rw [hpp] at h
  have hS : tkS t n c = if n ≤ runE isB t n c then 4 else if isL (t (runE isB t n c)) = true then (if tkE t n c - runE isB t n c ≤ 6 then (if wdx (nmN t (runE isB t n c) (tkE t n c)) = -1 then 1 else 0) else 5) else if isD (t (runE isB t n c)) = true then 2 else if isS (t (runE isB t n c)) = true then 3 else 5 := rfl
  have hE : tkE t n c = if n ≤ runE isB t n c then runE isB t n c else if isL (t (runE isB t n c)) = true then runE isL t n (runE isB t n c) else if isD (t (runE isB t n c)) = true then runE isD t n (runE isB t n c) else if 256 ≤ sgV (t (runE isB t n c)) (nxb t n (runE isB t n c)) then runE isB t n c + 2 else runE isB t n c + 1 := rfl
  have hV : tkV t n c = if n ≤ runE isB t n c then 0 else if isL (t (runE isB t n c)) = true then (if wdx (nmN t (runE isB t n c) (tkE t n c)) = -1 then (nmN t (runE isB t n c) (tkE t n c) : Int) else wdx (nmN t (runE isB t n c) (tkE t n c))) else if isD (t (runE isB t n c)) = true then (dgN t (runE isB t n c) (tkE t n c - runE isB t n c) : Int) else sgV (t (runE isB t n c)) (nxb t n (runE isB t n c)) := rfl
  generalize hp : runE isB t n c = p at e1 e2 e3 e4 h hS hE hV
  -- behind the blanks
  have fin : ∀ M1, Fp (fun k j => k = 2 ∧ j = 13) M M1 → M1 2 13 = (p : Int) → (((((mset (mset (mset M1 2 14 (p : Int)) 2 16 0) 2 17 (-1)) 2 13) < ((mset (mset (mset M1 2 14 (p : Int)) 2 16 0) 2 17 (-1)) 2 12) → (CI m10_at 1 [(30, ((1 : Nat) : Int)), (0, ((mset (mset (mset M1 2 14 (p : Int)) 2 16 0) 2 17 (-1)) 2 13))] (mset (mset (mset M1 2 14 (p : Int)) 2 16 0) 2 17 (-1)) (fun r7 M8 => (CI m7_isLetter 1 [(0, r7)] M8 (fun r10 M11 => ((r10 = 0 → (CI m7_isDigit 1 [(0, r7)] M11 (fun r16 M17 => ((r16 = 0 → (CD m7_scanSign 2 [(17, ((2 : Nat) : Int)), (0, r7)] M17 (fun M23 => (P M23)))) ∧ (r16 ≠ 0 → (CD m7_scanNumber 2 [(17, ((2 : Nat) : Int))] M17 (fun M26 => (P M26)))))))) ∧ (r10 ≠ 0 → (CD m7_scanWord 2 [(17, ((2 : Nat) : Int))] M11 (fun M29 => (P M29)))))))))) ∧ (((mset (mset (mset M1 2 14 (p : Int)) 2 16 0) 2 17 (-1)) 2 12) ≤ ((mset (mset (mset M1 2 14 (p : Int)) 2 16 0) 2 17 (-1)) 2 13) → (P (mset (mset (mset (mset M1 2 14 (p : Int)) 2 16 0) 2 17 (-1)) 2 15 0))))) := by
    intro M1 hF1 h13'
    have f1 : Fp rdset M (mset (mset (mset M1 2 14 (p : Int)) 2 16 0) 2 17 (-1)) := (((hF1.mono (fun k j q => by unfold rdset; omega) : Fp rdset M M1).set (by unfold rdset; omega)).set (by unfold rdset; omega)).set (by unfold rdset; omega)
    have g13 : mset (mset (mset M1 2 14 (p : Int)) 2 16 0) 2 17 (-1) 2 13 = (p : Int) := by rw [mset_j (by decide), mset_j (by decide), mset_j (by decide)]; exact h13'
    have g14 : mset (mset (mset M1 2 14 (p : Int)) 2 16 0) 2 17 (-1) 2 14 = (p : Int) := by rw [mset_j (by decide), mset_j (by decide), mset_s]
    have g16 : mset (mset (mset M1 2 14 (p : Int)) 2 16 0) 2 17 (-1) 2 16 = 0 := by rw [mset_j (by decide), mset_s]
    have g17 : mset (mset (mset M1 2 14 (p : Int)) 2 16 0) 2 17 (-1) 2 17 = -1 := mset_s
    have hT2 := hT.fp f1 (fun k j q => by unfold rdset at q; omega)
    generalize mset (mset (mset M1 2 14 (p : Int)) 2 16 0) 2 17 (-1) = M2 at f1 g13 g14 g16 g17 hT2
    rw [g13, hT2.1]
    refine ⟨fun q => ?_, fun q => ?_⟩
    · have hlt : p < n := by omega
      rw [if_neg (by omega)] at hS hE hV
      apply s_at (by omega) (by omega)
      rw [Int.toNat_natCast, hT2.2.2.1 p hlt]
      apply s_isLetter
      refine ⟨fun q1 => ?_, fun q1 => ?_⟩
      · rw [if_neg (bi_eq q1)] at hS hE hV
        apply s_isDigit
        refine ⟨fun q2 => ?_, fun q2 => ?_⟩
        · rw [if_neg (bi_eq q2)] at hS hE hV
          apply s_scanSign hT2 hlt g13
          intro M3 hF3 k13 k15 k17
          have k14 : M3 2 14 = (p : Int) := by rw [hF3 2 14 (by unfold rsetS; omega)]; exact g14
          refine h M3 (f1.tr (hF3.mono (fun k j q => by unfold rsetS at q; unfold rdset; omega))) ⟨by rw [k13, hE], k14, ?_, ?_, ?_, ?_, ?_⟩
          · intro z; rw [hS] at z; split at z <;> cases z
          · intro z; rw [hS] at z; split at z <;> rcases z with z | z <;> cases z
          · intro z; rw [hS] at z; split at z <;> cases z
          · intro z; rw [hV]; exact ⟨k15, k17⟩
          · intro z
            rw [hS] at z
            split at z
            · cases z
            · next hns =>
              refine ⟨k15, ?_⟩
              rw [k17]
              exact ksg_none (by have := hT2.2.2.2.1 p hlt; omega) hns
        · rw [if_pos (bi_ne q2)] at hS hE hV
          apply s_scanNumber hT2 hlt g13 g16
          intro M3 hF3 k13 k15 k16
          have k14 : M3 2 14 = (p : Int) := by rw [hF3 2 14 (by unfold rsetN; omega)]; exact g14
          have k17 : M3 2 17 = -1 := by rw [hF3 2 17 (by unfold rsetN; omega)]; exact g17
          refine h M3 (f1.tr (hF3.mono (fun k j q => by unfold rsetN at q; unfold rdset; omega))) ⟨by rw [k13, hE], k14, ?_, ?_, ?_, ?_, ?_⟩
          · intro z; rw [hS] at z; cases z
          · intro z; rw [hS] at z; rcases z with z | z <;> cases z
          · intro z; rw [hV, Int.toNat_natCast, hE]; exact ⟨k15, k17, k16⟩
          · intro z; rw [hS] at z; cases z
          · intro z; rw [hS] at z; cases z
      · rw [if_pos (bi_ne q1)] at hS hE hV
        apply s_scanWord hT2 hlt g13 g14
        intro M3 hF3 k13 kk
        have k14 : M3 2 14 = (p : Int) := by rw [hF3 2 14 (by unfold rsetW; omega)]; exact g14
        rw [← hE] at kk
        refine h M3 (f1.tr (hF3.mono (fun k j q => by unfold rsetW at q; unfold rdset; omega))) ⟨by rw [k13, hE], k14, ?_, ?_, ?_, ?_, ?_⟩
        · intro z; rw [hS] at z; split at z
          · split at z <;> cases z
          · cases z
        · intro z; rw [hS] at z; split at z
          · next h6 => rw [if_pos h6] at kk; exact kk
          · rcases z with z | z <;> cases z
        · intro z; rw [hS] at z; split at z
          · split at z <;> cases z
          · cases z
        · intro z; rw [hS] at z; split at z
          · split at z <;> cases z
          · cases z
        · intro z; rw [hS] at z; split at z
          · split at z <;> cases z
          · next h6 => rw [if_neg h6, g17] at kk; exact kk
    · rw [if_pos (by omega)] at hS hE hV
      refine h _ (f1.set (by unfold rdset; omega)) ⟨?_, ?_, fun _ => ⟨mset_s, ?_⟩, ?_, ?_, ?_, ?_⟩
      · rw [mset_j (by decide), g13, hE]
      · rw [mset_j (by decide), g14]
      · rw [mset_j (by decide), g17]
      · intro z; rw [hS] at z; rcases z with z | z <;> cases z
      · intro z; rw [hS] at z; cases z
      · intro z; rw [hS] at z; cases z
      · intro z; rw [hS] at z; cases z
  apply q_7_next
  refine loop_up (Inv := fun k M1 => Fp (fun k j => k = 2 ∧ j = 13) M M1 ∧ M1 2 13 = ((c + k : Nat) : Int)) (G := fun k M1 => A m7_next 3 0 0 [(17, ((2 : Nat) : Int)), (2, 0)] [] M1 (Kd P)) (p - c) ?_ ?_ 0 M (by omega) ⟨Fp.rf, h13⟩
  · rintro M1 ⟨hF, h13'⟩
    rw [show c + (p - c) = p by omega] at h13'
    have hT1 := hT.fp hF (fun k j q => by omega)
    apply r_7_next_0
    rw [hT1.1, h13']
    refine ⟨fun _ => fin M1 hF h13', fun q => ?_⟩
    apply s_at (by omega) (by omega)
    rw [Int.toNat_natCast, hT1.2.2.1 p (by omega)]
    apply s_isBlank
    refine ⟨fun _ => ?_, fun q1 => absurd ⟨by omega, bi_ne q1⟩ e4⟩
    rw [h13']
    exact fin M1 hF h13'
  · rintro k M1 hk ⟨hF, h13'⟩ ih
    have hT1 := hT.fp hF (fun k j q => by omega)
    have hbl := e3 (c + k) (by omega) (by omega)
    apply r_7_next_0
    rw [hT1.1, h13']
    refine ⟨fun q => by omega, fun q => ?_⟩
    apply s_at (by omega) (by omega)
    rw [Int.toNat_natCast, hT1.2.2.1 _ (by omega)]
    apply s_isBlank
    refine ⟨fun q1 => absurd hbl (bi_eq q1), fun _ => ?_⟩
    rw [h13', w_1 (i := c + k) (by omega)]
    exact ih _ ⟨hF.set ⟨rfl, rfl⟩, by rw [mset_s]; rfl⟩
/-- the same, and no place of a FAULT is told -/
def KC (M : Mem) (t : Nat → Int) (n c : Nat) : Prop :=
  M 2 13 = (tkE t n c : Int) ∧ M 2 14 = (tkP t n c : Int) ∧ (tkS t n c = 4 → M 2 15 = 0 ∧ M 2 17 = -1) ∧ (tkS t n c = 0 ∨ tkS t n c = 1 → M 2 15 = 1 ∧ M 2 16 = (nmN t (tkP t n c) (tkE t n c) : Int) ∧ M 2 17 = kwd (wdx (nmN t (tkP t n c) (tkE t n c)))) ∧ (tkS t n c = 2 → M 2 15 = 2 ∧ M 2 17 = -1 ∧ NRl (M 2 16) (tkV t n c).toNat) ∧ (tkS t n c = 3 → M 2 15 = 3 ∧ M 2 17 = ksg (tkV t n c)) ∧ (tkS t n c = 5 → M 2 15 = 3 ∧ M 2 17 = -1) ∧ M 2 4 = -1
theorem KC.p {M : Mem} {t : Nat → Int} {n c : Nat} (h : KC M t n c) : M 2 4 = -1 := h.2.2.2.2.2.2.2
theorem s_next {t : Nat → Int} {n c : Nat} {M : Mem} {P : Mem → Prop} (hT : TCm M t n) (hc : c ≤ n) (h13 : M 2 13 = (c : Int)) (h4 : M 2 4 = -1) (h : ∀ M', Fp rdset M M' → KC M' t n c → P M') : CD m7_next 3 [(17, ((2 : Nat) : Int))] M P :=
  s_nexto hT hc h13 (fun M' hF hK => h M' hF ⟨hK.1, hK.2.1, hK.2.2.1, hK.2.2.2.1, hK.2.2.2.2.1, hK.2.2.2.2.2.1, hK.2.2.2.2.2.2, by rw [hF 2 4 (by unfold rdset; omega)]; exact h4⟩)
