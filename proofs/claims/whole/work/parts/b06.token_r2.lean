/-! the reference: token -/
/-- what word() answers: shown where the text of the words stands -/
def WordR : Prop := ∀ (t : Nat → Int) (n p e : Nat) (M : Mem) (P : Int → Mem → Prop), TRm M t n → M 59 20 = (p : Int) → M 59 19 = (e : Int) → p < e → e ≤ n → (∀ j, p ≤ j → j < e → isL (t j) = true) → P (if e - p ≤ 6 then wdx (nmN t p e) else -1) M → CI m11_word 2 [(20, ((59 : Nat) : Int))] M P
def n22 (k j : Nat) : Prop := k = 59 ∧ j = 22
/-- the letters of a name, so many of them told and then nothing -/
def nvN (t : Nat → Int) (p L i : Nat) : Nat := if i ≤ L then pkN t p i else pkN t p L * 32 ^ (i - L)
theorem nvN_lo {t : Nat → Int} {p L i : Nat} (h : i < L) : nvN t p L (i + 1) = nvN t p L i * 32 + (t (p + i) - 96).toNat := by
  unfold nvN
  rw [if_pos (show i + 1 ≤ L from h), if_pos (Nat.le_of_lt h)]
  rfl
theorem nvN_hi {t : Nat → Int} {p L i : Nat} (h : L ≤ i) : nvN t p L (i + 1) = nvN t p L i * 32 := by
  unfold nvN
  rw [if_neg (Nat.not_le.mpr (Nat.lt_succ_of_le h))]
  by_cases q : i ≤ L
  · have e : i = L := Nat.le_antisymm q h
    subst e
    rw [if_pos q, Nat.add_sub_cancel_left, Nat.pow_one]
  · rw [if_neg q, Nat.succ_sub h, Nat.pow_succ, Nat.mul_assoc]
theorem nvN_lt {t : Nat → Int} {p L : Nat} (h : ∀ j, j < L → isL (t (p + j)) = true) : ∀ i, nvN t p L i < 32 ^ i
  | 0 => by unfold nvN; rw [if_pos (Nat.zero_le _)]; exact Nat.lt_succ_self 0
  | i + 1 => by
    have ih := nvN_lt h i
    rw [Nat.pow_succ]
    by_cases q : i < L
    · rw [nvN_lo q]
      have := isL_of.mp (h i q)
      generalize nvN t p L i = v at ih ⊢
      generalize 32 ^ i = w at ih ⊢
      omega
    · rw [nvN_hi (Nat.not_lt.mp q)]
      generalize nvN t p L i = v at ih ⊢
      generalize 32 ^ i = w at ih ⊢
      omega
theorem nvN_b {t : Nat → Int} {p L i : Nat} (h : ∀ j, j < L → isL (t (p + j)) = true) (hi : i < 6) : nvN t p L i < 33554432 := by
  have h1 := nvN_lt h i
  have h2 : 32 ^ i ≤ 32 ^ 5 := Nat.pow_le_pow_right (by decide) (Nat.le_of_lt_succ hi)
  exact Nat.lt_of_lt_of_le h1 h2
theorem nvN_6 {t : Nat → Int} {p e : Nat} (h6 : e - p ≤ 6) : nvN t p (e - p) 6 = nmN t p e := by
  unfold nvN nmN
  by_cases z : 6 ≤ e - p
  · have : e - p = 6 := Nat.le_antisymm h6 z
    rw [if_pos z, this]; simp
  · rw [if_neg z]
theorem let_w {x : Int} (h : isL x = true) : w32 (w32 (x - 97) + 1) = (((x - 96).toNat : Nat) : Int) ∧ (x - 96).toNat < 32 := by
  have := isL_of.mp h
  rw [w32_id (z := x - 97) (by omega) (by omega), w32_id (by omega) (by omega)]; omega
theorem shl5 {v : Nat} (hv : v < 33554432) : ishl (v : Int) 5 = ((v * 32 : Nat) : Int) := by
  have := ishl_n (a := v) (b := 5) (by decide) (by omega)
  rw [Nat.shiftLeft_eq] at this
  exact this
theorem shl5z {v : Nat} (hv : v < 33554432) : ior (ishl (v : Int) 5) 0 = ((v * 32 : Nat) : Int) := by
  rw [shl5 hv]
  have eo : ior ((v * 32 : Nat) : Int) ((0 : Nat) : Int) = ((v * 32 ||| 0 : Nat) : Int) := ior_n (by omega) (by decide)
  rw [Nat.or_zero] at eo
  exact eo
theorem shl5x {v : Nat} {x : Int} (hv : v < 33554432) (hx : isL x = true) : ior (ishl (v : Int) 5) (w32 (w32 (x - 97) + 1)) = ((v * 32 + (x - 96).toNat : Nat) : Int) := by
  obtain ⟨h1, h2⟩ := let_w hx
  rw [shl5 hv, h1]
  generalize (x - 96).toNat = u at h2
  have eor : v * 32 ||| u = v * 32 + u := by
    have := Nat.shiftLeft_add_eq_or_of_lt (a := v) (b := u) (i := 5) h2
    rw [Nat.shiftLeft_eq] at this
    exact this.symm
  rw [ior_n (by omega) (by omega), eor]
theorem s_name {t : Nat → Int} {n p e : Nat} {M : Mem} {P : Mem → Prop} (hT : TRm M t n) (h20 : M 59 20 = (p : Int)) (h19 : M 59 19 = (e : Int)) (hpe : p ≤ e) (hen : e ≤ n) (h6 : e - p ≤ 6) (hl : ∀ j, p ≤ j → j < e → isL (t j) = true)
    (h : ∀ M', Fp n22 M M' → M' 59 22 = (nmN t p e : Int) → P M') : CD m11_name 1 [(20, ((59 : Nat) : Int))] M P := by
  have h700 := hT.2.1
  have hlet : ∀ j, j < e - p → isL (t (p + j)) = true := fun j hj => hl (p + j) (by omega) (by omega)
  have f0 : Fp n22 M M := Fp.rf
  rw [← nvN_6 h6] at h
  apply q_11_name
  have key : ∀ i M1, i ≤ 6 → (Fp n22 M M1 ∧ M1 59 22 = (nvN t p (e - p) i : Int)) → A m11_name 1 0 7 [(20, ((59 : Nat) : Int)), (0, (i : Int))] [] M1 (Kd P) := by
    refine loop_up (Inv := fun i M1 => Fp n22 M M1 ∧ M1 59 22 = (nvN t p (e - p) i : Int)) (G := fun i M1 => A m11_name 1 0 7 [(20, ((59 : Nat) : Int)), (0, (i : Int))] [] M1 (Kd P)) 6 ?_ ?_
    · rintro M1 ⟨hF, hv⟩
      apply r_11_name_7
      exact ⟨fun _ => h M1 hF hv, fun q => absurd q (by decide)⟩
    · rintro i M1 hi ⟨hF, hv⟩ ih
      have ep : w32 ((p : Int) + (i : Int)) = ((p + i : Nat) : Int) := by rw [w32_id (by omega) (by omega)]; omega
      have hni : ¬ (6 : Int) ≤ (i : Int) := by omega
      have hq1 : (e : Int) ≤ ((p + i : Nat) : Int) → e - p ≤ i := fun q => by omega
      have hq2 : ((p + i : Nat) : Int) < (e : Int) → i < e - p ∧ p + i < n ∧ (0 ≤ ((p + i : Nat) : Int) ∧ ((p + i : Nat) : Int) < 700) := fun q => by omega
      have h19' : M1 59 19 = (e : Int) := by rw [hF 59 19 (fun z => absurd z.2 (by decide))]; exact h19
      have h20' : M1 59 20 = (p : Int) := by rw [hF 59 20 (fun z => absurd z.2 (by decide))]; exact h20
      have hT1 := hT.fp hF (fun k j q => ⟨fun z => absurd (z.symm.trans q.1) (by decide), fun z => absurd (z.2.symm.trans q.2) (by decide)⟩)
      apply r_11_name_7
      rw [h19', h20', ep, w_1 (i := i) (Nat.lt_trans hi (by decide)), hv]
      refine ⟨fun q => absurd q hni, fun _ => ⟨fun q => ?_, fun q => ?_⟩⟩
      · refine ih _ ⟨hF.set ⟨rfl, rfl⟩, ?_⟩
        rw [mset_s, shl5z (nvN_b hlet hi), nvN_hi (hq1 q)]
      · obtain ⟨k1, k2, k3⟩ := hq2 q
        rw [Int.toNat_natCast, hT1.2.2.1 (p + i) k2]
        refine ⟨k3, ih _ ⟨hF.set ⟨rfl, rfl⟩, ?_⟩⟩
        rw [mset_s, shl5x (nvN_b hlet hi) (hlet i k1), nvN_lo k1]
  exact key 0 _ (Nat.zero_le _) ⟨f0.set ⟨rfl, rfl⟩, by rw [mset_s]; unfold nvN; rw [if_pos (Nat.zero_le _)]; rfl⟩
/-- what the reference holds once a TOKEN is read that stands behind c -/
def KRo (M : Mem) (t : Nat → Int) (n c : Nat) : Prop :=
  M 59 19 = (tkE t n c : Int) ∧ M 59 20 = (tkP t n c : Int) ∧ M 59 21 = (tkS t n c : Int) ∧ (tkS t n c = 0 ∨ tkS t n c = 1 ∨ tkS t n c = 3 → M 59 22 = tkV t n c) ∧ (tkS t n c = 2 → NRl (M 59 22) (tkV t n c).toNat)
theorem s_tokeno (hW : WordR) {t : Nat → Int} {n c : Nat} {M : Mem} {P : Mem → Prop} (hT : TRm M t n) (hc : c ≤ n) (h19 : M 59 19 = (c : Int)) (h : ∀ M', Fp tkset M M' → KRo M' t n c → P M') : CD m11_token 3 [(20, ((59 : Nat) : Int))] M P := by
  have h700 := hT.2.1
  obtain ⟨e1, e2, e3, e4⟩ := runE_p isB t n c
  have e2 := e2 hc
  have hpp : tkP t n c = runE isB t n c := rfl
  unfold KRo at h
  rw [hpp] at h
  have hS : tkS t n c = if n ≤ runE isB t n c then 4 else if isL (t (runE isB t n c)) = true then (if tkE t n c - runE isB t n c ≤ 6 then (if wdx (nmN t (runE isB t n c) (tkE t n c)) = -1 then 1 else 0) else 5) else if isD (t (runE isB t n c)) = true then 2 else if isS (t (runE isB t n c)) = true then 3 else 5 := rfl
  have hE : tkE t n c = if n ≤ runE isB t n c then runE isB t n c else if isL (t (runE isB t n c)) = true then runE isL t n (runE isB t n c) else if isD (t (runE isB t n c)) = true then runE isD t n (runE isB t n c) else if 256 ≤ sgV (t (runE isB t n c)) (nxb t n (runE isB t n c)) then runE isB t n c + 2 else runE isB t n c + 1 := rfl
  have hV : tkV t n c = if n ≤ runE isB t n c then 0 else if isL (t (runE isB t n c)) = true then (if wdx (nmN t (runE isB t n c) (tkE t n c)) = -1 then (nmN t (runE isB t n c) (tkE t n c) : Int) else wdx (nmN t (runE isB t n c) (tkE t n c))) else if isD (t (runE isB t n c)) = true then (dgN t (runE isB t n c) (tkE t n c - runE isB t n c) : Int) else sgV (t (runE isB t n c)) (nxb t n (runE isB t n c)) := rfl
  generalize hp : runE isB t n c = p at e1 e2 e3 e4 h hS hE hV
  apply q_11_token
  refine loop_up (Inv := fun k M1 => Fp (fun k j => k = 59 ∧ j = 19) M M1 ∧ M1 59 19 = ((c + k : Nat) : Int)) (G := fun k M1 => A m11_token 3 0 0 [(20, ((59 : Nat) : Int)), (2, 0)] [] M1 (Kd P)) (p - c) ?_ ?_ 0 M (by omega) ⟨Fp.rf, h19⟩
  · rintro M1 ⟨hF, h19'⟩
    rw [show c + (p - c) = p by omega] at h19'
    have hT1 := hT.fp hF (fun k j q => by omega)
    have hnb : hrb t n p ≠ 10 ∧ hrb t n p ≠ 32 := by
      unfold hrb
      by_cases z : p < n
      · rw [if_pos z]
        have : ¬ (isB (t p) = true) := fun y => e4 ⟨z, y⟩
        rw [isB_of] at this
        omega
      · rw [if_neg z]; omega
    apply r_11_token_0
    apply s_here hT1 h19'
    refine ⟨fun q => absurd q hnb.1, fun _ => ?_⟩
    apply s_here hT1 h19'
    refine ⟨fun _ => ?_, fun q => absurd q hnb.2⟩
    rw [h19']
    have f1 : Fp tkset M (mset M1 59 20 (p : Int)) := (hF.mono (fun k j q => by unfold tkset; omega) : Fp tkset M M1).set (by unfold tkset; omega)
    have g19 : mset M1 59 20 (p : Int) 59 19 = (p : Int) := by rw [mset_j (by decide)]; exact h19'
    have g20 : mset M1 59 20 (p : Int) 59 20 = (p : Int) := mset_s
    have hT2 := hT.fp f1 (fun k j q => by unfold tkset at q; omega)
    generalize mset M1 59 20 (p : Int) = M2 at f1 g19 g20 hT2
    apply s_here hT2 g19
    refine ⟨fun q => ?_, fun q => ?_⟩
    · have hlt : p < n := by
        rcases Nat.lt_or_ge p n with z | z
        · exact z
        · exfalso; apply q; unfold hrb; rw [if_neg (by omega)]
      have hr : hrb t n p = t p := if_pos hlt
      rw [if_neg (by omega)] at hS hE hV
      rw [hr]
      apply s_isSmall
      refine ⟨fun q1 => ?_, fun q1 => ?_⟩
      · rw [if_neg (bi_eq q1)] at hS hE hV
        apply s_isDigit_r
        refine ⟨fun q2 => ?_, fun q2 => ?_⟩
        · rw [if_neg (bi_eq q2)] at hS hE hV
          apply s_sign hT2 hlt g19
          intro M3 hF3 k19 k21 k22
          have k20 : M3 59 20 = (p : Int) := by rw [hF3 59 20 (by omega)]; exact g20
          refine h M3 (f1.tr (hF3.mono (fun k j q => by unfold tkset; omega))) ⟨by rw [k19, hE], k20, ?_, ?_, ?_⟩
          · rw [k21, hS]
            split <;> rfl
          · intro z
            rw [hS] at z
            rw [hV]
            split at z
            · next hs => exact k22 hs
            · omega
          · intro z; rw [hS] at z; split at z <;> cases z
        · rw [if_pos (bi_ne q2)] at hS hE hV
          obtain ⟨d1, d2, d3, d4⟩ := runE_p isD t n p
          have d2 := d2 (by omega)
          rw [← hE] at d1 d2 d3 d4
          generalize tkE t n c = e at d1 d2 d3 d4 h hV hS
          refine loop_up (Inv := fun k M3 => Fp tkset M M3 ∧ M3 59 19 = ((p + k : Nat) : Int) ∧ M3 59 20 = (p : Int) ∧ M3 59 21 = 2 ∧ NRl (M3 59 22) (dgN t p k)) (G := fun k M3 => A m11_token 3 0 162 [(20, ((59 : Nat) : Int)), (2, 0)] [] M3 (Kd P)) (e - p) ?_ ?_ 0 _ (by omega) ⟨(f1.set (by unfold tkset; omega)).set (by unfold tkset; omega), by rw [mset_j (by decide), mset_j (by decide)]; exact g19, by rw [mset_j (by decide), mset_j (by decide)]; exact g20, by rw [mset_j (by decide), mset_s], by rw [mset_s]; unfold NRl dgN; omega⟩
          · rintro M3 ⟨hF3, k19, k20, k21, kN⟩
            have hT3 := hT.fp hF3 (fun k j q => by unfold tkset at q; omega)
            rw [show p + (e - p) = e by omega] at k19
            apply r_11_token_162
            apply s_here hT3 k19
            apply s_isDigit_r
            refine ⟨fun _ => ?_, fun q3 => ?_⟩
            · refine h M3 hF3 ⟨k19, k20, by rw [k21, hS]; rfl, fun z => by rw [hS] at z; omega, fun _ => ?_⟩
              rw [hV, Int.toNat_natCast]; exact kN
            · exfalso
              have q3 := bi_ne q3
              unfold hrb at q3
              by_cases z : e < n
              · rw [if_pos z] at q3; exact d4 ⟨z, q3⟩
              · rw [if_neg z] at q3; revert q3; decide
          · rintro k M3 hk ⟨hF3, k19, k20, k21, kN⟩ ih
            have hT3 := hT.fp hF3 (fun k j q => by unfold tkset at q; omega)
            have hd := d3 (p + k) (by omega) (by omega)
            have hd' := isD_of.mp hd
            have hr2 : hrb t n (p + k) = t (p + k) := if_pos (by omega)
            apply r_11_token_162
            apply s_here hT3 k19
            rw [hr2]
            apply s_isDigit_r
            refine ⟨fun q3 => absurd hd (bi_eq q3), fun _ => ?_⟩
            have hN := NRl_r kN (show 0 ≤ t (p + k) - 48 ∧ t (p + k) - 48 ≤ 9 by omega)
            have hv := kN.1
            have hv2 := kN.2.1
            refine ⟨fun q4 => ?_, fun q4 => ?_⟩
            · apply s_here hT3 k19
              rw [hr2, mset_j (by decide), k19, w_1 (i := p + k) (by omega)]
              rw [if_neg (by omega)] at hN
              have hX : w32 (w32 (w32 (10 * M3 59 22) + t (p + k)) - 48) = 10 * M3 59 22 + (t (p + k) - 48) := by
                rw [w32_id (z := 10 * M3 59 22) (by omega) (by omega), w32_id (z := 10 * M3 59 22 + t (p + k)) (by omega) (by omega), w32_id (by omega) (by omega)]; omega
              rw [hX]
              refine ih _ ⟨(hF3.set (by unfold tkset; omega)).set (by unfold tkset; omega), by rw [mset_s]; rfl, ?_, ?_, ?_⟩
              · rw [mset_j (by decide), mset_j (by decide)]; exact k20
              · rw [mset_j (by decide), mset_j (by decide)]; exact k21
              · rw [mset_j (by decide), mset_s]; exact hN
            · rw [mset_j (by decide), k19, w_1 (i := p + k) (by omega)]
              rw [if_pos (by omega)] at hN
              refine ih _ ⟨(hF3.set (by unfold tkset; omega)).set (by unfold tkset; omega), by rw [mset_s]; rfl, ?_, ?_, ?_⟩
              · rw [mset_j (by decide), mset_j (by decide)]; exact k20
              · rw [mset_j (by decide), mset_j (by decide)]; exact k21
              · rw [mset_j (by decide), mset_s]; exact hN
      · rw [if_pos (bi_ne q1)] at hS hE hV
        obtain ⟨d1, d2, d3, d4⟩ := runE_p isL t n p
        have d2 := d2 (by omega)
        have hplt : p < runE isL t n p := by
          rw [runE_y hlt (bi_ne q1)]
          have := (runE_p isL t n (p + 1)).1
          omega
        rw [← hE] at d1 d2 d3 d4 hplt
        generalize tkE t n c = e at d1 d2 d3 d4 h hV hS hplt
        refine loop_up (Inv := fun k M3 => Fp tkset M M3 ∧ M3 59 19 = ((p + k : Nat) : Int) ∧ M3 59 20 = (p : Int)) (G := fun k M3 => A m11_token 3 0 64 [(20, ((59 : Nat) : Int)), (2, 0)] [] M3 (Kd P)) (e - p) ?_ ?_ 0 _ (by omega) ⟨f1, g19, g20⟩
        · rintro M3 ⟨hF3, k19, k20⟩
          have hT3 := hT.fp hF3 (fun k j q => by unfold tkset at q; omega)
          rw [show p + (e - p) = e by omega] at k19
          apply r_11_token_64
          apply s_here hT3 k19
          apply s_isSmall
          refine ⟨fun _ => ?_, fun q3 => ?_⟩
          · apply hW t n p e M3 _ hT3 k20 k19 hplt d2 d3
            simp only [mset_s]
            have m19 : ∀ v : Int, mset M3 59 22 v 59 19 = (e : Int) := fun v => by rw [mset_j (by decide)]; exact k19
            have m20 : ∀ v : Int, mset M3 59 22 v 59 20 = (p : Int) := fun v => by rw [mset_j (by decide)]; exact k20
            have ew : w32 ((e : Int) - (p : Int)) = ((e - p : Nat) : Int) := by rw [w32_id (by omega) (by omega)]; omega
            simp only [m19, m20, ew]
            have fz : ∀ v w : Int, Fp tkset M (mset (mset M3 59 22 v) 59 21 w) := fun v w => (hF3.set (by unfold tkset; omega)).set (by unfold tkset; omega)
            by_cases z : e - p ≤ 6
            · rw [if_pos z] at hS ⊢
              by_cases y : wdx (nmN t p e) = -1
              · rw [if_pos y] at hS hV
                rw [y]
                refine ⟨fun _ => ⟨fun _ => ⟨fun q5 => absurd rfl q5, fun _ => ?_⟩, fun q5 => by omega⟩, fun q4 => absurd rfl q4⟩
                have b19 : mset (mset M3 59 22 (-1)) 59 21 1 59 19 = (e : Int) := by rw [mset_j (by decide)]; exact m19 _
                have b20 : mset (mset M3 59 22 (-1)) 59 21 1 59 20 = (p : Int) := by rw [mset_j (by decide)]; exact m20 _
                refine s_name (hT.fp (fz _ _) (fun k j q => by unfold tkset at q; omega)) b20 b19 (by omega) d2 z d3 ?_
                intro M5 hF5 k22
                refine h M5 ((fz _ _).tr (hF5.mono (fun k j q => by unfold n22 at q; unfold tkset; omega))) ⟨by rw [hF5 59 19 (by unfold n22; omega)]; exact b19, by rw [hF5 59 20 (by unfold n22; omega)]; exact b20, ?_, fun _ => by rw [k22, hV], fun x => by rw [hS] at x; cases x⟩
                rw [hF5 59 21 (by unfold n22; omega), mset_s, hS]; rfl
              · rw [if_neg y] at hS hV
                refine ⟨fun q4 => absurd q4 y, fun _ => ⟨fun _ => ?_, fun q5 => by cases q5⟩⟩
                refine h _ (fz _ _) ⟨by rw [mset_j (by decide)]; exact m19 _, by rw [mset_j (by decide)]; exact m20 _, by rw [mset_s, hS]; rfl, fun _ => by rw [mset_j (by decide), mset_s, hV], fun x => by rw [hS] at x; cases x⟩
            · rw [if_neg z] at hS ⊢
              refine ⟨fun _ => ⟨fun q5 => by omega, fun _ => ⟨fun _ => ?_, fun q6 => by cases q6⟩⟩, fun q4 => absurd rfl q4⟩
              refine h _ (fz _ _) ⟨by rw [mset_j (by decide)]; exact m19 _, by rw [mset_j (by decide)]; exact m20 _, by rw [mset_s, hS]; rfl, fun x => by rw [hS] at x; omega, fun x => by rw [hS] at x; cases x⟩
          · exfalso
            have q3 := bi_ne q3
            unfold hrb at q3
            by_cases z : e < n
            · rw [if_pos z] at q3; exact d4 ⟨z, q3⟩
            · rw [if_neg z] at q3; revert q3; decide
        · rintro k M3 hk ⟨hF3, k19, k20⟩ ih
          have hT3 := hT.fp hF3 (fun k j q => by unfold tkset at q; omega)
          have hd := d3 (p + k) (by omega) (by omega)
          have hr2 : hrb t n (p + k) = t (p + k) := if_pos (by omega)
          apply r_11_token_64
          apply s_here hT3 k19
          rw [hr2]
          apply s_isSmall
          refine ⟨fun q3 => absurd hd (bi_eq q3), fun _ => ?_⟩
          rw [k19, w_1 (i := p + k) (by omega)]
          exact ih _ ⟨hF3.set (by unfold tkset; omega), by rw [mset_s]; rfl, by rw [mset_j (by decide)]; exact k20⟩
    · have hge : n ≤ p := by
        rcases Nat.lt_or_ge p n with z | z
        · exfalso
          unfold hrb at q
          rw [if_pos z] at q
          have := hT.2.2.2 p z
          omega
        · exact z
      rw [if_pos hge] at hS hE hV
      refine h _ (f1.set (by unfold tkset; omega)) ⟨by rw [mset_j (by decide), g19, hE], by rw [mset_j (by decide), g20], by rw [mset_s, hS]; rfl, fun z => by rw [hS] at z; omega, fun z => by rw [hS] at z; cases z⟩
  · rintro k M1 hk ⟨hF, h19'⟩ ih
    have hT1 := hT.fp hF (fun k j q => by omega)
    have hbl := isB_of.mp (e3 (c + k) (by omega) (by omega))
    have hr2 : hrb t n (c + k) = t (c + k) := if_pos (by omega)
    have nx : A m11_token 3 0 0 [(20, ((59 : Nat) : Int)), (2, 0)] [] (mset M1 59 19 ((c + k + 1 : Nat) : Int)) (Kd P) := ih _ ⟨hF.set ⟨rfl, rfl⟩, by rw [mset_s]; rfl⟩
    apply r_11_token_0
    apply s_here hT1 h19'
    rw [hr2, h19', w_1 (i := c + k) (by omega)]
    refine ⟨fun _ => nx, fun q => ?_⟩
    apply s_here hT1 h19'
    rw [hr2, h19', w_1 (i := c + k) (by omega)]
    exact ⟨fun q1 => by omega, fun _ => nx⟩
/-- the same, and no place of a FAULT is told -/
def KR (M : Mem) (t : Nat → Int) (n c : Nat) : Prop :=
  M 59 19 = (tkE t n c : Int) ∧ M 59 20 = (tkP t n c : Int) ∧ M 59 21 = (tkS t n c : Int) ∧ (tkS t n c = 0 ∨ tkS t n c = 1 ∨ tkS t n c = 3 → M 59 22 = tkV t n c) ∧ (tkS t n c = 2 → NRl (M 59 22) (tkV t n c).toNat) ∧ M 59 24 = -1
theorem KR.p {M : Mem} {t : Nat → Int} {n c : Nat} (h : KR M t n c) : M 59 24 = -1 := h.2.2.2.2.2
theorem s_token (hW : WordR) {t : Nat → Int} {n c : Nat} {M : Mem} {P : Mem → Prop} (hT : TRm M t n) (hc : c ≤ n) (h19 : M 59 19 = (c : Int)) (h24 : M 59 24 = -1) (h : ∀ M', Fp tkset M M' → KR M' t n c → P M') : CD m11_token 3 [(20, ((59 : Nat) : Int))] M P :=
  s_tokeno hW hT hc h19 (fun M' hF hK => h M' hF ⟨hK.1, hK.2.1, hK.2.2.1, hK.2.2.2.1, hK.2.2.2.2, by rw [hF 59 24 (by unfold tkset; omega)]; exact h24⟩)
