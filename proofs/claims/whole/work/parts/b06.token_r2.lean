/-! the reference: token -/
/-- what word() answers: shown where the text of the words stands -/
def WordR : Prop := ∀ (t : Nat → Int) (n p e : Nat) (M : Mem) (P : Int → Mem → Prop), TRm M t n → M 59 20 = (p : Int) → M 59 19 = (e : Int) → p < e → e ≤ n → (∀ j, p ≤ j → j < e → isL (t j) = true) → P (if e - p ≤ 6 then wdx (nmN t p e) else -1) M → CI m11_word 2 [(20, ((59 : Nat) : Int))] M P
def n22 (k j : Nat) : Prop := k = 59 ∧ j = 22
/-- the letters of a name, so many of them told and then nothing -/
def nvN (t : Nat → Int) (p L i : Nat) : Nat := if i ≤ L then pkN t p i else pkN t p L * 32 ^ (i - L)
theorem nvN_lo {t : Nat → Int} {p L i : Nat} (h : i < L) : nvN t p L (i + 1) = nvN t p L i * 32 + (t (p + i) - 96).toNat := by
  unfold nvN
  rw [if_pos (show i + 1 ≤ L from h), if_pos (Nat.le_of_lt h)]
  rfl
theorem nvN_hi {t : Nat → Int} {p L i : Nat} (h : L ≤ i) : nvN t p L (i + 1) = nvN t p L i * 32 := by
  unfold nvN
  rw [if_neg (Nat.not_le.mpr (Nat.lt_succ_of_le h))]
  by_cases q : i ≤ L
  · have e : i = L := Nat.le_antisymm q h
    subst e
    rw [if_pos q, Nat.add_sub_cancel_left, Nat.pow_one]
  · rw [if_neg q, Nat.succ_sub h, Nat.pow_succ, Nat.mul_assoc]
theorem nvN_lt {t : Nat → Int} {p L : Nat} (h : ∀ j, j < L → isL (t (p + j)) = true) : ∀ i, nvN t p L i < 32 ^ i
  | 0 => by unfold nvN; rw [if_pos (Nat.zero_le _)]; exact Nat.lt_succ_self 0
  | i + 1 => by
    have ih := nvN_lt h i
    rw [Nat.pow_succ]
    by_cases q : i < L
    · rw [nvN_lo q]
      have := isL_of.mp (h i q)
      generalize nvN t p L i = v at ih ⊢
      generalize 32 ^ i = w at ih ⊢
      omega
    · rw [nvN_hi (Nat.not_lt.mp q)]
      generalize nvN t p L i = v at ih ⊢
      generalize 32 ^ i = w at ih ⊢
      omega
theorem nvN_b {t : Nat → Int} {p L i : Nat} (h : ∀ j, j < L → isL (t (p + j)) = true) (hi : i < 6) : nvN t p L i < 33554432 := by
  have h1 := nvN_lt h i
  have h2 : 32 ^ i ≤ 32 ^ 5 := Nat.pow_le_pow_right (by decide) (Nat.le_of_lt_succ hi)
  exact Nat.lt_of_lt_of_le h1 h2
theorem nvN_6 {t : Nat → Int} {p e : Nat} (h6 : e - p ≤ 6) : nvN t p (e - p) 6 = nmN t p e := by
  unfold nvN nmN
  by_cases z : 6 ≤ e - p
  · have : e - p = 6 := Nat.le_antisymm h6 z
    rw [if_pos z, this]; simp
  · rw [if_neg z]
theorem let_w {x : Int} (h : isL x = true) : w32 (w32 (x - 97) + 1) = (((x - 96).toNat : Nat) : Int) ∧ (x - 96).toNat < 32 := by
  have := isL_of.mp h
  rw [w32_id (z := x - 97) (by omega) (by omega), w32_id (by omega) (by omega)]; omega
theorem shl5 {v : Nat} (hv : v < 33554432) : ishl (v : Int) 5 = ((v * 32 : Nat) : Int) := by
  have := ishl_n (a := v) (b := 5) (by decide) (by omega)
  rw [Nat.shiftLeft_eq] at this
  exact this
theorem shl5z {v : Nat} (hv : v < 33554432) : ior (ishl (v : Int) 5) 0 = ((v * 32 : Nat) : Int) := by
  rw [shl5 hv]
  have eo : ior ((v * 32 : Nat) : Int) ((0 : Nat) : Int) = ((v * 32 ||| 0 : Nat) : Int) := ior_n (by omega) (by decide)
  rw [Nat.or_zero] at eo
  exact eo
theorem shl5x {v : Nat} {x : Int} (hv : v < 33554432) (hx : isL x = true) : ior (ishl (v : Int) 5) (w32 (w32 (x - 97) + 1)) = ((v * 32 + (x - 96).toNat : Nat) : Int) := by
  obtain ⟨h1, h2⟩ := let_w hx
  rw [shl5 hv, h1]
  generalize (x - 96).toNat = u at h2
  have eor : v * 32 ||| u = v * 32 + u := by
    have := Nat.shiftLeft_add_eq_or_of_lt (a := v) (b := u) (i := 5) h2
    rw [Nat.shiftLeft_eq] at this
    exact this.symm
  rw [ior_n (by omega) (by omega), eor]
theorem s_name {t : Nat → Int} {n p e : Nat} {M : Mem} {P : Mem → Prop} (hT : TRm M t n) (h20 : M 59 20 = (p : Int)) (h19 : M 59 19 = (e : Int)) (hpe : p ≤ e) (hen : e ≤ n) (h6 : e - p ≤ 6) (hl : ∀ j, p ≤ j → j < e → isL (t j) = true)
    (h : ∀ M', Fp n22 M M' → M' 59 22 = (nmN t p e : Int) → P M') : CD m11_name 1 [(20, ((59 : Nat) : Int))] M P := by
  have h700 := hT.2.1
  have hlet : ∀ j, j < e - p → isL (t (p + j)) = true := fun j hj => hl (p + j) (by omega) (by omega)
  have f0 : Fp n22 M M := Fp.rf
  rw [← nvN_6 h6] at h
  apply q_11_name
  have key : ∀ i M1, i ≤ 6 → (Fp n22 M M1 ∧ M1 59 22 = (nvN t p (e - p) i : Int)) → A m11_name 1 0 7 [(20, ((59 : Nat) : Int)), (0, (i : Int))] [] M1 (Kd P) := by
    refine loop_up (Inv := fun i M1 => Fp n22 M M1 ∧ M1 59 22 = (nvN t p (e - p) i : Int)) (G := fun i M1 => A m11_name 1 0 7 [(20, ((59 : Nat) : Int)), (0, (i : Int))] [] M1 (Kd P)) 6 ?_ ?_
    · rintro M1 ⟨hF, hv⟩
      apply r_11_name_7
      exact ⟨fun _ => h M1 hF hv, fun q => absurd q (by decide)⟩
    · rintro i M1 hi ⟨hF, hv⟩ ih
      have ep : w32 ((p : Int) + (i : Int)) = ((p + i : Nat) : Int) := by rw [w32_id (by omega) (by omega)]; omega
      have hni : ¬ (6 : Int) ≤ (i : Int) := by omega
      have hq1 : (e : Int) ≤ ((p + i : Nat) : Int) → e - p ≤ i := fun q => by omega
      have hq2 : ((p + i : Nat) : Int) < (e : Int) → i < e - p ∧ p + i < n ∧ (0 ≤ ((p + i : Nat) : Int) ∧ ((p + i : Nat) : Int) < 700) := fun q => by omega
      have h19' : M1 59 19 = (e : Int) := by rw [hF 59 19 (fun z => absurd z.2 (by decide))]; exact h19
      have h20' : M1 59 20 = (p : Int) := by rw [hF 59 20 (fun z => absurd z.2 (by decide))]; exact h20
      have hT1 := hT.fp hF (fun k j q => ⟨fun z => absurd (z.symm.trans q.1) (by decide), fun z => absurd (z.2.symm.trans q.2) (by decide)⟩)
      apply r_11_name_7
      rw [h19', h20', ep, w_1 (i := i) (Nat.lt_trans hi (by decide)), hv]
      refine ⟨fun q => absurd q hni, fun _ => ⟨fun q => ?_, fun q => ?_⟩⟩
      · refine ih _ ⟨hF.set ⟨rfl, rfl⟩, ?_⟩
        rw [mset_s, shl5z (nvN_b hlet hi), nvN_hi (hq1 q)]
      · obtain ⟨k1, k2, k3⟩ := hq2 q
        rw [Int.toNat_natCast, hT1.2.2.1 (p + i) k2]
        refine ⟨k3, ih _ ⟨hF.set ⟨rfl, rfl⟩, ?_⟩⟩
        rw [mset_s, shl5x (nvN_b hlet hi) (hlet i k1), nvN_lo k1]
  exact key 0 _ (Nat.zero_le _) ⟨f0.set ⟨rfl, rfl⟩, by rw [mset_s]; unfold nvN; rw [if_pos (Nat.zero_le _)]; rfl⟩
/-- what the reference holds once a TOKEN is read that stands behind c -/
def KR (M : Mem) (t : Nat → Int) (n c : Nat) : Prop :=
  M 59 19 = (tkE t n c : Int) ∧ M 59 20 = (tkP t n c : Int) ∧ M 59 21 = (tkS t n c : Int) ∧ (tkS t n c = 0 ∨ tkS t n c = 1 ∨ tkS t n c = 3 → M 59 22 = tkV t n c) ∧ (tkS t n c = 2 → NRl (M 59 22) (tkV t n c).toNat)
