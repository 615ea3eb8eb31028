/-! what is RIGHT, of the class -/
theorem cnt_stp (p : Nat → Bool) (k : Nat) : cnt p (k + 1) = (if p k = true then cnt p k + 1 else cnt p k) := by
  show cnt p k + (p k).toNat = _
  cases p k <;> simp
theorem s_countAhead {W : Nat → Int} {n p : Nat} {M : Mem} {P : Int → Mem → Prop} (hn : n < 6) (hp : p < n) (hW : ∀ j, j < n → M 41 j = W j) (h : P (rk W n p : Int) M) : CI m9_countAhead 2 [(18, ((39 : Nat) : Int)), (0, (p : Int)), (0, (n : Int))] M P := by
  have a41 : ((aln 41 : Nat) : Int) = 5 := by decide
  apply q_9_countAhead
  apply s_lat (by omega) (by omega)
  rw [Int.toNat_natCast, hW p hp]
  have key : ∀ k j : Nat, j + k = n → A m9_countAhead 2 0 15 [(18, ((39 : Nat) : Int)), (0, (p : Int)), (0, (n : Int)), (1, W p), (2, 0), (0, (cnt (fun o => bef W o p) j : Int)), (0, (j : Int)), (2, 0), (2, 0)] [] M (Ki P) := by
    intro k
    induction k with
    | zero =>
      intro j hj
      apply r_9_countAhead_15
      refine ⟨fun _ => ?_, fun q => by omega⟩
      have e : j = n := by omega
      subst e; exact h
    | succ k ih =>
      intro j hj
      have hc := cnt_le (fun o => bef W o p) j
      have nx := ih (j + 1) (by omega)
      apply r_9_countAhead_15
      refine ⟨fun q => by omega, fun _ => ?_⟩
      apply s_lat (by omega) (by omega)
      rw [Int.toNat_natCast, hW j (by omega), w_1 (by omega), w_1 (by omega)]
      rw [cnt_stp] at nx
      refine ⟨fun q => ?_, fun q => ⟨fun q2 => ?_, fun q2 => ⟨fun q3 => ?_, fun q3 => ?_⟩⟩⟩
      · rw [if_pos (by simp [bef]; omega)] at nx; exact nx
      · rw [if_neg (by simp [bef]; omega)] at nx; exact nx
      · rw [if_neg (by simp [bef]; omega)] at nx; exact nx
      · rw [if_pos (by simp [bef]; omega)] at nx; exact nx
  exact key n 0 (by omega)
/-- a book at b as the class holds it: n PARTS, each told -/
def Bk (M : Mem) (b n : Nat) (C : Nat → Int) (B E : Nat → Nat) : Prop := (b = 5 ∨ b = 21) ∧ n < 6 ∧ M b 4 = (n : Int) ∧ M (b + 5) = C ∧ (∀ j, j < n → M (b + 6) j = (B j : Int)) ∧ (∀ j, j < n → M (b + 7) j = (E j : Int)) ∧ ∀ j, j < n → fok C B E j
theorem Bk.fr {M M' : Mem} {b n : Nat} {C : Nat → Int} {B E : Nat → Nat} {s : Nat → Prop} (h : Bk M b n C B E) (hF : Fr s M M') (h0 : ¬ s b) (h5 : ¬ s (b + 5)) (h6 : ¬ s (b + 6)) (h7 : ¬ s (b + 7)) : Bk M' b n C B E :=
  by
  obtain ⟨x1, x2, x3, x4, x5, x6, x7⟩ := h
  exact ⟨x1, x2, by rw [hF b h0]; exact x3, by rw [hF _ h5]; exact x4, fun j hj => by rw [hF _ h6]; exact x5 j hj, fun j hj => by rw [hF _ h7]; exact x6 j hj, x7⟩
def rset (b : Nat) : Nat → Prop := fun k => k = b + 8 ∨ k = 41
theorem s_rightRow {b n : Nat} {C : Nat → Int} {B E : Nat → Nat} {M : Mem} {P : Int → Mem → Prop} (hb : Bk M b n C B E) (hN : Nok (M 40))
    (h : ∀ M', Fr (rset b) M M' → P (crow (Wt C B E (M 40)) n n : Int) M') : CI m9_rightRow 5 [(18, ((39 : Nat) : Int)), (10, (b : Int))] M P := by
  obtain ⟨hb1, hn, hpa, hC, hB, hE, hok⟩ := hb
  have al : aln (b + 5) = 64 ∧ aln (b + 6) = 6 ∧ aln (b + 7) = 6 ∧ aln (b + 8) = 64 := by rcases hb1 with rfl | rfl <;> exact ⟨rfl, rfl, rfl, rfl⟩
  have a41 : ((aln 41 : Nat) : Int) = 5 := by decide
  have hd : ¬ rset b b ∧ ¬ rset b (b + 5) ∧ ¬ rset b (b + 6) ∧ ¬ rset b (b + 7) ∧ ¬ rset b 40 := by
    unfold rset; rcases hb1 with rfl | rfl <;> omega
  obtain ⟨d0, d5, d6, d7, d40⟩ := hd
  generalize hNe : M 40 = N at hN h
  apply q_9_rightRow
  -- the second loop
  have rows : ∀ (W : Nat → Int) (M1 : Mem), W = Wt C B E N → (∀ j, j < n → M1 41 j = W j) → Fr (rset b) M M1 → ∀ k j : Nat, j + k = n → A m9_rightRow 5 0 54 [(18, ((39 : Nat) : Int)), (10, (b : Int)), (0, (crow W n j : Int)), (0, (j : Int)), (2, 0)] [] M1 (Ki P) := by
    intro W M1 hWe hW hF k
    have hp1 : M1 b 4 = (n : Int) := by rw [hF b d0]; exact hpa
    induction k with
    | zero =>
      intro j hj
      apply r_9_rightRow_54
      refine ⟨fun _ => ?_, fun q => by omega⟩
      have e : j = n := by omega
      subst e; subst hWe; exact h M1 hF
    | succ k ih =>
      intro j hj
      have nx := ih (j + 1) (by omega)
      apply r_9_rightRow_54
      refine ⟨fun q => by omega, fun _ => ?_⟩
      rw [hp1]
      apply s_countAhead hn (by omega) hW
      have hr := rk_lt (W := W) (n := n) (p := j) (by omega)
      have h8 := (crow_w (W := W) (k := 0) hn j (by omega)).2.2
      have h9 := p8_lt hn
      have hs := sh_lt (p := j) (j := rk W n j) (n := n) (by omega) hr
      have e3 : w32 (3 * (rk W n j : Int)) = ((3 * rk W n j : Nat) : Int) := by unfold w32; omega
      have hlt : j * 2 ^ (3 * rk W n j) < 2147483648 := by
        rw [← Nat.shiftLeft_eq]; omega
      rw [e3, ishl_n (by omega) hlt, ior_n (by omega) (by omega), w_1 (by omega)]
      exact nx
  have key : ∀ (k j : Nat) (M1 : Mem), j + k = n → (∀ i, i < j → M1 41 i = Wt C B E N i) → Fr (rset b) M M1 → A m9_rightRow 5 0 2 [(18, ((39 : Nat) : Int)), (10, (b : Int)), (0, (j : Int)), (2, 0), (2, 0)] [] M1 (Ki P) := by
    intro k
    induction k with
    | zero =>
      intro j M1 hj hW hF
      have hp1 : M1 b 4 = (n : Int) := by rw [hF b d0]; exact hpa
      apply r_9_rightRow_2
      refine ⟨fun _ => ?_, fun q => by omega⟩
      exact rows (Wt C B E N) M1 rfl (fun i hi => hW i (by omega)) hF n 0 (by omega)
    | succ k ih =>
      intro j M1 hj hW hF
      have hp1 : M1 b 4 = (n : Int) := by rw [hF b d0]; exact hpa
      have hf := hok j (by omega)
      apply r_9_rightRow_2
      refine ⟨fun q => by omega, fun _ => ?_⟩
      have hN1 : M1 40 = N := by rw [hF 40 d40]; exact hNe
      apply s_work (o := b + 4) (b := B j) (e := E j) al rfl (by omega) (by rcases hb1 with q | q <;> omega) (by rw [hF _ d6]; exact hB j (by omega)) (by rw [hF _ d7]; exact hE j (by omega)) hf.1 hf.2.1
        (by rw [hF _ d5, hC]; exact hf.2.2) (by rw [hN1]; exact hN)
      intro M2 hF2
      have hF3 : Fr (rset b) M M2 := hF.tr (hF2.mono (fun k hk => Or.inl hk))
      rw [show M1 (b + 4 + 1) = C from (hF _ d5).trans hC, hN1]
      show _ ∧ _
      have hst : ∀ v : Int, v = Wt C B E N j → CD m10_putLong 1 [(32, ((41 : Nat) : Int)), (0, (j : Int)), (1, v)] M2 (fun M14 => A m9_rightRow 5 0 2 [(18, ((39 : Nat) : Int)), (10, (b : Int)), (0, (w32 ((j : Int) + 1))), (2, 0), (2, 0)] [] M14 (Ki P)) := by
        intro v hv
        apply s_lput (by omega) (by omega)
        rw [Int.toNat_natCast, w_1 (by omega)]
        refine ih (j + 1) _ (by omega) (fun i hi => ?_) (hF3.set (Or.inr rfl))
        by_cases q : i = j
        · subst q; rw [mset_s]; exact hv
        · rw [mset_j q]
          have e41 : M2 41 = M1 41 := hF2 41 (by rcases hb1 with q | q <;> omega)
          rw [e41]; exact hW i (by omega)
      have hrv : rv (evl C N (B j) (E j - B j) []) = rvv C B E j N := rfl
      have hWt : Wt C B E N j = (match rvv C B E j N with | some v => v | none => 0) := rfl
      rw [hrv]
      cases hv : rvv C B E j N with
      | none =>
        rw [hv] at hWt
        exact ⟨fun q => absurd rfl q, fun _ => hst 0 hWt.symm⟩
      | some v =>
        rw [hv] at hWt
        have hbd := rvv_bd hN hf.2.2 hv
        exact ⟨fun _ => hst v hWt.symm, fun q => by have q : v = -9223372036854775808 := q; omega⟩
  exact key n 0 M (by omega) (fun i hi => by omega) Fr.rf
