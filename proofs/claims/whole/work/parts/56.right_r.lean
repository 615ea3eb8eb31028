/-! what is RIGHT, of the reference -/
def ins (o : Nat → Nat) (p x : Nat) : Nat → Nat := fun k => if k < p then o k else if k = p then x else o (k - 1)
theorem srt_ins {W : Nat → Int} {i p : Nat} {o : Nat → Nat} (h : srt W i o) (hp : p ≤ i) (h1 : ∀ k, p ≤ k → k < i → bef W i (o k) = true) (h2 : p = 0 ∨ bef W (o (p - 1)) i = true) : srt W (i + 1) (ins o p i) := by
  obtain ⟨g1, g2, g3⟩ := h
  have h3 : ∀ k, k < p → bef W (o k) i = true := by
    intro k hk
    rcases h2 with q | q
    · omega
    · by_cases e : k = p - 1
      · rw [e]; exact q
      · exact bef_tr (g2 k (p - 1) (by omega) (by omega)) q
  refine ⟨fun j hj => ?_, fun a b hab hb => ?_, fun x hx => ?_⟩
  · unfold ins
    split
    · have := g1 j (by omega); omega
    · split
      · omega
      · have := g1 (j - 1) (by omega); omega
  · unfold ins
    by_cases ha : a < p
    · rw [if_pos ha]
      by_cases hb2 : b < p
      · rw [if_pos hb2]; exact g2 a b hab (by omega)
      · rw [if_neg hb2]
        by_cases hb3 : b = p
        · rw [if_pos hb3]; exact h3 a ha
        · rw [if_neg hb3]; exact g2 a (b - 1) (by omega) (by omega)
    · rw [if_neg ha]
      by_cases ha2 : a = p
      · rw [if_pos ha2, if_neg (by omega), if_neg (by omega)]; exact h1 (b - 1) (by omega) (by omega)
      · rw [if_neg ha2, if_neg (by omega), if_neg (by omega)]; exact g2 (a - 1) (b - 1) (by omega) (by omega)
  · by_cases e : x = i
    · exact ⟨p, by omega, by unfold ins; rw [if_neg (by omega), if_pos rfl]; exact e.symm⟩
    · obtain ⟨j, hj, hjx⟩ := g3 x (by omega)
      by_cases q : j < p
      · exact ⟨j, by omega, by unfold ins; rw [if_pos q]; exact hjx⟩
      · exact ⟨j + 1, by omega, by unfold ins; rw [if_neg (by omega), if_neg (by omega)]; exact hjx⟩
/-- the book as the reference holds it -/
def Rk (M : Mem) (n : Nat) (C : Nat → Int) (B E : Nat → Nat) : Prop := n < 6 ∧ M 61 2 = (n : Int) ∧ (∀ j, j < n → M 65 j = (B j : Int)) ∧ (∀ j, j < n → M 66 j = (E j : Int)) ∧ (∀ j, j < n → ∀ i, B j ≤ i → i < E j → C i = enc (M 67 i) (M 68 i) ∧ kval (M 67 i) (M 68 i)) ∧ ∀ j, j < n → fok C B E j
def aset : Nat → Nat → Prop := fun k j => gset k j ∨ k = 79 ∨ k = 80
theorem aset_no {k j : Nat} (h : k ≠ 59 ∧ k ≠ 78 ∧ k ≠ 79 ∧ k ≠ 80) : ¬ aset k j := by
  unfold aset gset; omega
theorem Rk.fp {M M' : Mem} {n : Nat} {C : Nat → Int} {B E : Nat → Nat} {s : Nat → Nat → Prop} (h : Rk M n C B E) (hF : Fp s M M') (h61 : ¬ s 61 2) (h65 : ∀ j, ¬ s 65 j) (h66 : ∀ j, ¬ s 66 j) (h67 : ∀ j, ¬ s 67 j) (h68 : ∀ j, ¬ s 68 j) : Rk M' n C B E := by
  obtain ⟨x1, x2, x3, x4, x5, x6⟩ := h
  have e65 := hF.row h65
  have e66 := hF.row h66
  have e67 := hF.row h67
  have e68 := hF.row h68
  exact ⟨x1, by rw [hF 61 2 h61]; exact x2, by rw [e65]; exact x3, by rw [e66]; exact x4, by rw [e67, e68]; exact x5, x6⟩
theorem s_arrange {n : Nat} {C : Nat → Int} {B E : Nat → Nat} {M : Mem} {P : Mem → Prop} (hr : Rk M n C B E) (hN : Nok (M 77))
    (h : ∀ M' o, Fp aset M M' → (∀ k, k < n → M' 80 k = ((o k : Nat) : Int)) → srt (Wt C B E (M 77)) n o → P M') : CD m11_arrange 4 [(20, ((59 : Nat) : Int))] M P := by
  have hn := hr.1
  generalize hNe : M 77 = N at hN h
  generalize hWe : Wt C B E N = W at h
  apply q_11_arrange
  rw [hr.2.1]
  have key : ∀ (k i : Nat) (o : Nat → Nat) (M1 : Mem), i + k = n → Fp aset M M1 → srt W i o → (∀ j, j < i → M1 80 j = ((o j : Nat) : Int)) → (∀ j, j < i → M1 79 j = W j) → A m11_arrange 4 0 9 [(20, ((59 : Nat) : Int)), (0, (n : Int)), (0, (i : Int)), (2, 0)] [] M1 (Kd P) := by
    intro k
    induction k with
    | zero =>
      intro i o M1 hi hF hs ho _
      apply r_11_arrange_9
      refine ⟨fun _ => ?_, fun q => by omega⟩
      have e : i = n := by omega
      subst e
      exact h M1 o hF ho hs
    | succ k ih =>
      intro i o M1 hi hF hs ho hst
      -- the inner loop
      have inner : ∀ (p : Nat) (M2 : Mem), p ≤ i → Fp aset M M2 → (∀ j, j < p → M2 80 j = ((o j : Nat) : Int)) → (∀ j, p < j → j ≤ i → M2 80 j = ((o (j - 1) : Nat) : Int)) → (∀ j, j ≤ i → M2 79 j = W j) → (∀ k, p ≤ k → k < i → W i < W (o k))
          → A m11_arrange 4 0 40 [(20, ((59 : Nat) : Int)), (0, (n : Int)), (0, (i : Int)), (0, (p : Int))] [] M2 (Kd P) := by
        intro p
        induction p with
        | zero =>
          intro M2 hp hF2 _ h2 h3 h4
          apply r_11_arrange_40
          refine ⟨fun _ => ⟨by omega, ?_⟩, fun q => by omega⟩
          rw [w_1 (by omega)]
          refine ih (i + 1) (ins o 0 i) _ (by omega) (hF2.set (Or.inr (Or.inr rfl))) (srt_ins hs hp (fun k hk1 hk2 => by have := h4 k hk1 hk2; simp [bef]; omega) (Or.inl rfl)) (fun j hj => ?_) (fun j hj => ?_)
          · unfold ins
            rw [if_neg (by omega)]
            by_cases q : j = 0
            · subst q; rw [if_pos rfl]; exact mset_s
            · rw [if_neg q, mset_j (by simpa using q)]; exact h2 j (by omega) (by omega)
          · rw [mset_k (by omega)]; exact h3 j (by omega)
        | succ p ihp =>
          intro M2 hp hF2 h1 h2 h3 h4
          have ep : w32 (((p + 1 : Nat) : Int) - 1) = (p : Int) := by unfold w32; omega
          have ep2 : w32 (((p + 1 : Nat) : Int) + (-1)) = (p : Int) := by unfold w32; omega
          have hop := hs.1 p (by omega)
          apply r_11_arrange_40
          refine ⟨fun q => by omega, fun _ => ?_⟩
          rw [ep, ep2, Int.toNat_natCast, Int.toNat_natCast, Int.toNat_natCast, h1 p (by omega), Int.toNat_natCast, h3 _ (by omega : o p ≤ i), h3 i (Nat.le_refl i), w_1 (by omega)]
          refine ⟨by omega, by omega, by omega, fun q => ⟨by omega, ?_⟩, fun q => ⟨by omega, by omega, ?_⟩⟩
          · refine ih (i + 1) (ins o (p + 1) i) _ (by omega) (hF2.set (Or.inr (Or.inr rfl))) (srt_ins hs hp (fun k hk1 hk2 => by have := h4 k hk1 hk2; simp [bef]; omega) (Or.inr (by simp [bef]; omega))) (fun j hj => ?_) (fun j hj => ?_)
            · unfold ins
              by_cases q1 : j < p + 1
              · rw [if_pos q1, mset_j (by omega)]; exact h1 j q1
              · rw [if_neg q1]
                by_cases q2 : j = p + 1
                · subst q2; rw [if_pos rfl]; exact mset_s
                · rw [if_neg q2, mset_j q2]; exact h2 j (by omega) (by omega)
            · rw [mset_k (by omega)]; exact h3 j (by omega)
          · refine ihp _ (by omega) (hF2.set (Or.inr (Or.inr rfl))) (fun j hj => ?_) (fun j hj1 hj2 => ?_) (fun j hj => ?_) (fun k hk1 hk2 => ?_)
            · rw [mset_j (by omega)]; exact h1 j (by omega)
            · by_cases q2 : j = p + 1
              · subst q2; rw [mset_s]; rfl
              · rw [mset_j q2]; exact h2 j (by omega) hj2
            · rw [mset_k (by omega)]; exact h3 j hj
            · by_cases q2 : k = p
              · subst q2; exact q
              · exact h4 k (by omega) hk2
      have goOn : ∀ (M2 : Mem) (v : Int), Fp gset M1 M2 → v = W i → A m11_arrange 4 0 40 [(20, ((59 : Nat) : Int)), (0, (n : Int)), (0, (i : Int)), (0, (i : Int))] [] (mset M2 79 i v) (Kd P) := by
        intro M2 v hF2 hv
        have e80 : M2 80 = M1 80 := hF2.row (fun j => by unfold gset; omega)
        have e79 : M2 79 = M1 79 := hF2.row (fun j => by unfold gset; omega)
        refine inner i _ (Nat.le_refl i) ((hF.tr (hF2.mono (fun k j hk => Or.inl hk))).set (Or.inr (Or.inl rfl))) (fun j hj => ?_) (fun j hj1 hj2 => by omega) (fun j hj => ?_) (fun k hk1 hk2 => by omega)
        · rw [mset_k (by omega), e80]; exact ho j hj
        · by_cases q : j = i
          · subst q; rw [mset_s]; exact hv
          · rw [mset_j q, e79]; exact hst j (by omega)
      obtain ⟨_, _, x3, x4, x5, x6⟩ := hr.fp hF (aset_no (by omega)) (fun _ => aset_no (by omega)) (fun _ => aset_no (by omega)) (fun _ => aset_no (by omega)) (fun _ => aset_no (by omega))
      have hf := x6 i (by omega)
      have e77 : M1 77 = N := by rw [hF.row (fun j => aset_no (by omega))]; exact hNe
      apply r_11_arrange_9
      refine ⟨fun q => by omega, fun _ => ?_⟩
      rw [Int.toNat_natCast]
      have hWi : W i = (match rvv C B E i N with | some v => v | none => 0) := by rw [← hWe]; rfl
      have hrv : rv (evl C N (B i) (E i - B i) []) = rvv C B E i N := rfl
      refine s_goes (b := B i) (e := E i) (C := C) (by omega) (x3 i (by omega)) (x4 i (by omega)) hf.1 hf.2.1 (x5 i (by omega)) hf.2.2 (by rw [e77]; exact hN) ?_ ?_
      · rw [e77, hrv]
        intro v hv M2 hF2 h0
        refine ⟨fun q => by omega, fun _ => ⟨by omega, goOn M2 _ hF2 ?_⟩⟩
        rw [h0, hWi, hv]
      · rw [e77, hrv]
        intro hv M2 hF2
        refine ⟨fun _ => ⟨by omega, goOn M2 _ hF2 ?_⟩, fun q => by omega⟩
        rw [hWi, hv]
  exact key n 0 (fun _ => 0) M (by omega) Fp.rf ⟨fun j hj => by omega, fun a b _ hb => by omega, fun x hx => by omega⟩ (fun j hj => by omega) (fun j hj => by omega)
theorem s_rowOf {n : Nat} {W : Nat → Int} {o : Nat → Nat} {M : Mem} {P : Int → Mem → Prop} (hn : n < 6) (hp : M 61 2 = (n : Int)) (ho : ∀ k, k < n → M 80 k = ((o k : Nat) : Int)) (hs : srt W n o) (h : P (crow W n n : Int) M) : CI m11_rowOf 1 [(20, ((59 : Nat) : Int))] M P := by
  apply q_11_rowOf
  have key : ∀ k j : Nat, j + k = n → A m11_rowOf 1 0 4 [(20, ((59 : Nat) : Int)), (0, (orow o j : Int)), (0, (j : Int))] [] M (Ki P) := by
    intro k
    induction k with
    | zero =>
      intro j hj
      apply r_11_rowOf_4
      refine ⟨fun _ => ?_, fun q => by omega⟩
      have e : j = n := by omega
      subst e; rw [orow_crow hn hs]; exact h
    | succ k ih =>
      intro j hj
      have nx := ih (j + 1) (by omega)
      have hoj := hs.1 j (by omega)
      apply r_11_rowOf_4
      refine ⟨fun q => by omega, fun _ => ⟨by omega, ?_⟩⟩
      have h8 := (orow_w (o := o) (n := n) (fun j hj => by have := hs.1 j hj; omega) j (by omega)).2
      have h9 := p8_lt hn
      have h10 := p8_mono (show j ≤ n by omega)
      have hs2 := sh_lt (p := o j) (j := j) (n := n) (by omega) (by omega)
      have e3 : w32 (3 * (j : Int)) = ((3 * j : Nat) : Int) := by unfold w32; omega
      have hlt : o j * 2 ^ (3 * j) < 2147483648 := by
        rw [← Nat.shiftLeft_eq]; omega
      rw [Int.toNat_natCast, ho j (by omega), e3, ishl_n (by omega) hlt, ior_n (by omega) (by omega), w_1 (by omega)]
      exact nx
  exact key n 0 (by omega)
