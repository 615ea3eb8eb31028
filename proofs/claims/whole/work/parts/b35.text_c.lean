/-! the class's text -/
theorem Fp.cpy {s : Nat → Nat → Prop} {M M1 : Mem} {a b n : Nat} (h : Fp s M M1) (hs : ∀ j, s b j) : Fp s M (mcpy M1 a b n) := fun k j hk => by
  rw [mcpy_o (fun e => hk (by rw [e]; exact hs j))]; exact h k j hk
theorem s_take {M : Mem} {P : Mem → Prop} (h7 : M 5 7 = 0 ∨ M 5 7 = 1) (h8 : M 5 8 = 0 ∨ M 5 8 = 1)
    (h : ∀ M', Fp (fun k _ => 21 ≤ k ∧ k ≤ 28) M M' → M' 21 2 = M 5 2 → M' 21 4 = M 5 4 → M' 21 6 = M 5 6 → M' 21 8 = M 5 8 → M' 25 5 = M 9 5 → (∀ j, j < 5 → M' 22 j = M 6 j ∧ M' 23 j = M 7 j ∧ M' 24 j = M 8 j) → (∀ j, j < 64 → M' 26 j = M 10 j) → (∀ j, j < 6 → M' 27 j = M 11 j ∧ M' 28 j = M 12 j) → P M') : CD m0_take 3 [(10, ((21 : Nat) : Int)), (10, ((5 : Nat) : Int))] M P := by
  apply q_0_take
  refine ⟨by decide, by decide, by decide, ?_⟩
  apply q_3_take
  refine ⟨by decide, by decide, by decide, ?_⟩
  have f0 : Fp (fun k (_ : Nat) => 21 ≤ k ∧ k ≤ 28) M M := Fp.rf
  refine ⟨?_, ?_, h _ ?_ ?_ ?_ ?_ ?_ ?_ ?_ ?_ ?_⟩
  · simpa [mset, mcpy] using h7
  · simpa [mset, mcpy] using h8
  · refine Fp.set (Fp.set (Fp.set (Fp.set (Fp.set (Fp.cpy (Fp.cpy (Fp.cpy (Fp.set (Fp.cpy (Fp.set (Fp.cpy (Fp.cpy f0 ?_) ?_) ?_) ?_) ?_) ?_) ?_) ?_) ?_) ?_) ?_) ?_) ?_ <;> first | (intro _; decide) | decide
  · simp [mset, mcpy]
  · simp [mset, mcpy]
  · simp [mset, mcpy]
  · simp [mset, mcpy]
  · simp [mset, mcpy]
  · intro j hj; simp [mset, mcpy, hj]
  · intro j hj; simp [mset, mcpy, hj]
  · intro j hj; simp [mset, mcpy, hj]
/-- what a TEXT that is told leaves in the class -/
def SLc (M : Mem) (L : LnS) : Prop :=
  M 21 2 = (L.1 1 : Int) ∧ M 21 4 = (L.1 3 : Int) ∧ M 0 5 = (L.1 5 : Int) ∧ M 21 8 = (L.1 6 : Int) ∧ M 25 5 = (L.1 7 : Int) ∧ (∀ j, j < L.1 1 → M 22 j = L.2.1 0 j ∧ M 23 j = L.2.1 1 j) ∧ (∀ j, j < L.1 3 → M 24 j = L.2.1 2 j) ∧ (∀ i, i < L.2.2.2.length → M 26 i = L.2.2.2.getD i 0) ∧ (∀ i, i < L.1 3 ∨ (i = 5 ∧ L.1 6 = 1) → M 27 i = L.2.1 3 i ∧ M 28 i = L.2.1 4 i) ∧ M 30 1 = (L.1 2 : Int) ∧ SameF (FcT M 30) L.2.2.1 (L.1 2) ∧ M 43 5 = 0 ∧ M 43 6 = -1 ∧ M 49 4 = 0 ∧ M 0 8 = 0
def tlC (k j : Nat) : Prop := (21 ≤ k ∧ k ≤ 28) ∨ k = 30 ∨ k = 31 ∨ (k = 0 ∧ (j = 5 ∨ j = 8)) ∨ (k = 43 ∧ (j = 5 ∨ j = 6)) ∨ (k = 49 ∧ j = 4)
theorem s_tailC {L : LnS} {M : Mem} {P : Int → Mem → Prop} (hW : WFL L) (hD : LD M L) (h : ∀ M', Fp tlC M M' → SLc M' L → P (L.1 8 : Int) M') : tailC P M := by
  obtain ⟨w1, w2, w3, w7, wl, w5, w6, wg, wn, wf⟩ := hW
  obtain ⟨d1, d2, d3, d4, d5, d6, ⟨f1, f2, f3⟩, d7, d8, d9, d10, d11⟩ := hD
  unfold tailC
  refine s_take (by rw [d5]; omega) (by rw [d6]; omega) ?_
  intro M1 hF1 t2 t4 t6 t8 t5 tn tc tf
  have e : ∀ k, ¬ (21 ≤ k ∧ k ≤ 28) → M1 k = M k := fun k z => hF1.row (fun _ => z)
  apply q_2_take
  refine ⟨by decide, ?_⟩
  apply q_4_clear
  apply q_6_forget
  have g2 : ∀ k j : Nat, k ≠ 30 → k ≠ 31 → ¬ (k = 0 ∧ (j = 5 ∨ j = 8)) → ¬ (k = 43 ∧ (j = 5 ∨ j = 6)) → ¬ (k = 49 ∧ j = 4) → mset (mset (mset (mset (mset (mset (mcpy M1 (14 + 1) (30 + 1) 120) 30 1 (mcpy M1 (14 + 1) (30 + 1) 120 14 1)) 0 5 (mset (mcpy M1 (14 + 1) (30 + 1) 120) 30 1 (mcpy M1 (14 + 1) (30 + 1) 120 14 1) 21 6)) 43 5 0) 43 6 (-1)) 49 4 0) 0 8 0 k j = M1 k j := by
    intro k j n30 n31 n0 n43 n49
    unfold mset
    rw [if_neg (by omega), if_neg (by omega), if_neg (by omega), if_neg (by omega), if_neg (by omega), if_neg (by omega), mcpy_o (by omega)]
  have hr : ∀ k : Nat, k ≠ 30 → k ≠ 31 → k ≠ 0 → k ≠ 43 → k ≠ 49 → mset (mset (mset (mset (mset (mset (mcpy M1 (14 + 1) (30 + 1) 120) 30 1 (mcpy M1 (14 + 1) (30 + 1) 120 14 1)) 0 5 (mset (mcpy M1 (14 + 1) (30 + 1) 120) 30 1 (mcpy M1 (14 + 1) (30 + 1) 120 14 1) 21 6)) 43 5 0) 43 6 (-1)) 49 4 0) 0 8 0 k = M1 k := fun k a b c d e => funext fun j => g2 k j a b (by omega) (by omega) (by omega)
  have hfr : Fp tlC M (mset (mset (mset (mset (mset (mset (mcpy M1 (14 + 1) (30 + 1) 120) 30 1 (mcpy M1 (14 + 1) (30 + 1) 120 14 1)) 0 5 (mset (mcpy M1 (14 + 1) (30 + 1) 120) 30 1 (mcpy M1 (14 + 1) (30 + 1) 120 14 1) 21 6)) 43 5 0) 43 6 (-1)) 49 4 0) 0 8 0) := fun k j hk => by
    unfold tlC at hk
    rw [g2 k j (by omega) (by omega) (by omega) (by omega) (by omega)]
    exact hF1 k j (by omega)
  have ev : mset (mset (mset (mset (mset (mset (mcpy M1 (14 + 1) (30 + 1) 120) 30 1 (mcpy M1 (14 + 1) (30 + 1) 120 14 1)) 0 5 (mset (mcpy M1 (14 + 1) (30 + 1) 120) 30 1 (mcpy M1 (14 + 1) (30 + 1) 120 14 1) 21 6)) 43 5 0) 43 6 (-1)) 49 4 0) 0 8 0 2 2 = (L.1 8 : Int) := by
    rw [g2 2 2 (by omega) (by omega) (by omega) (by omega) (by omega), e 2 (by omega)]; exact d1
  have v05 : mset (mset (mset (mset (mset (mset (mcpy M1 (14 + 1) (30 + 1) 120) 30 1 (mcpy M1 (14 + 1) (30 + 1) 120 14 1)) 0 5 (mset (mcpy M1 (14 + 1) (30 + 1) 120) 30 1 (mcpy M1 (14 + 1) (30 + 1) 120 14 1) 21 6)) 43 5 0) 43 6 (-1)) 49 4 0) 0 8 0 0 5 = (L.1 5 : Int) := by
    rw [mset_j (by decide), mset_k (by decide), mset_k (by decide), mset_k (by decide), mset_s, mset_k (by decide), mcpy_o (by decide), t6]; exact d4
  have v30 : mset (mset (mset (mset (mset (mset (mcpy M1 (14 + 1) (30 + 1) 120) 30 1 (mcpy M1 (14 + 1) (30 + 1) 120 14 1)) 0 5 (mset (mcpy M1 (14 + 1) (30 + 1) 120) 30 1 (mcpy M1 (14 + 1) (30 + 1) 120 14 1) 21 6)) 43 5 0) 43 6 (-1)) 49 4 0) 0 8 0 30 1 = (L.1 2 : Int) := by
    rw [mset_k (by decide), mset_k (by decide), mset_k (by decide), mset_k (by decide), mset_k (by decide), mset_s, mcpy_o (by decide), e 14 (by omega)]; exact d10
  have v31 : ∀ j, j < 120 → mset (mset (mset (mset (mset (mset (mcpy M1 (14 + 1) (30 + 1) 120) 30 1 (mcpy M1 (14 + 1) (30 + 1) 120 14 1)) 0 5 (mset (mcpy M1 (14 + 1) (30 + 1) 120) 30 1 (mcpy M1 (14 + 1) (30 + 1) 120 14 1) 21 6)) 43 5 0) 43 6 (-1)) 49 4 0) 0 8 0 31 j = M 15 j := fun j hj => by
    rw [mset_k (by decide), mset_k (by decide), mset_k (by decide), mset_k (by decide), mset_k (by decide), mset_k (by decide), mcpy_s hj, e 15 (by omega)]
  have v43a : mset (mset (mset (mset (mset (mset (mcpy M1 (14 + 1) (30 + 1) 120) 30 1 (mcpy M1 (14 + 1) (30 + 1) 120 14 1)) 0 5 (mset (mcpy M1 (14 + 1) (30 + 1) 120) 30 1 (mcpy M1 (14 + 1) (30 + 1) 120 14 1) 21 6)) 43 5 0) 43 6 (-1)) 49 4 0) 0 8 0 43 5 = 0 := by
    rw [mset_k (by decide), mset_k (by decide), mset_j (by decide), mset_s]
  have v43b : mset (mset (mset (mset (mset (mset (mcpy M1 (14 + 1) (30 + 1) 120) 30 1 (mcpy M1 (14 + 1) (30 + 1) 120 14 1)) 0 5 (mset (mcpy M1 (14 + 1) (30 + 1) 120) 30 1 (mcpy M1 (14 + 1) (30 + 1) 120 14 1) 21 6)) 43 5 0) 43 6 (-1)) 49 4 0) 0 8 0 43 6 = -1 := by
    rw [mset_k (by decide), mset_k (by decide), mset_s]
  have v49 : mset (mset (mset (mset (mset (mset (mcpy M1 (14 + 1) (30 + 1) 120) 30 1 (mcpy M1 (14 + 1) (30 + 1) 120 14 1)) 0 5 (mset (mcpy M1 (14 + 1) (30 + 1) 120) 30 1 (mcpy M1 (14 + 1) (30 + 1) 120 14 1) 21 6)) 43 5 0) 43 6 (-1)) 49 4 0) 0 8 0 49 4 = 0 := by
    rw [mset_k (by decide), mset_s]
  have v08 : mset (mset (mset (mset (mset (mset (mcpy M1 (14 + 1) (30 + 1) 120) 30 1 (mcpy M1 (14 + 1) (30 + 1) 120 14 1)) 0 5 (mset (mcpy M1 (14 + 1) (30 + 1) 120) 30 1 (mcpy M1 (14 + 1) (30 + 1) 120 14 1) 21 6)) 43 5 0) 43 6 (-1)) 49 4 0) 0 8 0 0 8 = 0 := mset_s
  rw [ev]
  generalize mset (mset (mset (mset (mset (mset (mcpy M1 (14 + 1) (30 + 1) 120) 30 1 (mcpy M1 (14 + 1) (30 + 1) 120 14 1)) 0 5 (mset (mcpy M1 (14 + 1) (30 + 1) 120) 30 1 (mcpy M1 (14 + 1) (30 + 1) 120 14 1) 21 6)) 43 5 0) 43 6 (-1)) 49 4 0) 0 8 0 = M2 at hr hfr v05 v30 v31 v43a v43b v49 v08
  refine h M2 hfr ⟨?_, ?_, v05, ?_, ?_, ?_, ?_, ?_, ?_, v30, ?_, v43a, v43b, v49, v08⟩
  · rw [hr 21 (by decide) (by decide) (by decide) (by decide) (by decide), t2]; exact d2
  · rw [hr 21 (by decide) (by decide) (by decide) (by decide) (by decide), t4]; exact d3
  · rw [hr 21 (by decide) (by decide) (by decide) (by decide) (by decide), t8]; exact d6
  · rw [hr 25 (by decide) (by decide) (by decide) (by decide) (by decide), t5]; exact f1
  · intro j hj
    obtain ⟨u1, u2, u3⟩ := tn j (by omega)
    rw [hr 22 (by decide) (by decide) (by decide) (by decide) (by decide), hr 23 (by decide) (by decide) (by decide) (by decide) (by decide), u1, u2]
    exact d7 j hj
  · intro j hj
    obtain ⟨u1, u2, u3⟩ := tn j (by omega)
    rw [hr 24 (by decide) (by decide) (by decide) (by decide) (by decide), u3]
    exact d8 j hj
  · intro i hi
    rw [hr 26 (by decide) (by decide) (by decide) (by decide) (by decide), tc i (by omega)]
    exact f3 i hi
  · intro i hi
    obtain ⟨u1, u2⟩ := tf i (by omega)
    rw [hr 27 (by decide) (by decide) (by decide) (by decide) (by decide), hr 28 (by decide) (by decide) (by decide) (by decide) (by decide), u1, u2]
    exact d9 i hi
  · intro i hi c hc
    have := d11 i hi c hc
    unfold FcT at this ⊢
    rw [← this]
    exact v31 _ (by omega)
/-- the tape of the class -/
def TPc (M : Mem) (t : Nat → Int) (T : Nat) : Prop := M 0 1 = (T : Int) ∧ T ≤ 700 ∧ (∀ j, j < T → M 1 j = t j) ∧ bys t T
def LGc (M : Mem) : Prop := ∀ w, w < 18 → M 3 w = (lgw.getD w 0 : Int)
def txC (k j : Nat) : Prop := (k = 0 ∧ j = 1) ∨ (k = 2 ∧ 2 ≤ j) ∨ (4 ≤ k ∧ k ≤ 20)
theorem s_text {t : Nat → Int} {T : Nat} {x1 : Int} {M : Mem} {P : Int → Mem → Prop} (hT : TPc M t T) (hG : LGc M)
    (h2 : ¬ (0 ≤ x1 ∧ x1 ≤ T) → P (-2) M)
    (hn : ∀ n : Nat, x1 = (n : Int) → n ≤ T → ∀ f pl, TXT t n = .inr (f, pl) → f ≠ 0 → ∀ M', Fp txC M M' → M' 0 1 = 0 → M' 2 3 = (f : Int) → M' 2 4 = (pl : Int) → P (-1) M')
    (hy : ∀ n : Nat, x1 = (n : Int) → n ≤ T → ∀ L, TXT t n = .inl L → WFL L → ∀ M', Fp (fun k j => txC k j ∨ tlC k j) M M' → M' 0 1 = 0 → M' 2 3 = 0 → M' 2 4 = -1 → SLc M' L → P (L.1 8 : Int) M') : CI m10_text 7 [(19, ((0 : Nat) : Int)), (0, x1)] M P := by
  obtain ⟨t1, t7, tb, hb⟩ := hT
  apply q_10_text
  rw [t1]
  refine ⟨fun q => h2 (by omega), fun q => ⟨fun q1 => ?_, fun q1 => h2 (by omega)⟩⟩
  obtain ⟨n, rfl⟩ : ∃ n : Nat, x1 = (n : Int) := ⟨x1.toNat, by omega⟩
  have hnT : n ≤ T := by omega
  apply q_7_open
  apply q_0_clear
  apply q_3_clear
  apply q_2_clear
  have hF : Fp txC M (mset (mset (mset (mset (mset (mset (mset (mset (mset (mset (mset (mset (mset (mset M 0 1 0) 5 2 0) 5 4 0) (5 + 4) 4 0) (5 + 4) 5 0) 5 6 0) 5 7 0) 5 8 0) 14 1 0) 2 2 0) 2 3 0) 2 4 (-1)) 2 12 (n : Int)) 2 13 0) := by
    have f0 : Fp txC M M := Fp.rf
    refine Fp.set (Fp.set (Fp.set (Fp.set (Fp.set (Fp.set (Fp.set (Fp.set (Fp.set (Fp.set (Fp.set (Fp.set (Fp.set (Fp.set f0 ?_) ?_) ?_) ?_) ?_) ?_) ?_) ?_) ?_) ?_) ?_) ?_) ?_) ?_ <;> (unfold txC; omega)
  have a01 : mset (mset (mset (mset (mset (mset (mset (mset (mset (mset (mset (mset (mset (mset M 0 1 0) 5 2 0) 5 4 0) (5 + 4) 4 0) (5 + 4) 5 0) 5 6 0) 5 7 0) 5 8 0) 14 1 0) 2 2 0) 2 3 0) 2 4 (-1)) 2 12 (n : Int)) 2 13 0 0 1 = 0 := by simp [mset]
  have a5 : ∀ j, j = 2 ∨ j = 4 ∨ j = 6 ∨ j = 7 ∨ j = 8 → mset (mset (mset (mset (mset (mset (mset (mset (mset (mset (mset (mset (mset (mset M 0 1 0) 5 2 0) 5 4 0) (5 + 4) 4 0) (5 + 4) 5 0) 5 6 0) 5 7 0) 5 8 0) 14 1 0) 2 2 0) 2 3 0) 2 4 (-1)) 2 12 (n : Int)) 2 13 0 5 j = 0 := by
    intro j hj
    rcases hj with rfl | rfl | rfl | rfl | rfl <;> simp [mset]
  have a9 : ∀ j, j = 4 ∨ j = 5 → mset (mset (mset (mset (mset (mset (mset (mset (mset (mset (mset (mset (mset (mset M 0 1 0) 5 2 0) 5 4 0) (5 + 4) 4 0) (5 + 4) 5 0) 5 6 0) 5 7 0) 5 8 0) 14 1 0) 2 2 0) 2 3 0) 2 4 (-1)) 2 12 (n : Int)) 2 13 0 9 j = 0 := by
    intro j hj
    rcases hj with rfl | rfl <;> simp [mset]
  have a14 : mset (mset (mset (mset (mset (mset (mset (mset (mset (mset (mset (mset (mset (mset M 0 1 0) 5 2 0) 5 4 0) (5 + 4) 4 0) (5 + 4) 5 0) 5 6 0) 5 7 0) 5 8 0) 14 1 0) 2 2 0) 2 3 0) 2 4 (-1)) 2 12 (n : Int)) 2 13 0 14 1 = 0 := by simp [mset]
  have a2 : mset (mset (mset (mset (mset (mset (mset (mset (mset (mset (mset (mset (mset (mset M 0 1 0) 5 2 0) 5 4 0) (5 + 4) 4 0) (5 + 4) 5 0) 5 6 0) 5 7 0) 5 8 0) 14 1 0) 2 2 0) 2 3 0) 2 4 (-1)) 2 12 (n : Int)) 2 13 0 2 2 = 0 := by simp [mset]
  have a3 : mset (mset (mset (mset (mset (mset (mset (mset (mset (mset (mset (mset (mset (mset M 0 1 0) 5 2 0) 5 4 0) (5 + 4) 4 0) (5 + 4) 5 0) 5 6 0) 5 7 0) 5 8 0) 14 1 0) 2 2 0) 2 3 0) 2 4 (-1)) 2 12 (n : Int)) 2 13 0 2 3 = 0 := by simp [mset]
  have a4 : mset (mset (mset (mset (mset (mset (mset (mset (mset (mset (mset (mset (mset (mset M 0 1 0) 5 2 0) 5 4 0) (5 + 4) 4 0) (5 + 4) 5 0) 5 6 0) 5 7 0) 5 8 0) 14 1 0) 2 2 0) 2 3 0) 2 4 (-1)) 2 12 (n : Int)) 2 13 0 2 4 = -1 := by simp [mset]
  have a12 : mset (mset (mset (mset (mset (mset (mset (mset (mset (mset (mset (mset (mset (mset M 0 1 0) 5 2 0) 5 4 0) (5 + 4) 4 0) (5 + 4) 5 0) 5 6 0) 5 7 0) 5 8 0) 14 1 0) 2 2 0) 2 3 0) 2 4 (-1)) 2 12 (n : Int)) 2 13 0 2 12 = (n : Int) := by simp [mset]
  have a13 : mset (mset (mset (mset (mset (mset (mset (mset (mset (mset (mset (mset (mset (mset M 0 1 0) 5 2 0) 5 4 0) (5 + 4) 4 0) (5 + 4) 5 0) 5 6 0) 5 7 0) 5 8 0) 14 1 0) 2 2 0) 2 3 0) 2 4 (-1)) 2 12 (n : Int)) 2 13 0 2 13 = ((0 : Nat) : Int) := by simp [mset]
  generalize mset (mset (mset (mset (mset (mset (mset (mset (mset (mset (mset (mset (mset (mset M 0 1 0) 5 2 0) 5 4 0) (5 + 4) 4 0) (5 + 4) 5 0) 5 6 0) 5 7 0) 5 8 0) 14 1 0) 2 2 0) 2 3 0) 2 4 (-1)) 2 12 (n : Int)) 2 13 0 = M1 at hF a01 a5 a9 a14 a2 a3 a4 a12 a13
  have e1 : M1 1 = M 1 := hF.row (fun j => by unfold txC; omega)
  have e3 : M1 3 = M 3 := hF.row (fun j => by unfold txC; omega)
  have hT1 : TCm M1 t n := ⟨a12, by omega, fun j hj => by rw [e1]; exact tb j (by omega), fun j hj => hb j (by omega), fun w hw => by rw [e3]; exact hG w hw⟩
  apply s_next hT1 (Nat.zero_le n) a13 a4
  intro M2 hF2 hK2
  have hT2 : TCm M2 t n := hT1.fp hF2 (fun k j q => by unfold rdset at q; omega)
  have hD1 : LD M1 L0 := ⟨a2, a5 2 (by omega), a5 4 (by omega), a5 6 (by omega), a5 7 (by omega), a5 8 (by omega), ⟨a9 5 (by omega), a9 4 (by omega), fun i hi => absurd hi (Nat.not_lt_zero i)⟩, fun i hi => absurd hi (Nat.not_lt_zero i), fun i hi => absurd hi (Nat.not_lt_zero i), fun i hi => by
    rcases hi with y | y
    · exact absurd y (Nat.not_lt_zero i)
    · exact absurd y.2 (by decide), a14, fun i hi => absurd hi (Nat.not_lt_zero i)⟩
  have hD2 : LD M2 L0 := hD1.fp hF2 (fun k j q => by unfold rdset at q; unfold ldset; omega)
  have h32 : M2 2 3 = 0 := by rw [hF2 2 3 (by unfold rdset; omega)]; exact a3
  have hFa : Fp txC M M2 := hF.tr (hF2.mono (fun k j q => by unfold rdset at q; unfold txC; omega))
  have h01 : M2 0 1 = 0 := by rw [hF2 0 1 (by unfold rdset; omega)]; exact a01
  have lt : ∀ k j, lnC k j → txC k j := fun k j q => by unfold lnC at q; unfold txC; omega
  refine s_linesC hT2 ?_ ?_ (n + 1) L0 M2 rfl (by show n + 1 ≤ 0 + (n + 1); omega) L0_wf (Nat.zero_le n) (Nat.le_refl 0) Fp.rf hK2 h32 hD2
  · intro L e hW h8 M3 hF3 k3 k4 hD3
    refine s_tailC hW hD3 (fun M4 hF4 hS4 => hy n rfl hnT L e hW M4 (((hFa.tr (hF3.mono lt)).mono (fun k j q => Or.inl q)).tr (hF4.mono (fun k j q => Or.inr q))) ?_ ?_ ?_ hS4)
    · rw [hF4 0 1 (by unfold tlC; omega), hF3 0 1 (by unfold lnC; omega)]; exact h01
    · rw [hF4 2 3 (by unfold tlC; omega)]; exact k3
    · rw [hF4 2 4 (by unfold tlC; omega)]; exact k4
  · intro f pl e hf M3 hF3 k3 k4
    refine hn n rfl hnT f pl e hf M3 (hFa.tr (hF3.mono lt)) ?_ k3 k4
    rw [hF3 0 1 (by unfold lnC; omega)]; exact h01
