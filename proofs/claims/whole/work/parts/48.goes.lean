/-! E: worked out by the reference -/
/-- the same memory but for some places -/
def Fp (s : Nat → Nat → Prop) (M M' : Mem) : Prop := ∀ k j, ¬ s k j → M' k j = M k j
theorem Fp.rf {s : Nat → Nat → Prop} {M : Mem} : Fp s M M := fun _ _ _ => rfl
theorem Fp.tr {s : Nat → Nat → Prop} {M M1 M2 : Mem} (h1 : Fp s M M1) (h2 : Fp s M1 M2) : Fp s M M2 := fun k j hk => (h2 k j hk).trans (h1 k j hk)
theorem Fp.mono {s t : Nat → Nat → Prop} {M M1 : Mem} (h : Fp s M M1) (hs : ∀ k j, s k j → t k j) : Fp t M M1 := fun k j hk => h k j (fun q => hk (hs k j q))
theorem Fp.set {s : Nat → Nat → Prop} {M M1 : Mem} {k j : Nat} {v : Int} (h : Fp s M M1) (hk : s k j) : Fp s M (mset M1 k j v) := fun k' j' hk' => by
  rw [← h k' j' hk']
  unfold mset
  rw [if_neg]
  rintro ⟨rfl, rfl⟩
  exact hk' hk
theorem Fp.row {s : Nat → Nat → Prop} {M M1 : Mem} {k : Nat} (h : Fp s M M1) (hk : ∀ j, ¬ s k j) : M1 k = M k := funext fun j => h k j (hk j)
theorem Fr.p {s : Nat → Prop} {M M1 : Mem} (h : Fr s M M1) : Fp (fun k _ => s k) M M1 := fun k j hk => by rw [h k hk]
def sgv (v : Int) : Int := if v = 43 then 10019 else if v = 45 then 10020 else if v = 42 then 10021 else if v = 47 then 10022 else if v = 60 then 10013 else if v = 256 then 10014 else if v = 61 then 10015 else if v = 257 then 10016 else if v = 258 then 10017 else if v = 62 then 10018 else if v = 260 then 10012 else if v = 261 then 10011 else 10010
def isSg (v : Int) : Prop := v = 43 ∨ v = 45 ∨ v = 42 ∨ v = 47 ∨ v = 60 ∨ v = 256 ∨ v = 61 ∨ v = 257 ∨ v = 258 ∨ v = 62 ∨ v = 260 ∨ v = 261 ∨ v = 262
/-- a knot of the reference as the class writes it -/
def enc (s v : Int) : Int := if s = 0 then v else if s = 1 then 10000 + v else sgv v
def kval (s v : Int) : Prop := (s = 0 ∧ 0 ≤ v ∧ v < 10000) ∨ (s = 1 ∧ 0 ≤ v ∧ v < 8) ∨ (s = 2 ∧ isSg v)
def gset : Nat → Nat → Prop := fun k j => (k = 59 ∧ j = 39) ∨ k = 78
theorem s_is {b : Int} {M : Mem} {P : Int → Mem → Prop} (h : P (if b = 0 then 0 else 1) M) : CL m11_is 1 [(0, b)] M P := by
  apply q_11_is
  refine ⟨fun q => ?_, fun q => ?_⟩
  · rwa [if_pos q] at h
  · rwa [if_neg q] at h
theorem s_works {s : Int} {n : Nat} {M : Mem} {P : Int → Mem → Prop} (hs : isSg s) (hn : M 59 39 = (n : Int)) (h1 : 1 ≤ n) (h64 : n ≤ 64) (hX : -1000000000000 ≤ M 78 (n - 2) ∧ M 78 (n - 2) ≤ 1000000000000) (hY : -1000000000000 ≤ M 78 (n - 1) ∧ M 78 (n - 1) ≤ 1000000000000)
    (hnot : s = 260 → P 1 (mset M 78 (n - 1) (bi (M 78 (n - 1) = 0)))) (h2 : s ≠ 260 → 2 ≤ n)
    (hv : s ≠ 260 → ∀ v, jnv (sgv s) (M 78 (n - 2)) (M 78 (n - 1)) = some v → P 1 (mset (mset M 59 39 ((n - 1 : Nat) : Int)) 78 (n - 2) v))
    (he : s ≠ 260 → jnv (sgv s) (M 78 (n - 2)) (M 78 (n - 1)) = none → ∀ M', Fp gset M M' → P 0 M') : CI m11_works 2 [(20, ((59 : Nat) : Int)), (0, s)] M P := by
  apply q_11_works
  have w1 : w32 (M 59 39 - 1) = ((n - 1 : Nat) : Int) := by rw [hn]; unfold w32; omega
  rw [w1, Int.toNat_natCast]
  by_cases h260 : s = 260
  · refine ⟨by omega, fun q => absurd h260 q, fun _ => ⟨fun q => ?_, fun q => ?_⟩⟩
    · apply s_is
      refine ⟨by omega, ?_⟩
      have := hnot h260
      rwa [bi_f q] at this
    · apply s_is
      refine ⟨by omega, ?_⟩
      have := hnot h260
      rwa [bi_t q] at this
  have n2 := h2 h260
  have w2 : w32 (M 59 39 - 2) = ((n - 2 : Nat) : Int) := by rw [hn]; unfold w32; omega
  rw [w2, Int.toNat_natCast]
  have hv := hv h260
  have he := he h260
  clear hnot h2
  generalize hXe : M 78 (n - 2) = X at hX hv he ⊢
  generalize hYe : M 78 (n - 1) = Y at hY hv he ⊢
  generalize hM1 : mset M 59 39 ((n - 1 : Nat) : Int) = M1 at hv ⊢
  have f1 : Fp gset M M1 := by rw [← hM1]; exact Fp.rf.set (Or.inl ⟨rfl, rfl⟩)
  have k1 : M1 59 39 = ((n - 1 : Nat) : Int) := by rw [← hM1, mset_s]
  have w3 : w32 (M1 59 39 - 1) = ((n - 2 : Nat) : Int) := by rw [k1]; unfold w32; omega
  have e407 : ∀ x : Int, jnv (sgv s) X Y = wi x → A m11_works 2 0 407 [(20, ((59 : Nat) : Int)), (2, 0), (2, 0), (2, 0), (2, 0), (2, 0), (1, x), (2, 0)] [] M1 (Ki P) := by
    intro x hx
    apply r_11_works_407
    rw [w3, Int.toNat_natCast]
    unfold wi at hx
    have f2 : Fp gset M (mset M1 78 (n - 2) x) := f1.set (Or.inr rfl)
    refine ⟨by omega, fun q => ?_, fun q => ⟨fun q2 => ?_, fun q2 => ?_⟩⟩
    · apply r_11_works_442
      rw [if_neg (by omega)] at hx
      exact he hx _ f2
    · apply r_11_works_442
      rw [if_neg (by omega)] at hx
      exact he hx _ f2
    · rw [if_pos ⟨q2, q⟩] at hx
      exact hv x hx
  have ebi : ∀ (p : Prop) [Decidable p], jnv (sgv s) X Y = some (bi p) → (p → CL m11_is 1 [(0, 1)] M1 (fun r M' => A m11_works 2 0 407 [(20, ((59 : Nat) : Int)), (2, 0), (2, 0), (2, 0), (2, 0), (2, 0), (1, r), (2, 0)] [] M' (Ki P))) ∧ (¬ p → CL m11_is 1 [(0, 0)] M1 (fun r M' => A m11_works 2 0 407 [(20, ((59 : Nat) : Int)), (2, 0), (2, 0), (2, 0), (2, 0), (2, 0), (1, r), (2, 0)] [] M' (Ki P))) := by
    intro p _ hp
    refine ⟨fun q => ?_, fun q => ?_⟩
    · apply s_is
      rw [bi_t q] at hp
      exact e407 1 hp
    · apply s_is
      rw [bi_f q] at hp
      exact e407 0 hp
  refine ⟨by omega, fun _ => ⟨by omega, fun e => ?_, fun e => ?_, fun e => ?_, fun e => ?_, fun e => ?_, fun e => ?_, fun e => ?_, fun e => ?_, fun e => ?_, fun e => ?_, fun e => ?_, fun e => ?_⟩, fun q => absurd q h260⟩
  · have hj : jnv (sgv s) X Y = wi (X * Y) := by subst e; rfl
    have mul : -1000000000000 ≤ X * Y ∧ X * Y ≤ 1000000000000 → A m11_works 2 0 212 [(20, ((59 : Nat) : Int)), (2, 0), (1, Y), (2, 0), (1, X), (2, 0), (2, 0), (2, 0)] [] M1 (Ki P) := by
      intro z
      apply r_11_works_212
      rw [mul_small hX hY z]
      exact e407 _ hj
    rw [habs X hX, habs Y hY]
    refine ⟨fun q => mul (by rw [q, Int.zero_mul]; omega), fun q => ⟨by omega, fun q2 => ?_, fun q2 => ?_⟩⟩
    · rw [w64_id (by have := tdiv_bd (y := (X.natAbs : Int)) (x := 1000000000000) (by omega); omega) (by have := tdiv_bd (y := (X.natAbs : Int)) (x := 1000000000000) (by omega); omega)] at q2
      have := (prod_lim hY hX q).mp q2
      rw [Int.mul_comm] at this
      exact mul this
    · rw [w64_id (by have := tdiv_bd (y := (X.natAbs : Int)) (x := 1000000000000) (by omega); omega) (by have := tdiv_bd (y := (X.natAbs : Int)) (x := 1000000000000) (by omega); omega)] at q2
      have h3 : ¬ (-1000000000000 ≤ X * Y ∧ X * Y ≤ 1000000000000) := fun z => by
        rw [Int.mul_comm] at z
        have := (prod_lim hY hX q).mpr z
        omega
      unfold wi at hj
      rw [if_neg h3] at hj
      exact he hj _ f1
  · rw [w64_id (by omega) (by omega)]
    exact e407 _ (by subst e; rfl)
  · rw [w64_id (by omega) (by omega)]
    exact e407 _ (by subst e; rfl)
  · have hj : jnv (sgv s) X Y = if Y = 0 then none else some (X.tdiv Y) := by subst e; rfl
    have hb := tdiv_bd (y := Y) hX
    refine ⟨fun q => ⟨q, ?_⟩, fun q => ?_⟩
    · rw [w64_id (by omega) (by omega)]
      rw [if_neg q] at hj
      exact e407 _ (by rw [hj]; unfold wi; rw [if_pos hb])
    · rw [if_pos q] at hj
      exact he hj _ f1
  · have := ebi (X < Y) (by subst e; rfl)
    exact ⟨fun q => this.2 (by omega), fun q => this.1 q⟩
  · have := ebi (X = Y) (by subst e; rfl)
    exact ⟨fun q => this.2 q, fun q => this.1 q⟩
  · have := ebi (Y < X) (by subst e; rfl)
    exact ⟨fun q => this.2 (by omega), fun q => this.1 q⟩
  · have := ebi (X ≤ Y) (by subst e; rfl)
    exact ⟨fun q => this.2 (by omega), fun q => this.1 q⟩
  · have := ebi (X ≠ Y) (by subst e; rfl)
    exact ⟨fun q => this.2 (by omega), fun q => this.1 q⟩
  · have := ebi (Y ≤ X) (by subst e; rfl)
    exact ⟨fun q => this.2 (by omega), fun q => this.1 q⟩
  · have := ebi (X ≠ 0 ∧ Y ≠ 0) (by subst e; rfl)
    refine ⟨fun q => ?_, fun q => ⟨fun q2 => ?_, fun q2 => this.1 ⟨q, q2⟩⟩⟩
    · apply r_11_works_375
      exact this.2 (by omega)
    · apply r_11_works_375
      exact this.2 (by omega)
  · have hj : jnv (sgv s) X Y = some (bi (X ≠ 0 ∨ Y ≠ 0)) := by
      have : s = 262 := by unfold isSg at hs; omega
      subst this; rfl
    have := ebi _ hj
    refine ⟨fun q => ?_, fun q => ⟨fun q2 => this.2 (by omega), fun q2 => ?_⟩⟩
    · apply r_11_works_397
      exact this.1 (Or.inl q)
    · apply r_11_works_397
      exact this.1 (Or.inr q2)
theorem enc_wd {s v : Int} (h : kval s v) : (s = 0 → enc s v = v ∧ 0 ≤ v ∧ v < 10000) ∧ (s = 1 → enc s v = 10000 + v ∧ 0 ≤ v ∧ v < 8) ∧ (s = 2 → enc s v = sgv v ∧ isSg v ∧ 10010 ≤ sgv v ∧ sgv v ≤ 10022 ∧ (sgv v = 10012 ↔ v = 260)) := by
  unfold kval at h
  unfold enc
  refine ⟨fun e => ?_, fun e => ?_, fun e => ?_⟩
  · rw [if_pos e]; omega
  · rw [if_neg (by omega), if_pos e]; omega
  · rw [if_neg (by omega), if_neg (by omega)]
    have hs : isSg v := by
      rcases h with h | h | h
      · omega
      · omega
      · exact h.2
    refine ⟨rfl, hs, ?_⟩
    unfold isSg at hs
    rcases hs with rfl | rfl | rfl | rfl | rfl | rfl | rfl | rfl | rfl | rfl | rfl | rfl | rfl <;> decide
theorem s_goes {j b e : Nat} {M : Mem} {P : Int → Mem → Prop} {C : Nat → Int} (hj : j < 12) (hb : M 65 j = (b : Int)) (he : M 66 j = (e : Int)) (hbe : b ≤ e) (he64 : e ≤ 64) (hC : ∀ i, b ≤ i → i < e → C i = enc (M 67 i) (M 68 i) ∧ kval (M 67 i) (M 68 i)) (hw : wfc C b (e - b) 0 = some 1) (hN : ∀ i, i < 8 → -1000000000000 ≤ M 77 i ∧ M 77 i ≤ 1000000000000)
    (hv : ∀ v, rv (evl C (M 77) b (e - b) []) = some v → ∀ M', Fp gset M M' → M' 78 0 = v → P 1 M') (hn : rv (evl C (M 77) b (e - b) []) = none → ∀ M', Fp gset M M' → P 0 M') : CI m11_goes 3 [(20, ((59 : Nat) : Int)), (0, (j : Int))] M P := by
  apply q_11_goes
  rw [Int.toNat_natCast, mset_k (by omega), hb]
  refine ⟨by omega, ?_⟩
  generalize hNe : M 77 = N at hN hv hn
  have key : ∀ (n i : Nat) (st : List Int) (M1 : Mem), i + n = e → b ≤ i → st.length ≤ i - b → wfc C i n st.length = some 1 → bdd st → onst M1 78 st → M1 59 39 = (st.length : Int) → Fp gset M M1 → (∀ v, rv (evl C N i n st) = some v → ∀ M', Fp gset M M' → M' 78 0 = v → P 1 M') → (rv (evl C N i n st) = none → ∀ M', Fp gset M M' → P 0 M') → A m11_goes 3 0 12 [(20, ((59 : Nat) : Int)), (0, (j : Int)), (0, (i : Int))] [] M1 (Ki P) := by
    intro n
    induction n with
    | zero =>
      intro i st M1 hi hbi hlen hwf hbd hst hd hF hk1 hk2
      apply r_11_goes_12
      rw [Int.toNat_natCast, hF 66 j (by unfold gset; omega), he]
      refine ⟨by omega, fun _ => ?_, fun q => by omega⟩
      have hl : st.length = 1 := by
        have hwf : some st.length = some 1 := hwf
        exact Option.some.inj hwf
      match st, hl, hst, hk1 with
      | [x], _, hst, hk1 => exact hk1 x rfl M1 hF hst.1
    | succ n ih =>
      intro i st M1 hi hbi hlen hwf hbd hst hd hF hk1 hk2
      obtain ⟨d', hwd, hwf'⟩ := wfc_s hwf
      obtain ⟨hCi, hkv⟩ := hC i hbi (by omega)
      have e67 : M1 67 i = M 67 i := hF 67 i (by unfold gset; omega)
      have e68 : M1 68 i = M 68 i := hF 68 i (by unfold gset; omega)
      have e77 : M1 77 = N := by rw [hF.row (k := 77) (fun j => by unfold gset; omega)]; exact hNe
      obtain ⟨k0, k1, k2⟩ := enc_wd hkv
      apply r_11_goes_12
      rw [Int.toNat_natCast, Int.toNat_natCast, hF 66 j (by unfold gset; omega), he, e67, e68, w_1 (by omega), hd]
      refine ⟨by omega, fun q => by omega, fun _ => ⟨by omega, fun q => ⟨by omega, fun q2 => ?_, fun q2 => ?_⟩, fun q => ⟨by omega, ?_⟩⟩⟩
      · have hs1 : M 67 i = 1 := by unfold kval at hkv; omega
        obtain ⟨c1, c2, c3⟩ := k1 hs1
        have hv1 : sk N (C i) st = some (N (M 68 i).toNat :: st) := by
          unfold sk
          rw [hCi, c1, if_neg (by omega), if_pos (by omega)]
          congr 3
          omega
        have hl := sk_len hwd hv1
        refine ⟨by omega, by omega, by omega, ?_⟩
        rw [Int.toNat_natCast, mset_k (show 59 ≠ 78 by omega), hd, w_1 (by omega), e77]
        refine ih (i + 1) (N (M 68 i).toNat :: st) _ (by omega) (by omega) (by simp; omega) (by rw [hl]; exact hwf') (sk_bd hN hwd hbd hv1) ⟨by rw [mset_k (show 78 ≠ 59 by omega), mset_s], onst_fr (M := mset M1 78 st.length (N (M 68 i).toNat)) (by funext j'; exact mset_k (by omega)) (onst_set hst (Nat.le_refl _))⟩ (by rw [mset_s]; rfl) ((hF.set (Or.inr rfl)).set (Or.inl ⟨rfl, rfl⟩)) (fun v hv' => hk1 v (by rw [evl_some hv1]; exact hv')) (fun hn' => hk2 (by rw [evl_some hv1]; exact hn'))
      · obtain ⟨c1, c2, c3⟩ := k0 q2
        have hv1 : sk N (C i) st = some (M 68 i :: st) := by
          unfold sk
          rw [hCi, c1, if_pos (by omega)]
        have hl := sk_len hwd hv1
        refine ⟨by omega, by omega, ?_⟩
        rw [Int.toNat_natCast, mset_k (show 59 ≠ 78 by omega), hd, w_1 (by omega)]
        refine ih (i + 1) (M 68 i :: st) _ (by omega) (by omega) (by simp; omega) (by rw [hl]; exact hwf') (sk_bd hN hwd hbd hv1) ⟨by rw [mset_k (show 78 ≠ 59 by omega), mset_s], onst_fr (M := mset M1 78 st.length (M 68 i)) (by funext j'; exact mset_k (by omega)) (onst_set hst (Nat.le_refl _))⟩ (by rw [mset_s]; rfl) ((hF.set (Or.inr rfl)).set (Or.inl ⟨rfl, rfl⟩)) (fun v hv' => hk1 v (by rw [evl_some hv1]; exact hv')) (fun hn' => hk2 (by rw [evl_some hv1]; exact hn'))
      · obtain ⟨c1, c2, c3, c4, c5⟩ := k2 q
        have g1 : ¬ C i < 10000 := by rw [hCi, c1]; omega
        have g2 : ¬ C i < 10010 := by rw [hCi, c1]; omega
        have hd12 : (M 68 i = 260 → 1 ≤ st.length) ∧ (M 68 i ≠ 260 → 2 ≤ st.length) := by
          unfold wd at hwd
          rw [if_neg (by omega)] at hwd
          split at hwd
          · rename_i z
            exact ⟨fun _ => z.2, fun z2 => absurd (c5.mp (by rw [← c1, ← hCi]; exact z.1)) z2⟩
          · split at hwd
            · rename_i z
              exact ⟨fun _ => by omega, fun _ => z.2.2.2⟩
            · cases hwd
        have hs1 : 1 ≤ st.length := by
          by_cases z : M 68 i = 260
          · exact hd12.1 z
          · have := hd12.2 z; omega
        have hY : -1000000000000 ≤ M1 78 (st.length - 1) ∧ M1 78 (st.length - 1) ≤ 1000000000000 := by
          match st, hs1, hst, hbd with
          | y :: st', _, hst, hbd => rw [show M1 78 ((y :: st').length - 1) = y from hst.1]; exact bdd_h hbd
        by_cases z : M 68 i = 260
        · refine s_works (n := st.length) c2 hd hs1 (by omega) ?_ hY (fun _ => ?_) (fun z2 => absurd z z2) (fun z2 => absurd z z2) (fun z2 => absurd z z2)
          · by_cases h2 : 2 ≤ st.length
            · match st, h2, hst, hbd with
              | y :: x :: st', _, hst, hbd => rw [show M1 78 ((y :: x :: st').length - 2) = x from hst.2.1]; exact bdd_h (bdd_t hbd)
            · rw [show st.length - 2 = st.length - 1 by omega]; exact hY
          · refine ⟨fun _ => ?_, fun q3 => absurd q3 (by omega)⟩
            match st, hs1, hst, hbd, hlen, hwd, hwf', hk1, hk2, hd with
            | y :: st', _, hst, hbd, hlen, hwd, hwf', hk1, hk2, hd =>
              have hv1 : sk N (C i) (y :: st') = some (bi (y = 0) :: st') := by
                unfold sk; rw [if_neg g1, if_neg g2]; dsimp only; rw [if_pos (by rw [hCi, c1]; exact c5.mpr z)]
              have hl := sk_len hwd hv1
              rw [show M1 78 ((y :: st').length - 1) = y from hst.1, show (y :: st').length - 1 = st'.length from rfl]
              refine ih (i + 1) (bi (y = 0) :: st') _ (by omega) (by omega) (by simp at hlen ⊢; omega) (by rw [hl]; exact hwf') (sk_bd hN hwd hbd hv1) ⟨by rw [mset_s], onst_set hst.2 (Nat.le_refl _)⟩ (by rw [mset_k (by omega), hd]; rfl) (hF.set (Or.inr rfl)) (fun v hv' => hk1 v (by rw [evl_some hv1]; exact hv')) (fun hn' => hk2 (by rw [evl_some hv1]; exact hn'))
        · have h2 := hd12.2 z
          match st, h2, hst, hbd, hlen, hwd, hwf', hk1, hk2, hd, hY with
          | y :: x :: st', _, hst, hbd, hlen, hwd, hwf', hk1, hk2, hd, hY =>
            have eX : M1 78 ((y :: x :: st').length - 2) = x := hst.2.1
            have eY : M1 78 ((y :: x :: st').length - 1) = y := hst.1
            have hn12 : ¬ C i = 10012 := by rw [hCi, c1]; exact fun q => z (c5.mp q)
            refine s_works (n := (y :: x :: st').length) c2 hd (by simp) (by simp at hlen ⊢; omega) (by rw [eX]; exact bdd_h (bdd_t hbd)) hY (fun z2 => absurd z2 z) (fun _ => by simp) (fun _ v hjv => ?_) (fun _ hjv M' hM' => ?_)
            · refine ⟨fun _ => ?_, fun q3 => absurd q3 (by omega)⟩
              rw [eX, eY] at hjv
              have hv1 : sk N (C i) (y :: x :: st') = some (v :: st') := by
                unfold sk; rw [if_neg g1, if_neg g2]; dsimp only; rw [if_neg hn12, hCi, c1, hjv]; rfl
              have hl := sk_len hwd hv1
              refine ih (i + 1) (v :: st') _ (by omega) (by omega) (by simp at hlen ⊢; omega) (by rw [hl]; exact hwf') (sk_bd hN hwd hbd hv1) ⟨by rw [show (y :: x :: st').length - 2 = st'.length from rfl, mset_s], ?_⟩ (by rw [mset_k (by omega), mset_s]; rfl) ((hF.set (Or.inl ⟨rfl, rfl⟩)).set (Or.inr rfl)) (fun v hv' => hk1 v (by rw [evl_some hv1]; exact hv')) (fun hn' => hk2 (by rw [evl_some hv1]; exact hn'))
              refine onst_set (onst_fr (M := M1) (by funext j'; exact mset_k (by omega)) hst.2.2) (by simp)
            · refine ⟨fun q3 => absurd rfl q3, fun _ => ?_⟩
              rw [eX, eY] at hjv
              have hv1 : sk N (C i) (y :: x :: st') = none := by
                unfold sk; rw [if_neg g1, if_neg g2]; dsimp only; rw [if_neg hn12, hCi, c1, hjv]; rfl
              exact hk2 (by rw [evl_none hv1]; rfl) M' (hF.tr hM')
  exact key (e - b) b [] _ (by omega) (Nat.le_refl b) (by simp) hw (fun x hx => by cases hx) trivial (by rw [mset_s]; rfl) (Fp.rf.set (Or.inl ⟨rfl, rfl⟩)) hv hn
