/-! count, keep, back -/
def lvc (F : FTab) : Nat → Nat
  | 0 => 0
  | k + 1 => if F k 4 = 0 then lvc F k + 1 else lvc F k
theorem lvc_step {F : FTab} {k : Nat} : lvc F (k + 1) = if F k 4 = 0 then lvc F k + 1 else lvc F k := rfl
theorem lvc_le {F : FTab} : ∀ k, lvc F k ≤ k
  | 0 => Nat.le_refl 0
  | k + 1 => by have := lvc_le (F := F) k; rw [lvc_step]; split <;> omega
theorem lvc_same {F G : FTab} {n : Nat} (h : SameF F G n) : ∀ k, k ≤ n → lvc F k = lvc G k
  | 0, _ => rfl
  | k + 1, hk => by rw [lvc_step, lvc_step, lvc_same h k (by omega), h k (by omega) 4 (by omega)]
theorem s_countLiving {o n : Nat} {M : Mem} {P : Int → Mem → Prop} (ho : aln (o + 1) = 120) (hn : M o 1 = (n : Int)) (h24 : n ≤ 24) (h : P (lvc (FcT M o) n : Int) M) : CI m2_countLiving 3 [(12, (o : Int))] M P := by
  apply q_2_countLiving
  refine loop_up (Inv := fun _ M1 => M1 = M) (G := fun k M1 => A m2_countLiving 3 0 4 [(12, (o : Int)), (0, (lvc (FcT M o) k : Int)), (0, (k : Int))] [] M1 (Ki P)) n ?_ ?_ 0 M (Nat.zero_le _) rfl
  · rintro M1 rfl
    apply r_2_countLiving_4
    rw [hn]
    exact ⟨fun _ => h, fun q => by omega⟩
  · rintro k M1 hk rfl ih
    have nx := ih M1 rfl
    have hl := lvc_le (F := FcT M1 o) k
    rw [lvc_step] at nx
    apply r_2_countLiving_4
    rw [hn, w_1 (by omega), w_1 (by omega)]
    refine ⟨fun q => by omega, fun _ => s_lives ho (by omega) (by rw [hn]; omega) ⟨fun q => ?_, fun q => ?_⟩⟩
    · rw [if_neg (bi_eq q)] at nx; exact nx
    · rw [if_pos (bi_ne q)] at nx; exact nx
def cntV (pp n nf nh kn : Nat) (s kb : Int) (F : FTab) (x : Int) : Int :=
  if x = 0 then pp else if x = 1 then nf else if x = 2 then n else if x = 3 then kn else if x = 4 then s else if x = 5 then nh else if x = 6 then (if kb = -1 then (nh : Int) else kb) else if x = 7 then lvc F nf else -1
theorem s_knownCount {nh : Nat} {kb : Int} {M : Mem} {P : Int → Mem → Prop} (h5 : M 43 5 = (nh : Int)) (h6 : M 43 6 = kb) (h : P (if kb = -1 then (nh : Int) else kb) M) : CI m4_knownCount 1 [(14, ((43 : Nat) : Int))] M P := by
  apply q_4_knownCount
  rw [h5, h6]
  refine ⟨fun q => ?_, fun q => ?_⟩
  · rwa [if_neg q] at h
  · rwa [if_pos q] at h
theorem s_knownMany {nh : Nat} {kb : Int} {M : Mem} {P : Int → Mem → Prop} (h5 : M 59 46 = (nh : Int)) (h6 : M 59 47 = kb) (h : P (if kb = -1 then (nh : Int) else kb) M) : CI m11_knownMany 1 [(20, ((59 : Nat) : Int))] M P := by
  apply q_11_knownMany
  rw [h5, h6]
  refine ⟨fun q => ?_, fun q => ?_⟩
  · rwa [if_neg q] at h
  · rwa [if_pos q] at h
theorem s_count {pp n nf nh kn : Nat} {s kb : Int} {F H : FTab} {ag C : Nat → Int} {Bg E : Nat → Nat} {M : Mem} {P : Int → Mem → Prop} {x : Int} (hS : SC M pp n s nf F ag C Bg E) (hf : SF pp s nf F) (hM : MC M n ag C Bg E nh kb H) (hk : M 25 5 = (kn : Int))
    (h : P (cntV pp n nf nh kn s kb F x) M) : CI m10_count 4 [(19, ((0 : Nat) : Int)), (0, x)] M P := by
  have h24 := hf.2.2.1
  unfold cntV at h
  apply q_10_count
  rw [hS.1, hS.2.1, hS.2.2.1.2.2.1, hS.2.2.2.2.1, hk, hM.1]
  refine ⟨fun q => ?_, fun q => ?_, fun q => ?_, fun q => ?_, fun q => ?_, fun q => ?_, fun q => ?_, fun q => ?_, fun q => ?_⟩
  · subst q; exact h
  · subst q; exact h
  · subst q; exact h
  · subst q; exact h
  · subst q; exact h
  · subst q; exact h
  · subst q; exact s_knownCount hM.1 hM.2.1 h
  · subst q
    refine s_countLiving (o := 30) (by decide) hS.2.2.2.2.1 h24 ?_
    rw [lvc_same hS.2.2.2.2.2 nf (Nat.le_refl nf)]
    exact h
  · rwa [if_neg (by omega), if_neg (by omega), if_neg (by omega), if_neg (by omega), if_neg (by omega), if_neg (by omega), if_neg (by omega), if_neg (by omega)] at h
theorem s_count_r {pp n nf nh kn : Nat} {s kb : Int} {F H : FTab} {ag C : Nat → Int} {Bg E : Nat → Nat} {M : Mem} {P : Int → Mem → Prop} {x : Int} (hS : SR M pp n s nf F ag C Bg E) (hf : SF pp s nf F) (hM : MRf M nh kb H) (hk : M 61 4 = (kn : Int))
    (h : P (cntV pp n nf nh kn s kb F x) (mset M 59 0 0)) : CI m11_count 2 [(20, ((59 : Nat) : Int)), (0, x)] M P := by
  have h24 := hf.2.2.1
  have hS0 := hS.th (v := 0)
  have hM0 : MRf (mset M 59 0 0) nh kb H := hM.fp (t := fun k j => k = 59 ∧ j = 0) (Fp.rf.set ⟨rfl, rfl⟩) (fun k j q => Or.inr (Or.inl (by omega)))
  have hk0 : (mset M 59 0 0) 61 4 = (kn : Int) := by rw [mset_k (by decide)]; exact hk
  unfold cntV at h
  apply q_11_count
  generalize mset M 59 0 0 = M0 at hS0 hM0 hk0 h ⊢
  rw [hS0.1, hS0.2.1, hS0.2.2.1.2.1, hS0.2.2.2.2.1, hk0, hM0.1]
  refine ⟨fun q => ?_, fun q => ?_, fun q => ?_, fun q => ?_, fun q => ?_, fun q => ?_, fun q => ?_, fun q => ?_, fun q => ?_⟩
  · subst q; exact h
  · subst q; exact h
  · subst q; exact h
  · subst q; exact h
  · subst q; exact h
  · subst q; exact h
  · subst q; exact s_knownMany hM0.1 hM0.2.1 h
  · subst q
    have h : P (lvc F nf : Int) M0 := h
    refine loop_up (Inv := fun _ M1 => M1 = M0) (G := fun k M1 => A m11_count 2 0 99 [(20, ((59 : Nat) : Int)), (2, 0), (0, (lvc F k : Int)), (0, (k : Int))] [] M1 (Ki P)) nf ?_ ?_ 0 M0 (Nat.zero_le _) rfl
    · rintro M1 rfl
      apply r_11_count_99
      rw [hS0.2.2.2.2.1]
      exact ⟨fun _ => h, fun q => by omega⟩
    · rintro k M1 hk rfl ih
      have nx := ih M1 rfl
      have hl := lvc_le (F := F) k
      rw [lvc_step] at nx
      apply r_11_count_99
      have e4 : M1 73 (0 + k) = F k 4 := hS0.2.2.2.2.2 k hk 4 (by omega)
      rw [Nat.zero_add] at e4
      rw [hS0.2.2.2.2.1, Int.toNat_natCast, e4, w_1 (by omega), w_1 (by omega), Int.add_zero, w32_id (by omega) (by omega)]
      refine ⟨fun q => by omega, fun _ => ⟨by omega, fun q => ?_, fun q => ?_⟩⟩
      · rw [if_pos q] at nx; exact nx
      · rw [if_neg q] at nx; exact nx
  · rwa [if_neg (by omega), if_neg (by omega), if_neg (by omega), if_neg (by omega), if_neg (by omega), if_neg (by omega), if_neg (by omega), if_neg (by omega)] at h
/-- the image -/
def ICl (M : Mem) (kp is : Int) (nif : Nat) (IF : FTab) : Prop := M 0 8 = kp ∧ (kp ≠ 0 → M 0 7 = is ∧ M 32 1 = (nif : Int) ∧ SameF (FcT M 32) IF nif)
def IRf (M : Mem) (kp is : Int) (nif : Nat) (IF : FTab) : Prop := M 59 33 = kp ∧ (kp ≠ 0 → M 59 35 = is ∧ M 59 34 = (nif : Int) ∧ SameF (FrT M 48) IF nif)
def kset (k j : Nat) : Prop := k = 32 ∨ k = 33 ∨ (k = 0 ∧ (j = 7 ∨ j = 8))
theorem mcpy_o {M : Mem} {a b n k j : Nat} (h : k ≠ b) : mcpy M a b n k j = M k j := by unfold mcpy; rw [if_neg (by omega)]
theorem mcpy_s {M : Mem} {a b n j : Nat} (h : j < n) : mcpy M a b n b j = M a j := by unfold mcpy; rw [if_pos ⟨rfl, h⟩]
theorem s_keep {pp n nf : Nat} {s : Int} {F : FTab} {ag C : Nat → Int} {Bg E : Nat → Nat} {M : Mem} {P : Int → Mem → Prop} (hS : SC M pp n s nf F ag C Bg E) (hf : SF pp s nf F)
    (h : ∀ M', Fp kset M M' → SC M' pp n s nf F ag C Bg E → ICl M' 1 s nf F → P (nf : Int) M') : CI m10_keep 3 [(19, ((0 : Nat) : Int))] M P := by
  have h24 := hf.2.2.1
  apply q_10_keep
  apply q_2_take
  refine ⟨by decide, ?_⟩
  have h0 : Fp kset M (mset (mcpy M (30 + 1) (32 + 1) 120) 32 1 ((mcpy M (30 + 1) (32 + 1) 120) 30 1)) := by
    refine Fp.set (fun k j hk => mcpy_o (fun z => hk (Or.inr (Or.inl z)))) (Or.inl rfl)
  have hF := (h0.set (k := 0) (j := 7) (v := s) (Or.inr (Or.inr ⟨rfl, Or.inl rfl⟩))).set (k := 0) (j := 8) (v := 1) (Or.inr (Or.inr ⟨rfl, Or.inr rfl⟩))
  have e30 : (mcpy M (30 + 1) (32 + 1) 120) 30 1 = (nf : Int) := by rw [mcpy_o (by decide)]; exact hS.2.2.2.2.1
  have e05 : (mset (mcpy M (30 + 1) (32 + 1) 120) 32 1 ((mcpy M (30 + 1) (32 + 1) 120) 30 1)) 0 5 = s := by rw [mset_k (by decide), mcpy_o (by decide)]; exact hS.2.1
  rw [e05]
  have hS' := hS.fq hF (fun k j z => by unfold kset at z; omega)
  rw [hS'.2.2.2.2.1]
  refine h _ hF hS' ⟨mset_s, fun _ => ⟨?_, ?_, fun i hi c hc => ?_⟩⟩
  · rw [mset_j (by decide), mset_s]
  · rw [mset_k (by decide), mset_k (by decide), mset_s]; exact e30
  · unfold FcT
    rw [mset_k (by decide), mset_k (by decide), mset_k (by decide), mcpy_s (by omega)]
    exact hS.2.2.2.2.2 i hi c hc
def bset (k j : Nat) : Prop := k = 30 ∨ k = 31 ∨ (k = 0 ∧ j = 5)
theorem s_back {pp n nf nif : Nat} {s kp is : Int} {F IF : FTab} {ag C : Nat → Int} {Bg E : Nat → Nat} {M : Mem} {P : Int → Mem → Prop} (hS : SC M pp n s nf F ag C Bg E) (hI : ICl M kp is nif IF) (hif : kp ≠ 0 → nif ≤ 24)
    (hy : kp ≠ 0 → ∀ M', Fp bset M M' → SC M' pp n is nif IF ag C Bg E → ICl M' kp is nif IF → P (nif : Int) M') (hno : kp = 0 → P (-1) M) : CI m10_back 3 [(19, ((0 : Nat) : Int))] M P := by
  obtain ⟨i1, i2⟩ := hI
  apply q_10_back
  rw [i1]
  refine ⟨fun q => ?_, hno⟩
  have h24 := hif q
  obtain ⟨j1, j2, j3⟩ := i2 q
  apply q_2_take
  refine ⟨by decide, ?_⟩
  have h0 : Fp bset M (mset (mcpy M (32 + 1) (30 + 1) 120) 30 1 ((mcpy M (32 + 1) (30 + 1) 120) 32 1)) := by
    refine Fp.set (fun k j hk => mcpy_o (fun z => hk (Or.inr (Or.inl z)))) (Or.inl rfl)
  have hF := h0.set (k := 0) (j := 5) (v := is) (Or.inr (Or.inr ⟨rfl, rfl⟩))
  have e32 : (mcpy M (32 + 1) (30 + 1) 120) 32 1 = (nif : Int) := by rw [mcpy_o (by decide)]; exact j2
  have e07 : (mset (mcpy M (32 + 1) (30 + 1) 120) 30 1 ((mcpy M (32 + 1) (30 + 1) 120) 32 1)) 0 7 = is := by rw [mset_k (by decide), mcpy_o (by decide)]; exact j1
  rw [e07]
  have hS' : SC (mset (mset (mcpy M (32 + 1) (30 + 1) 120) 30 1 ((mcpy M (32 + 1) (30 + 1) 120) 32 1)) 0 5 is) pp n is nif IF ag C Bg E := by
    refine hS.up hF (fun k j z => by unfold bset at z; omega) mset_s ?_ (fun i hi c hc => ?_)
    · rw [mset_k (by decide), mset_s]; exact e32
    · unfold FcT
      rw [mset_k (by decide), mset_k (by decide), mcpy_s (by omega)]
      exact j3 i hi c hc
  rw [hS'.2.2.2.2.1]
  refine hy q _ hF hS' ⟨?_, fun _ => ⟨?_, ?_, fun i hi c hc => ?_⟩⟩
  · rw [hF 0 8 (by unfold bset; omega)]; exact i1
  · rw [hF 0 7 (by unfold bset; omega)]; exact j1
  · rw [hF 32 1 (by unfold bset; omega)]; exact j2
  · unfold FcT
    rw [hF (32 + 1) _ (by unfold bset; omega)]
    exact j3 i hi c hc
