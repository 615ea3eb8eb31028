/-! the class: THE ORDER whole -/
def isO (o : Nat) : Prop := aln (o + 1) = 8 ∧ aln (o + 2) = 8 ∧ aln (o + 3) = 8 ∧ aln (o + 4) = 8
/-- FACTS as an object holds them -/
def FOK (M : Mem) (f n people : Nat) : Prop := aln (f + 1) = 120 ∧ M f 1 = (n : Int) ∧ n ≤ 24 ∧ Fin5 (FcT M f) n people
def oset (o : Nat) : Nat → Prop := fun k => o ≤ k ∧ k ≤ o + 3
theorem FOK.fr {M M' : Mem} {f n people : Nat} {s : Nat → Prop} (h : FOK M f n people) (hF : Fr s M M') (h1 : ¬ s f) (h2 : ¬ s (f + 1)) : FOK M' f n people ∧ FcT M' f = FcT M f := by
  have e : FcT M' f = FcT M f := by
    funext i c
    unfold FcT
    rw [hF _ h2]
  exact ⟨⟨h.1, by rw [hF _ h1]; exact h.2.1, h.2.2.1, by rw [e]; exact h.2.2.2⟩, e⟩
theorem ishl1 (p : Nat) (hp : p < 8) : ishl 1 (p : Int) = ((1 <<< p : Nat) : Int) := by
  have h : (2 : Nat) ^ p ≤ 2 ^ 8 := Nat.pow_le_pow_right (by decide) (by omega)
  exact ishl_n (a := 1) (b := p) (by omega) (by omega)
theorem ob_step (F : FTab) (L : Nat → Nat → Bool) (s : Int) (k p q : Nat) : ob F L s (k + 1) p q = (ob F L s k p q || (isAb F s k && L (F k 0).toNat p && L (F k 1).toNat q)) := rfl
theorem s_build {o f n people : Nat} {s : Int} {M : Mem} {P : Mem → Prop} (ho : isO o) (hp5 : people ≤ 5) (hf : FOK M f n people) (hd : f + 1 < o ∨ o + 4 < f)
    (h : ∀ M', Fr (oset o) M M' → M' o 4 = (people : Int) → rows M' (o + 1) (lvl (FcT M f) n) → rows M' (o + 2) (ob (FcT M f) (lvl (FcT M f) n) s n) → rows M' (o + 3) (abv (FcT M f) n people s) → P M') : CD m5_build 3 [(15, (o : Int)), (12, (f : Int)), (0, s), (0, (people : Int))] M P := by
  obtain ⟨ho1, ho2, ho3, ho4⟩ := ho
  have nf : ¬ oset o f := by unfold oset; omega
  have nf1 : ¬ oset o (f + 1) := by unfold oset; omega
  have hf1 := hf.1
  have hn := hf.2.2.1
  have hin := hf.2.2.2
  generalize hFe : FcT M f = F at h hin ⊢
  apply q_5_build
  have step3 : ∀ M1, Fr (oset o) M M1 → M1 o 4 = (people : Int) → rows M1 (o + 1) (lvl F n) → rows M1 (o + 2) (fun _ _ => false) → A m5_build 3 0 101 [(15, (o : Int)), (12, (f : Int)), (0, s), (2, 0), (0, 0)] [] M1 (Kd P) := by
    intro M1 hF1 hP1 hL1 hB1
    refine loop_up (Inv := fun k M2 => Fr (oset o) M M2 ∧ M2 o 4 = (people : Int) ∧ rows M2 (o + 1) (lvl F n) ∧ rows M2 (o + 2) (ob F (lvl F n) s k)) (G := fun k M2 => A m5_build 3 0 101 [(15, (o : Int)), (12, (f : Int)), (0, s), (2, 0), (0, (k : Int))] [] M2 (Kd P)) n ?_ ?_ 0 M1 (by omega) ⟨hF1, hP1, hL1, rows_congr hB1 (fun p _ q _ => rfl)⟩
    · rintro M2 ⟨hF2, hP2, hL2, hB2⟩
      obtain ⟨hf2, he2⟩ := hf.fr hF2 nf nf1
      apply r_5_build_101
      rw [hf2.2.1]
      refine ⟨fun _ => ?_, fun q => by omega⟩
      apply s_goOn ho2 ho3 hp5 hP2 hB2
      · intro p q hp
        cases hb : ob F (lvl F n) s n p q with
        | false => rfl
        | true =>
          obtain ⟨i, hi, -, h3, -⟩ := ob_iff.mp hb
          have := hin i hi
          have := lvl_in hin _ p (by omega) h3
          omega
      · intro M3 hF3 hR3
        exact h M3 (hF2.tr (hF3.mono (fun k e => by unfold oset; omega))) (by rw [hF3 o (by omega)]; exact hP2) (fun p hp => by rw [hF3 (o + 1) (by omega)]; exact hL2 p hp) (fun p hp => by rw [hF3 (o + 2) (by omega)]; exact hB2 p hp) hR3
    · rintro k M2 hk ⟨hF2, hP2, hL2, hB2⟩ ih
      obtain ⟨hf2, he2⟩ := hf.fr hF2 nf nf1
      rw [hFe] at he2
      have hik := hin k hk
      apply r_5_build_101
      rw [hf2.2.1]
      refine ⟨fun _ => by omega, fun _ => ?_⟩
      rw [w_1 (by omega)]
      apply s_lives hf1 (by omega) (by rw [hf2.2.1]; omega)
      rw [he2]
      by_cases h4 : F k 4 = 0
      · rw [bi_t h4]
        refine ⟨fun q => absurd q (by omega), fun _ => ?_⟩
        apply s_isLevel hf1 (by omega)
        rw [he2]
        by_cases h2 : F k 2 = 1
        · rw [bi_t h2]
          refine ⟨fun _ => ?_, fun q => absurd q (by omega)⟩
          exact ih M2 ⟨hF2, hP2, hL2, rows_congr hB2 (fun p _ q _ => by simp [ob, isAb, h2])⟩
        · rw [bi_f h2]
          refine ⟨fun q => absurd rfl q, fun _ => ?_⟩
          apply s_isOf hf1 (by omega)
          rw [he2]
          by_cases h3 : F k 3 = -1 ∨ F k 3 = s
          · rw [bi_t h3]
            refine ⟨fun q => absurd q (by omega), fun _ => ?_⟩
            apply s_cell (c := 0) hf1 (by omega) (by omega)
            apply s_cell (c := 1) hf1 (by omega) (by omega)
            rw [he2]
            obtain ⟨a, ha⟩ : ∃ a : Nat, F k 0 = (a : Int) := ⟨_, (Int.toNat_of_nonneg hik.1).symm⟩
            obtain ⟨b, hb⟩ : ∃ b : Nat, F k 1 = (b : Int) := ⟨_, (Int.toNat_of_nonneg hik.2.2.1).symm⟩
            rw [ha, hb] at hik ⊢
            apply s_putAbove ho1 ho2 hp5 hP2 hL2 hB2 (by omega) (by omega)
            intro M3 hF3 hR3
            refine ih M3 ⟨hF2.tr (hF3.mono (fun k e => by unfold oset; omega)), by rw [hF3 o (by omega)]; exact hP2, fun p hp => by rw [hF3 (o + 1) (by omega)]; exact hL2 p hp, rows_congr hR3 (fun p _ q _ => ?_)⟩
            have hab : isAb F s k = true := by simp [isAb, h4, h2, h3]
            rw [ob_step, hab, ha, hb, Int.toNat_natCast, Int.toNat_natCast, Bool.true_and]
            cases hla : lvl F n a p with
            | false => rfl
            | true =>
              have := lvl_in hin a p (by omega) hla
              simp [this]
          · rw [bi_f h3]
            refine ⟨fun _ => ?_, fun q => absurd rfl q⟩
            have hab : isAb F s k = false := by simp [isAb]; intro _ _; simpa using h3
            exact ih M2 ⟨hF2, hP2, hL2, rows_congr hB2 (fun p _ q _ => by simp [ob, hab])⟩
      · rw [bi_f h4]
        refine ⟨fun _ => ?_, fun q => absurd rfl q⟩
        exact ih M2 ⟨hF2, hP2, hL2, rows_congr hB2 (fun p _ q _ => by simp [ob, isAb, h4])⟩
  have step2 : ∀ M1, Fr (oset o) M M1 → M1 o 4 = (people : Int) → rows M1 (o + 1) (fun p q => decide (p = q)) → rows M1 (o + 2) (fun _ _ => false) → A m5_build 3 0 47 [(15, (o : Int)), (12, (f : Int)), (0, s), (2, 0), (0, 0)] [] M1 (Kd P) := by
    intro M1 hF1 hP1 hL1 hB1
    refine loop_up (Inv := fun k M2 => Fr (oset o) M M2 ∧ M2 o 4 = (people : Int) ∧ rows M2 (o + 1) (lvl F k) ∧ rows M2 (o + 2) (fun _ _ => false)) (G := fun k M2 => A m5_build 3 0 47 [(15, (o : Int)), (12, (f : Int)), (0, s), (2, 0), (0, (k : Int))] [] M2 (Kd P)) n ?_ ?_ 0 M1 (by omega) ⟨hF1, hP1, rows_congr hL1 (fun p _ q _ => rfl), hB1⟩
    · rintro M2 ⟨hF2, hP2, hL2, hB2⟩
      obtain ⟨hf2, he2⟩ := hf.fr hF2 nf nf1
      apply r_5_build_47
      rw [hf2.2.1]
      exact ⟨fun _ => step3 M2 hF2 hP2 hL2 hB2, fun q => by omega⟩
    · rintro k M2 hk ⟨hF2, hP2, hL2, hB2⟩ ih
      obtain ⟨hf2, he2⟩ := hf.fr hF2 nf nf1
      rw [hFe] at he2
      have hik := hin k hk
      apply r_5_build_47
      rw [hf2.2.1]
      refine ⟨fun _ => by omega, fun _ => ?_⟩
      rw [w_1 (by omega)]
      apply s_lives hf1 (by omega) (by rw [hf2.2.1]; omega)
      rw [he2]
      by_cases h4 : F k 4 = 0
      · rw [bi_t h4]
        refine ⟨fun q => absurd q (by omega), fun _ => ?_⟩
        apply s_isLevel hf1 (by omega)
        rw [he2]
        by_cases h2 : F k 2 = 1
        · rw [bi_t h2]
          refine ⟨fun q => absurd q (by omega), fun _ => ?_⟩
          apply s_cell (c := 0) hf1 (by omega) (by omega)
          apply s_cell (c := 1) hf1 (by omega) (by omega)
          rw [he2]
          obtain ⟨a, ha⟩ : ∃ a : Nat, F k 0 = (a : Int) := ⟨_, (Int.toNat_of_nonneg hik.1).symm⟩
          obtain ⟨b, hb⟩ : ∃ b : Nat, F k 1 = (b : Int) := ⟨_, (Int.toNat_of_nonneg hik.2.2.1).symm⟩
          rw [ha, hb] at hik ⊢
          apply s_makeLevel ho1 hp5 hP2 hL2 (by omega) (by omega)
          intro M3 hF3 hR3
          refine ih M3 ⟨hF2.tr (hF3.mono (fun k e => by unfold oset; omega)), by rw [hF3 o (by omega)]; exact hP2, rows_congr hR3 (fun p _ q _ => ?_), fun p hp => by rw [hF3 (o + 2) (by omega)]; exact hB2 p hp⟩
          rw [lvl_step, if_pos ⟨h4, h2⟩, ha, hb, Int.toNat_natCast, Int.toNat_natCast]
          have hpin : (lvl F k a p || lvl F k b p) = true → p < people := by
            intro z
            have hin' : Fin5 F k people := fun i hi => hin i (by omega)
            rcases Bool.or_eq_true _ _ ▸ z with z | z
            · exact lvl_in hin' a p (by omega) z
            · exact lvl_in hin' b p (by omega) z
          by_cases hz : (lvl F k a p || lvl F k b p) = true
          · rw [if_pos hz, if_pos (by rw [hz]; simp [hpin hz])]
          · rw [if_neg hz, if_neg (by simp only [Bool.and_eq_true]; exact fun q => hz q.1)]
        · rw [bi_f h2]
          refine ⟨fun _ => ?_, fun q => absurd rfl q⟩
          exact ih M2 ⟨hF2, hP2, rows_congr hL2 (fun p _ q _ => by rw [lvl_step, if_neg (fun z => h2 z.2)]), hB2⟩
      · rw [bi_f h4]
        refine ⟨fun _ => ?_, fun q => absurd rfl q⟩
        exact ih M2 ⟨hF2, hP2, rows_congr hL2 (fun p _ q _ => by rw [lvl_step, if_neg (fun z => h4 z.1)]), hB2⟩
  refine loop_up (Inv := fun k M2 => Fr (oset o) M M2 ∧ M2 o 4 = (people : Int) ∧ ∀ p, p < k → M2 (o + 1) p = ((mk (fun q => decide (p = q)) : Nat) : Int) ∧ M2 (o + 2) p = ((mk (fun _ => false) : Nat) : Int)) (G := fun k M2 => A m5_build 3 0 8 [(15, (o : Int)), (12, (f : Int)), (0, s), (2, 0), (0, (k : Int))] [] M2 (Kd P)) 8 ?_ ?_ 0 _ (by omega) ⟨Fr.rf.set (by unfold oset; omega), mset_s, fun p hp => absurd hp (by omega)⟩
  · rintro M2 ⟨hF2, hP2, hL2⟩
    apply r_5_build_8
    exact ⟨fun _ => step2 M2 hF2 hP2 (fun p hp => (hL2 p hp).1) (fun p hp => (hL2 p hp).2), fun q => absurd q (by omega)⟩
  · rintro k M2 hk ⟨hF2, hP2, hL2⟩ ih
    apply r_5_build_8
    refine ⟨fun _ => by omega, fun _ => ?_⟩
    rw [w_1 (by omega)]
    apply s_put (by omega) (by rw [ho1]; omega)
    apply s_put (by omega) (by rw [ho2]; omega)
    rw [Int.toNat_natCast]
    refine ih _ ⟨(hF2.set (by unfold oset; omega)).set (by unfold oset; omega), by rw [mset_k (by omega), mset_k (by omega)]; exact hP2, fun p hp => ?_⟩
    by_cases e : p = k
    · subst e
      rw [mset_k (show o + 1 ≠ o + 2 by omega), mset_s, mset_s, ishl1 p hk, mk_one p hk]
      exact ⟨rfl, rfl⟩
    · have := hL2 p (by omega)
      rw [mset_k (show o + 1 ≠ o + 2 by omega), mset_j e, mset_j e, mset_k (show o + 2 ≠ o + 1 by omega)]
      exact this
theorem s_isAbove {o a b : Nat} {M : Mem} {P : Int → Mem → Prop} {B : Nat → Nat → Bool} (ho : isO o) (ha : a < 8) (hb : b < 8) (hB : rows M (o + 3) B) (h : P (bi (B a b = true)) M) : CI m5_isAbove 2 [(15, (o : Int)), (0, (a : Int)), (0, (b : Int))] M P := by
  obtain ⟨ho1, ho2, ho3, ho4⟩ := ho
  apply q_5_isAbove
  apply s_at (by omega) (by rw [ho3]; omega)
  rw [Int.toNat_natCast, hB a ha]
  have e := bit_1 (q := b) (mk_lt31 (B a)) (by omega)
  rw [mk_test hb] at e
  exact ⟨fun q => by rwa [bi_f (fun z => q (e.mpr z))] at h, fun q => by rwa [bi_t (e.mp q)] at h⟩
/-- how two stand: 1, -1, 0 -/
def btw (B : Nat → Nat → Bool) (a b : Nat) : Int := if B a b = true then 1 else if B b a = true then -1 else 0
theorem s_between {o a b : Nat} {M : Mem} {P : Int → Mem → Prop} {B : Nat → Nat → Bool} (ho : isO o) (ha : a < 8) (hb : b < 8) (hB : rows M (o + 3) B) (h : P (btw B a b) M) : CI m5_between 3 [(15, (o : Int)), (0, (a : Int)), (0, (b : Int))] M P := by
  apply q_5_between
  apply s_isAbove ho ha hb hB
  unfold btw at h
  by_cases h1 : B a b = true
  · rw [bi_t h1]
    rw [if_pos h1] at h
    exact ⟨fun q => absurd q (by omega), fun _ => h⟩
  · rw [bi_f h1]
    rw [if_neg h1] at h
    refine ⟨fun _ => ?_, fun q => absurd rfl q⟩
    apply s_isAbove ho hb ha hB
    by_cases h2 : B b a = true
    · rw [bi_t h2]
      rw [if_pos h2] at h
      exact ⟨fun q => absurd q (by omega), fun _ => h⟩
    · rw [bi_f h2]
      rw [if_neg h2] at h
      exact ⟨fun _ => h, fun q => absurd rfl q⟩
/-- how many below n hold p -/
def cnt (p : Nat → Bool) : Nat → Nat
  | 0 => 0
  | n + 1 => cnt p n + (p n).toNat
theorem cnt_le (p : Nat → Bool) : ∀ n, cnt p n ≤ n
  | 0 => Nat.le_refl 0
  | n + 1 => by unfold cnt; have := cnt_le p n; have := Bool.toNat_le (p n); omega
theorem s_countAbove {o a people : Nat} {M : Mem} {P : Int → Mem → Prop} {B : Nat → Nat → Bool} (ho : isO o) (hp5 : people ≤ 5) (hpe : M o 4 = (people : Int)) (ha : a < 8) (hB : rows M (o + 3) B) (h : P (cnt (fun x => B x a) people : Int) M) : CI m5_countAbove 3 [(15, (o : Int)), (0, (a : Int))] M P := by
  apply q_5_countAbove
  refine loop_up (Inv := fun k M1 => M1 = M) (G := fun k M1 => A m5_countAbove 3 0 4 [(15, (o : Int)), (0, (a : Int)), (0, (cnt (fun x => B x a) k : Int)), (0, (k : Int))] [] M1 (Ki P)) people ?_ ?_ 0 M (by omega) rfl
  · rintro M1 rfl
    apply r_5_countAbove_4
    rw [hpe]
    exact ⟨fun _ => h, fun q => by omega⟩
  · rintro k M1 hk rfl ih
    apply r_5_countAbove_4
    rw [hpe]
    refine ⟨fun _ => by omega, fun _ => ?_⟩
    have hc := cnt_le (fun x => B x a) k
    apply s_isAbove ho (by omega) ha hB
    rw [w_1 (by omega)]
    by_cases h1 : B k a = true
    · rw [bi_t h1]
      refine ⟨fun q => absurd q (by omega), fun _ => ?_⟩
      rw [w_1 (by omega)]
      have := ih M1 rfl
      simpa [cnt, h1] using this
    · rw [bi_f h1]
      refine ⟨fun _ => ?_, fun q => absurd rfl q⟩
      have := ih M1 rfl
      simpa [cnt, h1] using this
