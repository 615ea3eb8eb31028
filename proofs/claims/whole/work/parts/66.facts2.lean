/-! raise, season, strike, fact, count -/
theorem SF_add {pp nf : Nat} {s a b how : Int} {F : FTab} (hf : SF pp s nf F) (h2 : isTwo pp a b) (hh : 0 ≤ how ∧ how ≤ 1) (hn : nf < 24) (hr : noR (hadd F nf a b how (-1) 0) (nf + 1) pp) : SF pp s (nf + 1) (hadd F nf a b how (-1) 0) := by
  obtain ⟨h5, hs, h24, hg, _⟩ := hf
  obtain ⟨e0, e1, e2, e3, e4⟩ := hadd_s (H := F) (nh := nf) (a := a) (b := b) (c := how) (x := -1) (r := 0)
  refine ⟨h5, hs, by omega, ⟨fun i hi => ?_, fun i hi => ?_⟩, hr⟩
  · by_cases q : i = nf
    · subst q; rw [e0, e1]; omega
    · rw [hadd_o q]; exact hg.1 i (by omega)
  · by_cases q : i = nf
    · subst q; rw [e2, e3, e4]; omega
    · rw [hadd_o q]; exact hg.2 i (by omega)
theorem Fgood_add {pp nf : Nat} {a b how : Int} {F : FTab} (hg : Fgood F nf pp) (h2 : isTwo pp a b) (hh : 0 ≤ how ∧ how ≤ 1) : Fgood (hadd F nf a b how (-1) 0) (nf + 1) pp := by
  obtain ⟨e0, e1, e2, e3, e4⟩ := hadd_s (H := F) (nh := nf) (a := a) (b := b) (c := how) (x := -1) (r := 0)
  refine ⟨fun i hi => ?_, fun i hi => ?_⟩
  · by_cases q : i = nf
    · subst q; rw [e0, e1]; omega
    · rw [hadd_o q]; exact hg.1 i (by omega)
  · by_cases q : i = nf
    · subst q; rw [e2, e3, e4]; omega
    · rw [hadd_o q]; exact hg.2 i (by omega)
theorem noR_same {F G : FTab} {n pp : Nat} (h : SameF F G n) : noR F n pp ↔ noR G n pp := by
  unfold noR
  constructor
  · intro q s h0 h3 a; rw [← abv_same h]; exact q s h0 h3 a
  · intro q s h0 h3 a; rw [abv_same h]; exact q s h0 h3 a
def raiseV (pp nf : Nat) (F : FTab) (a b how : Int) : Prop := isTwo pp a b ∧ (0 ≤ how ∧ how ≤ 1) ∧ nf < 24 ∧ hasF F a b how (-1) nf = false ∧ noR (hadd F nf a b how (-1) 0) (nf + 1) pp
def fcs (k j : Nat) : Prop := cs k ∨ fset 30 k j
theorem s_raise {pp n nf : Nat} {s : Int} {F : FTab} {ag C : Nat → Int} {Bg E : Nat → Nat} {M : Mem} {P : Int → Mem → Prop} {a b how : Int} (hS : SC M pp n s nf F ag C Bg E) (hf : SF pp s nf F)
    (hy : raiseV pp nf F a b how → ∀ M', Fp fcs M M' → SC M' pp n s (nf + 1) (hadd F nf a b how (-1) 0) ag C Bg E → P (nf : Int) M') (hno : ¬ raiseV pp nf F a b how → ∀ M', Fp fcs M M' → SC M' pp n s nf F ag C Bg E → P (-1) M') : CI m10_raise 5 [(19, ((0 : Nat) : Int)), (0, a), (0, b), (0, how)] M P := by
  have hno0 : ¬ raiseV pp nf F a b how → P (-1) M := fun q => hno q M Fp.rf hS
  have h5 := hf.1
  have h24 := hf.2.2.1
  have hnf := hS.2.2.2.2.1
  have hsame := hS.2.2.2.2.2
  unfold raiseV at hy hno hno0
  apply q_10_raise
  apply s_areTwo hS.1
  rw [hnf]
  refine ⟨fun q => hno0 (fun z => bi_eq q z.1), fun q => ⟨fun q1 => hno0 (fun z => by omega), fun q1 => ⟨fun q2 => hno0 (fun z => by omega), fun q2 => ⟨fun q3 => s_tells (o := 30) (by decide) hnf h24 ⟨fun q4 => ?_, fun q4 => hno0 (fun z => ?_)⟩, fun q3 => hno0 (fun z => by omega)⟩⟩⟩⟩
  · have hh : hasF F a b how (-1) nf = false := by
      rw [← hasF_same hsame nf (Nat.le_refl nf)]
      cases hb : hasF (FcT M 30) a b how (-1) nf with
      | false => rfl
      | true => exact absurd hb (bi_eq q4)
    have h2 := bi_ne q
    apply s_add (o := 30) (by decide) hnf (by omega)
    intro M1 hF1 hn1 hsm1
    have hsm : SameF (FcT M1 30) (hadd F nf a b how (-1) 0) (nf + 1) := hsm1.tr (hadd_same hsame)
    have hF1' : Fp fcs M M1 := hF1.mono (fun k j q => Or.inr q)
    have e05 : M1 0 5 = M 0 5 := hF1 0 5 (by unfold fset; omega)
    have hS1 : SC M1 pp n s (nf + 1) (hadd F nf a b how (-1) 0) ag C Bg E := hS.up hF1' (fun k j z => by unfold fcs cs fset at z; omega) (e05.trans hS.2.1) hn1 hsm
    have hg := Fgood_add hf.2.2.2.1 h2 (show 0 ≤ how ∧ how ≤ 1 by omega)
    rw [hS1.1]
    have fok1 : FOK M1 30 (nf + 1) pp := ⟨by decide, hn1, by omega, Fin5_same hsm hg.1⟩
    refine s_bends isO34 h5 fok1 (by omega) ?_ ?_
    · intro hr M2 hF2
      rw [noR_same hsm] at hr
      have hF2' : Fp csp M1 M2 := hF2.cs (fun k hk => by unfold oset at hk; unfold cs; omega)
      have hS2 := hS1.fp hF2' (fun k j hk => Or.inl hk)
      rw [hS2.2.2.2.2.1]
      have e : w32 (((nf + 1 : Nat) : Int) - 1) = (nf : Int) := by unfold w32; omega
      rw [e]
      exact ⟨fun _ => hy ⟨h2, by omega, by omega, hh, hr⟩ M2 (hF1'.tr (hF2'.mono (fun k j q => Or.inl q))) hS2, fun z => absurd rfl z⟩
    · intro hr M2 hF2
      rw [noR_same hsm] at hr
      have hF2' : Fp csp M1 M2 := hF2.cs (fun k hk => by unfold oset at hk; unfold cs; omega)
      have hS2 := hS1.fp hF2' (fun k j hk => Or.inl hk)
      refine ⟨fun z => absurd z (by decide), fun _ => ?_⟩
      apply q_2_dropLast
      rw [hS2.2.2.2.2.1]
      have e : w32 (((nf + 1 : Nat) : Int) - 1) = (nf : Int) := by unfold w32; omega
      rw [e]
      have hF3 : Fp fcs M (mset M2 30 1 (nf : Int)) := (hF1'.tr (hF2'.mono (fun k j q => Or.inl q))).set (Or.inr (Or.inl ⟨rfl, rfl⟩))
      refine hno (fun z => hr z.2.2.2.2) _ hF3 (hS2.up (t := fun k j => k = 30 ∧ j = 1) (Fp.rf.set ⟨rfl, rfl⟩) (fun k j z => by omega) (by rw [mset_k (by decide)]; exact hS2.2.1) mset_s (fun i hi c hc => ?_))
      have := hS2.2.2.2.2.2 i (by omega) c hc
      rw [hadd_o (by omega)] at this
      rw [← this]
      unfold FcT
      rw [mset_k (by decide)]
  · rw [← hasF_same hsame nf (Nat.le_refl nf)] at z
    rw [bi_ne q4] at z
    exact absurd z.2.2.2.1 (by decide)
def frs (k j : Nat) : Prop := rs k j ∨ ((69 ≤ k ∧ k ≤ 73) ∧ j < 24) ∨ (k = 59 ∧ j = 31)
theorem m45_rs {M M' : Mem} (h : Fr m45 M M') : Fp rs M M' := h.p.mono (fun k j q => by unfold m45 at q; unfold rs; omega)
theorem s_raise_r {pp n nf : Nat} {s : Int} {F : FTab} {ag C : Nat → Int} {Bg E : Nat → Nat} {M : Mem} {P : Int → Mem → Prop} {a b how : Int} (hS : SR M pp n s nf F ag C Bg E) (hf : SF pp s nf F)
    (hy : raiseV pp nf F a b how → ∀ M', Fp frs (mset M 59 0 0) M' → SR M' pp n s (nf + 1) (hadd F nf a b how (-1) 0) ag C Bg E → P (nf : Int) M') (hno : ¬ raiseV pp nf F a b how → ∀ M', Fp frs (mset M 59 0 0) M' → SR M' pp n s nf F ag C Bg E → P (-1) M') : CI m11_raise 4 [(20, ((59 : Nat) : Int)), (0, a), (0, b), (0, how)] M P := by
  have hS0 := hS.th (v := 0)
  apply q_11_raise
  generalize mset M 59 0 0 = M0 at hS0 hy hno ⊢
  have hno0 : ¬ raiseV pp nf F a b how → P (-1) M0 := fun q => hno q M0 Fp.rf hS0
  have h5 := hf.1
  have h24 := hf.2.2.1
  have hnf := hS0.2.2.2.2.1
  have hsame := hS0.2.2.2.2.2
  unfold raiseV at hy hno hno0
  apply s_areTwo_r hS0.1
  rw [hnf]
  refine ⟨fun q => hno0 (fun z => bi_eq q z.1), fun q => ⟨fun q1 => hno0 (fun z => by omega), fun q1 => ⟨fun q2 => hno0 (fun z => by omega), fun q2 => ⟨fun q3 => hno0 (fun z => by omega), fun q3 => s_hasFact (b := 0) (by omega) ⟨fun q4 => ?_, fun q4 => hno0 (fun z => ?_)⟩⟩⟩⟩⟩
  · have hh : hasF F a b how (-1) nf = false := by
      rw [← hasF_same hsame nf (Nat.le_refl nf)]
      cases hb : hasF (FrT M0 0) a b how (-1) nf with
      | false => rfl
      | true => exact absurd hb (bi_eq q4)
    have h2 := bi_ne q
    have hlt : nf < 24 := by omega
    rw [hnf]
    apply s_lays (b := 0) (n := nf) (by omega) (by unfold w32; omega)
    intro M1 hF1 hsm1
    have hsm : SameF (FrT M1 0) (hadd F nf a b how (-1) 0) (nf + 1) := hsm1.tr (hadd_same hsame)
    have hF1' : Fp frs M0 M1 := hF1.mono (fun k j q => Or.inr (Or.inl ⟨q.1, by omega⟩))
    have e31 : M1 59 31 = (nf : Int) := by rw [hF1 59 31 (by omega)]; exact hnf
    have e32 : M1 59 32 = s := by rw [hF1 59 32 (by omega)]; exact hS0.2.1
    have e61 : M1 61 0 = (pp : Int) := by rw [hF1 61 0 (by omega)]; exact hS0.1
    have hg := Fgood_add hf.2.2.2.1 h2 (show 0 ≤ how ∧ how ≤ 1 by omega)
    rw [e31, e61, w_1 (by omega)]
    refine s_isRound (b := 0) (by omega) h5 (Fgood_same hsm hg) ?_ ?_
    · intro hr M2 hF2
      rw [noR_same hsm] at hr
      have hF2' := m45_rs hF2
      have e2 : M2 59 31 = (nf : Int) := by rw [hF2 59 (by unfold m45; omega)]; exact e31
      rw [mset_s, e2, w_1 (by omega)]
      have e : w32 (((nf + 1 : Nat) : Int) - 1) = (nf : Int) := by unfold w32; omega
      rw [e]
      refine ⟨fun _ => hy ⟨h2, by omega, by omega, hh, hr⟩ _ ((hF1'.tr (hF2'.mono (fun k j q => Or.inl q))).set (Or.inr (Or.inr ⟨rfl, rfl⟩))) ?_, fun z => absurd rfl z⟩
      refine hS0.up (t := frs) ((hF1'.tr (hF2'.mono (fun k j q => Or.inl q))).set (Or.inr (Or.inr ⟨rfl, rfl⟩))) (fun k j z => by unfold frs rs at z; omega) ?_ mset_s ?_
      · rw [mset_j (by decide), hF2 59 (by unfold m45; omega)]; exact e32
      · have ef : FrT (mset M2 59 31 ((nf + 1 : Nat) : Int)) 0 = FrT M1 0 := by
          rw [← FrT_fr (b := 0) hF2]
          funext i c
          unfold FrT
          rw [mset_k (by decide), mset_k (by decide), mset_k (by decide), mset_k (by decide), mset_k (by decide)]
        rw [ef]; exact hsm
    · intro hr M2 hF2
      rw [noR_same hsm] at hr
      have hF2' := m45_rs hF2
      refine ⟨fun z => absurd z (by decide), fun _ => hno (fun z => hr z.2.2.2.2) M2 (hF1'.tr (hF2'.mono (fun k j q => Or.inl q))) ?_⟩
      refine hS0.up (t := frs) (hF1'.tr (hF2'.mono (fun k j q => Or.inl q))) (fun k j z => by unfold frs rs at z; omega) ?_ ?_ (fun i hi c hc => ?_)
      · rw [hF2 59 (by unfold m45; omega)]; exact e32
      · rw [hF2 59 (by unfold m45; omega)]; exact e31
      · rw [FrT_fr hF2]
        have := hsm i (by omega) c hc
        rw [hadd_o (by omega)] at this
        exact this
  · rw [← hasF_same hsame nf (Nat.le_refl nf)] at z
    rw [bi_ne q4] at z
    exact absurd z.2.2.2.1 (by decide)
theorem FcT_o {M : Mem} {k j o : Nat} {v : Int} (h : k ≠ o + 1) : FcT (mset M k j v) o = FcT M o := by
  funext i c; unfold FcT; rw [mset_k (by omega)]
theorem FrT_o {M : Mem} {k j b : Nat} {v : Int} (h : k < 69 ∨ 73 < k) : FrT (mset M k j v) b = FrT M b := by
  funext i c; unfold FrT
  rw [mset_k (by omega), mset_k (by omega), mset_k (by omega), mset_k (by omega), mset_k (by omega)]
theorem s_season {pp n nf : Nat} {s : Int} {F : FTab} {ag C : Nat → Int} {Bg E : Nat → Nat} {M : Mem} {P : Int → Mem → Prop} {x : Int} (hS : SC M pp n s nf F ag C Bg E)
    (hy : (0 ≤ x ∧ x < 4) → SC (mset M 0 5 x) pp n x nf F ag C Bg E → P 1 (mset M 0 5 x)) (hno : ¬ (0 ≤ x ∧ x < 4) → P 0 M) : CI m10_season 2 [(19, ((0 : Nat) : Int)), (0, x)] M P := by
  apply q_10_season
  apply s_isSeason
  refine ⟨fun q => hy (bi_ne q) ?_, fun q => hno (bi_eq q)⟩
  exact hS.up (t := fun k j => k = 0 ∧ j = 5) (Fp.rf.set ⟨rfl, rfl⟩) (fun k j z => by omega) mset_s (by rw [mset_k (by decide)]; exact hS.2.2.2.2.1) (by rw [FcT_o (by decide)]; exact hS.2.2.2.2.2)
theorem s_season_r {pp n nf : Nat} {s : Int} {F : FTab} {ag C : Nat → Int} {Bg E : Nat → Nat} {M : Mem} {P : Int → Mem → Prop} {x : Int} (hS : SR M pp n s nf F ag C Bg E)
    (hy : (0 ≤ x ∧ x < 4) → SR (mset (mset M 59 0 0) 59 32 x) pp n x nf F ag C Bg E → P 1 (mset (mset M 59 0 0) 59 32 x)) (hno : ¬ (0 ≤ x ∧ x < 4) → P 0 (mset M 59 0 0)) : CI m11_season 2 [(20, ((59 : Nat) : Int)), (0, x)] M P := by
  have hS0 := hS.th (v := 0)
  apply q_11_season
  apply s_isSeason_r
  refine ⟨fun q => hy (bi_ne q) ?_, fun q => hno (bi_eq q)⟩
  exact hS0.up (t := fun k j => k = 59 ∧ j = 32) (Fp.rf.set ⟨rfl, rfl⟩) (fun k j z => by omega) mset_s (by rw [mset_j (by decide)]; exact hS0.2.2.2.2.1) (by rw [FrT_o (by decide)]; exact hS0.2.2.2.2.2)
/-- a fact struck out -/
def fstr (F : FTab) (i : Nat) : FTab := fun j c => if j = i ∧ c = 4 then 1 else F j c
theorem pth_rel {R R' : Nat → Nat → Bool} (h : ∀ a b, R a b = true → R' a b = true) : ∀ m a b, pth R m a b = true → pth R' m a b = true
  | 0, a, b, q => h a b q
  | m + 1, a, b, q => by
    have q : (pth R m a b || (pth R m a m && pth R m m b)) = true := q
    show (pth R' m a b || (pth R' m a m && pth R' m m b)) = true
    simp only [Bool.or_eq_true, Bool.and_eq_true] at q ⊢
    rcases q with z | ⟨z1, z2⟩
    · exact Or.inl (pth_rel h m a b z)
    · exact Or.inr ⟨pth_rel h m a m z1, pth_rel h m m b z2⟩
theorem fstr_o {F : FTab} {i j c : Nat} (h : j ≠ i ∨ c ≠ 4) : fstr F i j c = F j c := by unfold fstr; rw [if_neg (by omega)]
theorem fstr_s {F : FTab} {i : Nat} : fstr F i i 4 = 1 := by unfold fstr; rw [if_pos ⟨rfl, rfl⟩]
theorem lvl_str {F : FTab} {i n : Nat} {a b : Nat} (h : lvl (fstr F i) n a b = true) : lvl F n a b = true := by
  refine lvl_least (F := fstr F i) (R := fun p q => lvl F n p q = true) (lvl_refl F n) (lvl_eqv F n).1 (lvl_eqv F n).2 (k := n) (fun j hj h4 h2 => ?_) a b h
  by_cases q : j = i
  · subst q; rw [fstr_s] at h4; cases h4
  · rw [fstr_o (Or.inl q), fstr_o (Or.inl q)]
    rw [fstr_o (Or.inl q)] at h4 h2
    exact lvl_has hj h4 h2
theorem abv_str {F : FTab} {i n pp : Nat} {s : Int} {a b : Nat} (h : abv (fstr F i) n pp s a b = true) : abv F n pp s a b = true := by
  refine pth_rel (fun a b q => ?_) pp a b h
  obtain ⟨j, hj, h1, h2, h3⟩ := ob_iff.mp q
  by_cases e : j = i
  · subst e
    have h1 := of_decide_eq_true h1
    rw [fstr_s] at h1
    exact absurd h1.1 (by decide)
  · have e0 : fstr F i j = F j := funext fun c => fstr_o (Or.inl e)
    rw [e0] at h2 h3
    unfold isAb at h1
    rw [e0] at h1
    exact ob_iff.mpr ⟨j, hj, h1, lvl_str h2, lvl_str h3⟩
theorem SF_str {pp nf i : Nat} {s : Int} {F : FTab} (hf : SF pp s nf F) : SF pp s nf (fstr F i) := by
  obtain ⟨h5, hs, h24, hg, hr⟩ := hf
  refine ⟨h5, hs, h24, ⟨fun j hj => ?_, fun j hj => ?_⟩, fun s' h0 h3 a => ?_⟩
  · rw [fstr_o (Or.inr (by omega)), fstr_o (Or.inr (by omega))]; exact hg.1 j hj
  · rw [fstr_o (c := 2) (Or.inr (by omega)), fstr_o (c := 3) (Or.inr (by omega))]
    refine ⟨(hg.2 j hj).1, (hg.2 j hj).2.1, ?_⟩
    by_cases e : j = i
    · subst e; rw [fstr_s]; exact Or.inr rfl
    · rw [fstr_o (Or.inl e)]; exact (hg.2 j hj).2.2
  · cases hb : abv (fstr F i) nf pp s' a a with
    | false => rfl
    | true => have := abv_str hb; rw [hr s' h0 h3 a] at this; cases this
def strV (nf : Nat) (F : FTab) (x : Int) : Prop := (0 ≤ x ∧ x < nf) ∧ F x.toNat 4 = 0
theorem s_strike {pp n nf : Nat} {s : Int} {F : FTab} {ag C : Nat → Int} {Bg E : Nat → Nat} {M : Mem} {P : Int → Mem → Prop} {x : Int} (hS : SC M pp n s nf F ag C Bg E) (hf : SF pp s nf F)
    (hy : strV nf F x → ∀ M', Fp (fun k _ => k = 31) M M' → SC M' pp n s nf (fstr F x.toNat) ag C Bg E → P 1 M') (hno : ¬ strV nf F x → P 0 M) : CI m10_strike 3 [(19, ((0 : Nat) : Int)), (0, x)] M P := by
  have hnf := hS.2.2.2.2.1
  have h24 := hf.2.2.1
  unfold strV at hy hno
  apply q_10_strike
  by_cases hx : 0 ≤ x ∧ x < (nf : Int)
  · obtain ⟨i, rfl⟩ : ∃ i : Nat, x = (i : Int) := ⟨x.toNat, by omega⟩
    simp only [Int.toNat_natCast] at hy hno
    have e4 := hS.2.2.2.2.2 i (by omega) 4 (by omega)
    apply s_lives (o := 30) (by decide) (by omega) (by rw [hnf]; omega)
    rw [e4]
    refine ⟨fun q => ?_, fun q => hno (fun z => bi_eq q z.2)⟩
    apply q_2_strikeOut
    have a31 : ((aln (30 + 1) : Nat) : Int) = 120 := by decide
    have w4 : w32 (w32 ((i : Int) * 5) + 4) = ((5 * i + 4 : Nat) : Int) := w5 (c := 4) (by omega) (by omega)
    rw [w4]
    apply s_put (by omega) (by omega)
    rw [Int.toNat_natCast]
    have h0 : Fp (fun k _ => k = 31) M M := Fp.rf
    have hF := h0.set (k := 31) (j := 5 * i + 4) (v := 1) rfl
    refine hy ⟨hx, bi_ne q⟩ _ hF (hS.up hF (fun k j z => by omega) (by rw [mset_k (by decide)]; exact hS.2.1) (by rw [mset_k (by decide)]; exact hnf) (fun j hj c hc => ?_))
    unfold FcT
    by_cases e : j = i ∧ c = 4
    · obtain ⟨rfl, rfl⟩ := e
      rw [fstr_s]; exact mset_s
    · rw [fstr_o (by omega), mset_j (by omega)]
      exact hS.2.2.2.2.2 j hj c hc
  · apply s_lives_o (by rw [hnf]; omega)
    exact ⟨fun q => absurd rfl q, fun _ => hno (fun z => hx z.1)⟩
theorem s_isFact {nf : Nat} {x : Int} {M : Mem} {P : Int → Mem → Prop} (hn : M 59 31 = (nf : Int)) (h : P (bi (0 ≤ x ∧ x < (nf : Int))) M) : CI m11_isFact 1 [(20, ((59 : Nat) : Int)), (0, x)] M P := by
  apply q_11_isFact
  rw [hn]
  refine ⟨fun q => ?_, fun q => ⟨fun q1 => ?_, fun q1 => ?_⟩⟩
  · rwa [bi_f (by omega)] at h
  · rwa [bi_f (by omega)] at h
  · rwa [bi_t (by omega)] at h
theorem s_strike_r {pp n nf : Nat} {s : Int} {F : FTab} {ag C : Nat → Int} {Bg E : Nat → Nat} {M : Mem} {P : Int → Mem → Prop} {x : Int} (hS : SR M pp n s nf F ag C Bg E) (hf : SF pp s nf F)
    (hy : strV nf F x → ∀ M', Fp (fun k j => k = 73 ∧ j < 24) (mset M 59 0 0) M' → SR M' pp n s nf (fstr F x.toNat) ag C Bg E → P 1 M') (hno : ¬ strV nf F x → P 0 (mset M 59 0 0)) : CI m11_strike 2 [(20, ((59 : Nat) : Int)), (0, x)] M P := by
  have hS0 := hS.th (v := 0)
  have hnf := hS0.2.2.2.2.1
  have h24 := hf.2.2.1
  unfold strV at hy hno
  apply q_11_strike
  generalize mset M 59 0 0 = M0 at hS0 hnf hy hno ⊢
  apply s_isFact hnf
  refine ⟨fun q => hno (fun z => bi_eq q z.1), fun q => ?_⟩
  have hx := bi_ne q
  obtain ⟨i, rfl⟩ : ∃ i : Nat, x = (i : Int) := ⟨x.toNat, by omega⟩
  simp only [Int.toNat_natCast] at hy hno ⊢
  have e4 : M0 73 (0 + i) = F i 4 := hS0.2.2.2.2.2 i (by omega) 4 (by omega)
  rw [Nat.zero_add] at e4
  rw [e4]
  refine ⟨by omega, fun q1 => ⟨by omega, ?_⟩, fun q1 => hno (fun z => q1 z.2)⟩
  have h0 : Fp (fun k j => k = 73 ∧ j < 24) M0 M0 := Fp.rf
  have hF := h0.set (k := 73) (j := i) (v := 1) ⟨rfl, by omega⟩
  refine hy ⟨hx, q1⟩ _ hF (hS0.up hF (fun k j z => by omega) (by rw [mset_k (by decide)]; exact hS0.2.1) (by rw [mset_k (by decide)]; exact hnf) (fun j hj c hc => ?_))
  have hs := hS0.2.2.2.2.2 j hj c hc
  by_cases e : j = i ∧ c = 4
  · obtain ⟨rfl, rfl⟩ := e
    rw [fstr_s]
    simp [FrT, mset]
  · rw [fstr_o (by omega), ← hs]
    match c, hc with
    | 0, _ => simp [FrT, mset]
    | 1, _ => simp [FrT, mset]
    | 2, _ => simp [FrT, mset]
    | 3, _ => simp [FrT, mset]
    | 4, _ => simp [FrT, mset]; omega
def factV (nf : Nat) (F : FTab) (x y : Int) : Int := if (0 ≤ x ∧ x < (nf : Int)) ∧ (0 ≤ y ∧ y < 5) then F x.toNat y.toNat else -1
theorem s_fact {pp n nf : Nat} {s : Int} {F : FTab} {ag C : Nat → Int} {Bg E : Nat → Nat} {M : Mem} {P : Int → Mem → Prop} {x y : Int} (hS : SC M pp n s nf F ag C Bg E) (hf : SF pp s nf F)
    (h : P (factV nf F x y) M) : CI m10_fact 3 [(19, ((0 : Nat) : Int)), (0, x), (0, y)] M P := by
  have hnf := hS.2.2.2.2.1
  have h24 := hf.2.2.1
  have no : ¬ ((0 ≤ x ∧ x < (nf : Int)) ∧ (0 ≤ y ∧ y < 5)) → P (-1) M := fun q => by unfold factV at h; rwa [if_neg q] at h
  apply q_10_fact
  rw [hnf]
  refine ⟨fun q => no (by omega), fun q => ⟨fun q1 => no (by omega), fun q1 => ⟨fun q2 => no (by omega), fun q2 => ⟨fun q3 => ?_, fun q3 => no (by omega)⟩⟩⟩⟩
  unfold factV at h
  rw [if_pos (by omega)] at h
  obtain ⟨i, rfl⟩ : ∃ i : Nat, x = (i : Int) := ⟨x.toNat, by omega⟩
  obtain ⟨c, rfl⟩ : ∃ c : Nat, y = (c : Int) := ⟨y.toNat, by omega⟩
  simp only [Int.toNat_natCast] at h
  apply s_cell (o := 30) (by decide) (by omega) (by omega)
  rw [hS.2.2.2.2.2 i (by omega) c (by omega)]
  exact h
theorem s_fact_r {pp n nf : Nat} {s : Int} {F : FTab} {ag C : Nat → Int} {Bg E : Nat → Nat} {M : Mem} {P : Int → Mem → Prop} {x y : Int} (hS : SR M pp n s nf F ag C Bg E) (hf : SF pp s nf F)
    (h : P (factV nf F x y) (mset M 59 0 0)) : CI m11_fact 2 [(20, ((59 : Nat) : Int)), (0, x), (0, y)] M P := by
  have hS0 := hS.th (v := 0)
  have hnf := hS0.2.2.2.2.1
  have h24 := hf.2.2.1
  apply q_11_fact
  generalize mset M 59 0 0 = M0 at hS0 hnf h ⊢
  have no : ¬ ((0 ≤ x ∧ x < (nf : Int)) ∧ (0 ≤ y ∧ y < 5)) → P (-1) M0 := fun q => by unfold factV at h; rwa [if_neg q] at h
  apply s_isFact hnf
  refine ⟨fun q => ?_, fun q => no (fun z => bi_eq q z.1)⟩
  have hx := bi_ne q
  obtain ⟨i, rfl⟩ : ∃ i : Nat, x = (i : Int) := ⟨x.toNat, by omega⟩
  have hs := hS0.2.2.2.2.2 i (by omega)
  have e0 : M0 69 (0 + i) = F i 0 := hs 0 (by omega)
  have e1 : M0 70 (0 + i) = F i 1 := hs 1 (by omega)
  have e2 : M0 71 (0 + i) = F i 2 := hs 2 (by omega)
  have e3 : M0 72 (0 + i) = F i 3 := hs 3 (by omega)
  have e4 : M0 73 (0 + i) = F i 4 := hs 4 (by omega)
  rw [Nat.zero_add] at e0 e1 e2 e3 e4
  have yes : ∀ c : Nat, y = (c : Int) → c < 5 → P (F i c) M0 := fun c hc h5 => by
    subst hc
    unfold factV at h
    rw [if_pos (by omega)] at h
    exact h
  have b4 := (hf.2.2.2.1.2 i (by omega)).2.2
  have hlt : ((0 : Int) ≤ (i : Int) ∧ (i : Int) < 72) := by omega
  rw [Int.toNat_natCast, e0, e1, e2, e3, e4]
  refine ⟨fun z => ⟨hlt, yes 0 (by omega) (by omega)⟩, fun z => ⟨hlt, yes 1 (by omega) (by omega)⟩, fun z => ⟨hlt, yes 2 (by omega) (by omega)⟩, fun z => ⟨hlt, yes 3 (by omega) (by omega)⟩, fun z => ⟨hlt, fun z1 => ?_, fun z1 => ?_⟩, fun z => no (by omega)⟩
  · have := yes 4 (by omega) (by omega); rwa [z1] at this
  · have := yes 4 (by omega) (by omega); rwa [show F i 4 = 1 by omega] at this
