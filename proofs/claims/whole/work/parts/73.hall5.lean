/-! hall -/
theorem cl_bits : ∀ i, i < 8 → ∀ j, j < 8 → (i + 8 * j) >>> 3 = j ∧ (i + 8 * j) &&& 7 = i := by decide +kernel
theorem bit_pp {hs pp j : Nat} (h : hs < 2 ^ pp) (hb : hs.testBit j = true) : j < pp := by
  by_cases q : j < pp
  · exact q
  · have : 2 ^ pp ≤ 2 ^ j := Nat.pow_le_pow_right (by decide) (by omega)
    rw [Nat.testBit_lt_two_pow (by omega)] at hb
    cases hb
theorem s_hall {pp n nf : Nat} {s : Int} {F : FTab} {ag C : Nat → Int} {Bg E : Nat → Nat} {M : Mem} {P : Int → Mem → Prop} {a hs c x : Int} (hS : SC M pp n s nf F ag C Bg E) (hf : SF pp s nf F)
    (h : ∀ v M', Fp csp M M' → halV pp n s nf F ag C Bg E a hs c x v → P v M') : CI m10_hall 7 [(19, ((0 : Nat) : Int)), (0, a), (0, hs), (0, c), (0, x)] M P := by
  have h5 := hf.1
  have hpw := two_pow_le pp h5
  have hn6 := hS.2.2.1.2.1
  have no : ¬ (isHal pp a hs c ∧ 0 ≤ x ∧ x ≤ 3) → P (-1) M := fun q => h (-1) M Fp.rf (Or.inl ⟨q, rfl⟩)
  apply q_10_hall
  apply s_isHall h5 hS.1
  refine ⟨fun q => no (fun z => bi_eq q z.1), fun q => ⟨fun q1 => no (fun z => by omega), fun q1 => ⟨fun q2 => ?_, fun q2 => no (fun z => by omega)⟩⟩⟩
  have hH := bi_ne q
  obtain ⟨a', c', rfl, rfl, ha, hc, _⟩ := two_nat hH.1
  obtain ⟨m, rfl⟩ : ∃ m : Nat, hs = (m : Int) := ⟨hs.toNat, by have := hH.2.1.1; omega⟩
  have hm : m < 2 ^ pp := by have := hH.2.1.2; omega
  have yes : ∀ v M', Fp csp M M' → ((x < 2 ∧ ∃ b l, lst (fun r => hof n m (rwS pp n s nf F ag C Bg E a' c') r 5) (PL n) = some (b, l) ∧ v = if x = 1 then (b : Int) else (l : Int)) ∨ (2 ≤ x ∧ clV m (rwS pp n s nf F ag C Bg E a' c') x v)) → P v M' := fun v M' hM hv => h v M' hM (Or.inr ⟨⟨hH, q1, q2⟩, by simp only [Int.toNat_natCast]; exact hv⟩)
  rw [hS.1, hS.2.1]
  apply s_buildS hS hf
  intro M1 hF1 _ _ _ hr
  have hS1 := hS.fp hF1 (fun k j hk => Or.inl hk)
  rw [hS1.2.1]
  apply s_hearHall hS1 hf hr ha hc (by omega)
  intro M2 hF2 hR0
  have hF := hF1.tr hF2
  have hS2 := hS1.fp hF2 (fun k j hk => Or.inl hk)
  have hR : ∀ j, m.testBit j = true → M2 42 j = (rwS pp n s nf F ag C Bg E a' c' j : Int) ∧ pm n (rwS pp n s nf F ag C Bg E a' c' j) := fun j hj => ⟨hR0 j (bit_pp hm hj) hj, rgt_pm hn6⟩
  refine ⟨fun q3 => ?_, fun q3 => ?_⟩
  · apply s_clash (R := rwS pp n s nf F ag C Bg E a' c') (by omega) (fun j hj => (hR j hj).1)
    · intro hN
      exact ⟨fun z => absurd rfl z, fun _ => yes _ M2 hF (Or.inr ⟨q3, Or.inl ⟨hN, rfl⟩⟩)⟩
    · intro i j hi hj hP
      obtain ⟨e1, e2⟩ := cl_bits i hi j hj
      have e3 : ishr ((i + 8 * j : Nat) : Int) 3 = (j : Int) := by
        have := ishr_n (a := i + 8 * j) (b := 3) (by omega) (by omega)
        rw [e1] at this; exact this
      have e4 : iand ((i + 8 * j : Nat) : Int) 7 = (i : Int) := by
        have := iand_n (a := i + 8 * j) (b := 7) (by omega)
        rw [e2] at this; exact this
      refine ⟨fun _ => ⟨fun z => ?_, fun z => ?_⟩, fun z => by omega⟩
      · rw [e3]; exact yes _ M2 hF (Or.inr ⟨q3, Or.inr ⟨i, j, hP, by rw [if_neg z]⟩⟩)
      · rw [e4]; exact yes _ M2 hF (Or.inr ⟨q3, Or.inr ⟨i, j, hP, by rw [if_pos z]⟩⟩)
  · rw [hS2.2.2.1.2.2.1]
    apply s_leastOffence hn6 (by omega) hR
    intro b l hl hb
    have hlv : l = hof n m (rwS pp n s nf F ag C Bg E a' c') b 5 := lst_val (PL n) none (fun b l z => by cases z) b l hl
    refine ⟨fun z => ?_, fun z => yes _ M2 hF (Or.inl ⟨q3, b, l, hl, by rw [if_pos z]⟩)⟩
    rw [hS2.2.2.1.2.2.1]
    apply s_hallOffence (by omega) hR hb
    exact yes _ M2 hF (Or.inl ⟨q3, b, l, hl, by rw [if_neg z, hlv]⟩)
theorem fold_some {g : Nat → Nat} : ∀ (L : List Nat) (b : Nat × Nat), ∃ b', L.foldl (lstp g) (some b) = some b'
  | [], b => ⟨b, rfl⟩
  | r :: L, b => by
    obtain ⟨b1, b2⟩ := b
    show ∃ b', L.foldl (lstp g) (if g r < b2 then some (r, g r) else some (b1, b2)) = some b'
    split
    · exact fold_some L _
    · exact fold_some L _
theorem lst_some {g : Nat → Nat} {L : List Nat} (h : 0 < L.length) : ∃ b l, lst g L = some (b, l) := by
  match L, h with
  | r :: L, _ =>
    obtain ⟨⟨b, l⟩, e⟩ := fold_some (g := g) L (r, g r)
    exact ⟨b, l, e⟩
theorem s_hall_r {pp n nf : Nat} {s : Int} {F : FTab} {ag C : Nat → Int} {Bg E : Nat → Nat} {M : Mem} {P : Int → Mem → Prop} {a hs c x : Int} (hS : SR M pp n s nf F ag C Bg E) (hf : SF pp s nf F)
    (h : ∀ v M', Fp rs (mset M 59 0 0) M' → halV pp n s nf F ag C Bg E a hs c x v → P v M') : CI m11_hall 51 [(20, ((59 : Nat) : Int)), (0, a), (0, hs), (0, c), (0, x)] M P := by
  have h5 := hf.1
  have hpw := two_pow_le pp h5
  have hS0 := hS.th (v := 0)
  have hn6 := hS0.2.2.1.1
  have esh := (shl1 pp (by omega)).1
  apply q_11_hall
  generalize mset M 59 0 0 = M0 at hS0 h ⊢
  have no : ¬ (isHal pp a hs c ∧ 0 ≤ x ∧ x ≤ 3) → P (-1) M0 := fun q => h (-1) M0 Fp.rf (Or.inl ⟨q, rfl⟩)
  apply s_areTwo_r hS0.1
  rw [hS0.1, esh]
  refine ⟨fun q => no (fun z => bi_eq q z.1.1), fun q => ⟨fun q1 => no (fun z => by omega), fun q1 => ⟨fun q2 => no (fun z => by omega), fun q2 => ?_⟩⟩⟩
  have h2 := bi_ne q
  obtain ⟨a', c', rfl, rfl, ha, hc, _⟩ := two_nat h2
  obtain ⟨m, rfl⟩ : ∃ m : Nat, hs = (m : Int) := ⟨hs.toNat, by omega⟩
  have hm : m < 2 ^ pp := by omega
  rw [bit_ask (by omega) (by omega)]
  refine ⟨fun q3 => no (fun z => ?_), fun q3 => ⟨fun q4 => no (fun z => by omega), fun q4 => ⟨fun q5 => ?_, fun q5 => no (fun z => by omega)⟩⟩⟩
  · have z3 := z.1.2.2
    rw [Int.toNat_natCast, Int.toNat_natCast] at z3
    rw [z3] at q3
    exact q3 rfl
  have hb : m.testBit a' = false := by
    cases hb : m.testBit a' with
    | false => rfl
    | true => rw [hb] at q3; cases q3
  have hH : isHal pp (a' : Int) (m : Int) (c' : Int) := ⟨h2, ⟨by omega, by omega⟩, by rw [Int.toNat_natCast, Int.toNat_natCast]; exact hb⟩
  have yes : ∀ v M', Fp rs M0 M' → ((x < 2 ∧ ∃ b l, lst (fun r => hof n m (rwS pp n s nf F ag C Bg E a' c') r 5) (PL n) = some (b, l) ∧ v = if x = 1 then (b : Int) else (l : Int)) ∨ (2 ≤ x ∧ clV m (rwS pp n s nf F ag C Bg E a' c') x v)) → P v M' := fun v M' hM hv => h v M' hM (Or.inr ⟨⟨hH, q4, q5⟩, by simp only [Int.toNat_natCast]; exact hv⟩)
  rw [hS0.2.1]
  apply s_layNow hS0 hf
  intro M1 hF1 hmt _
  refine loop_up (Inv := fun i M2 => Fp rs M0 M2 ∧ mat M2 74 (abv F nf pp s) ∧ ∀ j, j < i → m.testBit j = true → M2 81 j = (rwS pp n s nf F ag C Bg E a' c' j : Int)) (G := fun i M2 => A m11_hall 51 0 74 [(20, ((59 : Nat) : Int)), (0, (a' : Int)), (0, (m : Int)), (0, (c' : Int)), (0, x), (2, 0), (0, (i : Int))] [] M2 (Ki P)) pp ?_ ?_ 0 M1 (Nat.zero_le _) ⟨hF1, hmt, fun j hj => by omega⟩
  · rintro M2 ⟨hF, _, hR0⟩
    have hS2 := hS0.rs hF
    have hR : ∀ j, m.testBit j = true → M2 81 j = (rwS pp n s nf F ag C Bg E a' c' j : Int) ∧ pm n (rwS pp n s nf F ag C Bg E a' c' j) := fun j hj => ⟨hR0 j (bit_pp hm hj) hj, rgt_pm hn6⟩
    apply r_11_hall_74
    rw [hS2.1]
    refine ⟨fun _ => ⟨fun q6 => ?_, fun q6 => ⟨fun q7 => ?_, fun q7 => ?_⟩⟩, fun z => by omega⟩
    · have hF2 := (hF.set (k := 59) (j := 45) (v := (m : Int)) (Or.inl (by omega))).set (k := 59) (j := 44) (v := -1) (Or.inl (by omega))
      refine s_halls (n := n) (hs := m) (R := rwS pp n s nf F ag C Bg E a' c') hn6 (by omega) n 0 0 0 49 none _ _ (by omega) (by omega) (by decide) (by decide) (fun r hr => ?_) ?_ ?_ (fun j hj => ?_) mset_s ?_
      · rw [rwF_PL hn6] at hr
        obtain ⟨p1, p2⟩ := PL_ok hn6 hr
        exact ⟨p1, p2, hn6⟩
      · rw [mset_k (by decide), mset_k (by decide)]; exact hS2.2.2.1.2.1
      · rw [mset_j (by decide), mset_s]
      · rw [mset_k (by decide), mset_k (by decide)]; exact hR j hj
      · rw [rwF_PL hn6]
        intro M3 hF3 ho
        have hF4 : Fp rs M0 M3 := hF2.tr (hF3.mono (fun k j z => by unfold hst at z; unfold rs; omega))
        obtain ⟨b, l, hl⟩ := lst_some (g := fun r => hof n m (rwS pp n s nf F ag C Bg E a' c') r 5) (L := PL n) (by rw [PL_len hn6]; have := fac_le n hn6; omega)
        have hl2 : (PL n).foldl (lstp (fun r => hof n m (rwS pp n s nf F ag C Bg E a' c') r 5)) none = some (b, l) := hl
        rw [hl2] at ho
        have ho : M3 59 43 = (b : Int) ∧ M3 59 44 = (l : Int) := ho
        rw [ho.1, ho.2]
        refine ⟨fun z => yes _ M3 hF4 (Or.inl ⟨by omega, b, l, hl, by rw [if_pos (by omega)]⟩), fun z => yes _ M3 hF4 (Or.inl ⟨by omega, b, l, hl, by rw [if_neg (by omega)]⟩)⟩
    · apply s_clash_r (R := rwS pp n s nf F ag C Bg E a' c') (by omega) (fun j hj => (hR j hj).1)
      · intro hN; exact yes _ M2 hF (Or.inr ⟨by omega, Or.inl ⟨hN, rfl⟩⟩)
      · intro i j hP
        exact yes _ M2 hF (Or.inr ⟨by omega, Or.inr ⟨i, j, hP, by rw [if_pos rfl, if_neg q7]⟩⟩)
    · apply s_clash_r (R := rwS pp n s nf F ag C Bg E a' c') (by omega) (fun j hj => (hR j hj).1)
      · intro hN; exact yes _ M2 hF (Or.inr ⟨by omega, Or.inl ⟨hN, rfl⟩⟩)
      · intro i j hP
        exact yes _ M2 hF (Or.inr ⟨by omega, Or.inr ⟨i, j, hP, by rw [if_neg (by decide), if_pos q7]⟩⟩)
  · rintro i M2 hi ⟨hF, hmt2, hR0⟩ ih
    have hS2 := hS0.rs hF
    apply r_11_hall_74
    rw [hS2.1, w_1 (by omega), hS2.2.1]
    refine ⟨fun z => by omega, fun _ => ⟨fun z => ?_, fun z => ?_⟩⟩
    · refine ih M2 ⟨hF, hmt2, fun j hj hb2 => ?_⟩
      by_cases e : j = i
      · subst e; rw [bit_q1 (by omega) (by omega) z] at hb2; cases hb2
      · exact hR0 j (by omega) hb2
    · apply s_right hS2.2.2.1 (by omega) (by omega) (by omega) (by have := hf.2.1; omega) hmt2
      intro M3 hF3
      have hag := hS2.2.2.2.1
      rw [nmv_ag (hag a' ha) (hag i hi) (hag c' hc), Int.toNat_natCast]
      refine ⟨by omega, ih _ ⟨(hF.tr (rrset_rs hF3)).set (Or.inr (Or.inl (by omega))), fun p q hp hq => ?_, fun j hj hb2 => ?_⟩⟩
      · rw [mset_k (by decide), hF3 74 _ (by unfold rrset aset gset; omega)]; exact hmt2 p q hp hq
      · by_cases e : j = i
        · subst e; exact mset_s
        · rw [mset_j e, hF3 81 j (by unfold rrset aset gset; omega)]; exact hR0 j (by omega) hb2
