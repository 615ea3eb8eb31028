/-! the class's Reader: one line -/
theorem s_readLine {t : Nat → Int} {n : Nat} {L : LnS} {M : Mem} {P : Mem → Prop} (hT : TCm M t n) (hc : L.1 0 ≤ n) (hK : KC M t n (L.1 0)) (h3 : M 2 3 = 0) (hD : LD M L) (w1 : L.1 1 ≤ 5) (w2 : L.1 2 ≤ 16) (w3 : L.1 3 ≤ 5) (w7 : L.1 7 ≤ 64) (w8 : L.1 8 < 2000) (hlen : L.2.2.2.length = L.1 7) (hg : Fgood L.2.2.1 (L.1 2) (L.1 1))
    (hok : ∀ L', lnF t n L = .inl L' → ∀ M', Fp lnC M M' → KC M' t n (L'.1 0) → M' 2 3 = 0 → LD M' L' → P M') (hbad : ∀ f pl, lnF t n L = .inr (f, pl) → f ≠ 0 → ∀ M', Fp lnC M M' → M' 2 3 = (f : Int) → M' 2 4 = (pl : Int) → P M') : CD m7_readLine 6 [(17, ((2 : Nat) : Int))] M P := by
  have hb := hT.2.2.2.1
  obtain ⟨kw1, kw2, kw3, kw4⟩ := KC_w hK
  -- the end of a line that is told
  have fin : ∀ L1 c1, lnF t n L = endF t n L1 c1 → c1 ≤ n → L1.1 8 = L.1 8 → ∀ M', Fp lnC M M' → KC M' t n c1 → M' 2 3 = 0 → LD M' L1 → CD m7_endLine 4 [(17, ((2 : Nat) : Int))] M' P := by
    intro L1 c1 e hc1 e8 M' hF hK' h3' hD'
    apply s_endLine (lnC_T hT hF) hc1 hK' h3' hD' (by omega)
    · intro L' e2 M2 hF2 hK2 h32 hD2
      exact hok L' (e.trans e2) M2 (hF.tr hF2) hK2 h32 hD2
    · intro f pl e2 hf M2 hF2 k3 k4
      exact hbad f pl (e.trans e2) hf M2 (hF.tr hF2) k3 k4
  have strange : lnF t n L = .inr (1, tkP t n (L.1 0)) → CI m7_fail 1 [(17, ((2 : Nat) : Int)), (0, 1)] M (fun _ M79 => P M79) := fun e =>
    s_failC (k := 1) hK (fun M' hF k3 k4 => hbad 1 _ e (by decide) M' (hF.mono (fun k j q => fl_ln q)) k3 k4)
  have formula : ∀ (f : Nat) (L1 : LnS) (c1 : Nat) (M' : Mem), lnF t n L = forF t n L1 f c1 → f < 6 → c1 ≤ n → L1.1 8 = L.1 8 → L1.1 7 = L.1 7 → L1.2.2.2 = L.2.2.2 → Fp lnC M M' → KC M' t n c1 → M' 2 3 = 0 → LDw M' L1 f → CI m7_readFormula 5 [(17, ((2 : Nat) : Int)), (0, (f : Int))] M' (fun r42 M43 => ((r42 = 0 → (P M43)) ∧ (r42 ≠ 0 → (CD m7_endLine 4 [(17, ((2 : Nat) : Int))] M43 (fun M49 => (P M49)))))) := by
    intro f L1 c1 M' e hf hc1 e8 e7 eo hF hK' h3' hD'
    apply s_forC (lnC_T hT hF) hc1 hK' h3' hD' hf (by omega) (by rw [eo, e7]; exact hlen)
    · intro L2 c2 e2 hc2 e28 M2 hF2 hK2 h32 hD2
      exact ⟨fun z => (by cases z), fun _ => fin L2 c2 (e.trans e2) hc2 (by omega) M2 (hF.tr hF2) hK2 h32 hD2⟩
    · intro f' pl e2 hf' M2 hF2 k3 k4
      exact ⟨fun _ => hbad f' pl (e.trans e2) hf' M2 (hF.tr hF2) k3 k4, fun z => absurd rfl z⟩
  apply q_7_readLine
  refine ⟨fun q => ?_, fun q => ?_⟩
  · have hs0 : ¬ tkS t n (L.1 0) = 0 := fun z => q (kw1.mpr (Or.inl z))
    refine ⟨fun z => absurd z (by decide), fun z => absurd z (by decide), fun z => absurd z (by decide), fun z => absurd z (by decide), fun z => absurd z (by decide), fun z => absurd z (by decide), fun _ => strange (if_neg hs0)⟩
  · rw [kw4 (kw1.mp q)]
    apply s_languageWord hT
    rcases kw1.mp q with s0 | s1
    · have ev := kw3 s0
      rw [ev]
      have eq : lnF t n L = (if tkV t n (L.1 0) = 0 then perF t n L else if tkV t n (L.1 0) = 1 then facF t n L 0 else if tkV t n (L.1 0) = 2 then facF t n L 1 else if tkV t n (L.1 0) = 3 then parF t n L else if tkV t n (L.1 0) = 4 then seaF t n L else if tkV t n (L.1 0) = 5 then risF t n L else .inr (1, tkP t n (L.1 0))) := if_pos s0
      refine ⟨fun z => ?_, fun z => ?_, fun z => ?_, fun z => ?_, fun z => ?_, fun z => ?_, fun z => ?_⟩
      · rw [if_pos z] at eq
        apply s_readPerson hT hc hK h3 hD w1
        · intro L1 c1 e hc1 e8 M' hF hK' h3' hD'
          exact ⟨fun y => (by cases y), fun _ => fin L1 c1 (eq.trans e) hc1 e8 M' hF hK' h3' hD'⟩
        · intro f pl e hf M' hF k3 k4
          exact ⟨fun _ => hbad f pl (eq.trans e) hf M' hF k3 k4, fun y => absurd rfl y⟩
      · rw [if_neg (by omega), if_pos z] at eq
        apply s_readFact hT hc hK h3 hD w1 w2 hg
        · intro L1 c1 e hc1 e8 M' hF hK' h3' hD'
          exact ⟨fun y => (by cases y), fun _ => fin L1 c1 (eq.trans e) hc1 e8 M' hF hK' h3' hD'⟩
        · intro f pl e hf M' hF k3 k4
          exact ⟨fun _ => hbad f pl (eq.trans e) hf M' hF k3 k4, fun y => absurd rfl y⟩
      · rw [if_neg (by omega), if_neg (by omega), if_pos z] at eq
        apply s_readFact hT hc hK h3 hD w1 w2 hg
        · intro L1 c1 e hc1 e8 M' hF hK' h3' hD'
          exact ⟨fun y => (by cases y), fun _ => fin L1 c1 (eq.trans e) hc1 e8 M' hF hK' h3' hD'⟩
        · intro f pl e hf M' hF k3 k4
          exact ⟨fun _ => hbad f pl (eq.trans e) hf M' hF k3 k4, fun y => absurd rfl y⟩
      · rw [if_neg (by omega), if_neg (by omega), if_neg (by omega), if_pos z] at eq
        apply s_readPartName hT hc hK h3 hD w3
        · intro L1 c1 e h35 hc1 e8 e7 eo e3 M' hF hK' h3' hD'
          refine ⟨fun y => (by cases y), fun _ => ?_⟩
          have ef : w32 (M' 5 4 - 1) = ((L.1 3 : Nat) : Int) := by
            rw [hD'.2.2.1, e3, w32_id (by omega) (by omega)]; omega
          rw [ef]
          exact formula (L.1 3) L1 c1 M' (eq.trans e) (by omega) hc1 e8 e7 eo hF hK' h3' hD'
        · intro f pl e hf M' hF k3 k4
          exact ⟨fun _ => hbad f pl (eq.trans e) hf M' hF k3 k4, fun y => absurd rfl y⟩
      · rw [if_neg (by omega), if_neg (by omega), if_neg (by omega), if_neg (by omega), if_pos z] at eq
        apply s_readSeason hT hc hK h3 hD
        · intro L1 c1 e hc1 e8 M' hF hK' h3' hD'
          exact ⟨fun y => (by cases y), fun _ => fin L1 c1 (eq.trans e) hc1 e8 M' hF hK' h3' hD'⟩
        · intro f pl e hf M' hF k3 k4
          exact ⟨fun _ => hbad f pl (eq.trans e) hf M' hF k3 k4, fun y => absurd rfl y⟩
      · rw [if_neg (by omega), if_neg (by omega), if_neg (by omega), if_neg (by omega), if_neg (by omega), if_pos z] at eq
        apply s_readRiseWord hT hc hK h3 hD
        · intro L1 c1 e hc1 e8 e7 eo M' hF hK' h3' hD'
          refine ⟨fun y => (by cases y), fun _ => ?_⟩
          exact formula 5 L1 c1 M' (eq.trans e) (by omega) hc1 e8 e7 eo hF hK' h3' hD'
        · intro f pl e hf M' hF k3 k4
          exact ⟨fun _ => hbad f pl (eq.trans e) hf M' hF k3 k4, fun y => absurd rfl y⟩
      · rw [if_neg (by omega), if_neg (by omega), if_neg (by omega), if_neg (by omega), if_neg (by omega), if_neg (by omega)] at eq
        exact strange eq
    · have ev := (kw2 s1).2
      rw [ev]
      refine ⟨fun z => absurd z (by decide), fun z => absurd z (by decide), fun z => absurd z (by decide), fun z => absurd z (by decide), fun z => absurd z (by decide), fun z => absurd z (by decide), fun _ => strange (if_neg (by omega))⟩
