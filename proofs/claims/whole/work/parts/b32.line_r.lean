/-! the reference: one line -/
theorem s_lineR (hWR : WordR) {t : Nat → Int} {n : Nat} {L : LnS} {M : Mem} {P : Mem → Prop} (hK : K0 M t n (L.1 0)) (hD : LRd M L) (hz : szL L) (hg : Fgood L.2.2.1 (L.1 2) (L.1 1))
    (hok : ∀ L', lnF t n L = .inl L' → ∀ M', Fp lnR M M' → K0 M' t n (L'.1 0) → LRd M' L' → P M') (hbad : ∀ f pl, lnF t n L = .inr (f, pl) → f ≠ 0 → ∀ M', Fp lnR M M' → RB M' f pl → P M') : CD m11_line 901 [(20, ((59 : Nat) : Int))] M P := by
  have hz0 := hz
  obtain ⟨z1, z2, z3, z7, z8, zl⟩ := hz0
  have hk := hK.2.1
  have strange : lnF t n L = .inr (1, tkP t n (L.1 0)) → A m11_line 901 0 15 [(20, ((59 : Nat) : Int)), (2, 0), (2, 0), (2, 0)] [] M (Kd P) := fun e => by
    apply r_11_line_15
    exact s_wrongW (f := 1) hK (fun M' hF hB => hbad 1 _ e (by decide) M' (hF.mono (fun k j q => wr_lnR q)) hB)
  have full : ∀ x : Int, lnF t n L = .inr (2, tkP t n (L.1 0)) → A m11_line 901 0 83 [(20, ((59 : Nat) : Int)), (0, x), (2, 0), (2, 0)] [] M (Kd P) := fun x e => by
    apply r_11_line_83
    exact s_wrongW (f := 2) hK (fun M' hF hB => f_118 (hB.ne (by decide)) (hbad 2 _ e (by decide) M' (hF.mono (fun k j q => wr_lnR q)) hB))
  have twice : ∀ x : Int, lnF t n L = .inr (3, tkP t n (L.1 0)) → CD m11_wrong 2 [(20, ((59 : Nat) : Int)), (0, 3)] M (fun M5 => A m11_line 901 0 118 [(20, ((59 : Nat) : Int)), (0, x), (2, 0), (2, 0)] [] M5 (Kd P)) := fun x e => by
    exact s_wrongW (f := 3) hK (fun M' hF hB => f_118 (hB.ne (by decide)) (hbad 3 _ e (by decide) M' (hF.mono (fun k j q => wr_lnR q)) hB))
  have hDx := hD.1
  obtain ⟨_, _, d61, d62, d63, _⟩ := hDx
  obtain ⟨tb, t1, t2, t3, t4⟩ := hD.2
  apply q_11_line
  refine ⟨fun q => ?_, fun q => ?_⟩
  · have hs0 : ¬ tkS t n (L.1 0) = 0 := fun z => q (by rw [hk.2.2.1, z]; rfl)
    exact strange (if_neg hs0)
  · have s0 : tkS t n (L.1 0) = 0 := by have := hk.2.2.1; omega
    have h22 := hk.2.2.2.1 (Or.inl s0)
    have hv := tkV_0 s0
    have eq : lnF t n L = (if tkV t n (L.1 0) = 0 then perF t n L else if tkV t n (L.1 0) = 1 then facF t n L 0 else if tkV t n (L.1 0) = 2 then facF t n L 1 else if tkV t n (L.1 0) = 3 then parF t n L else if tkV t n (L.1 0) = 4 then seaF t n L else if tkV t n (L.1 0) = 5 then risF t n L else .inr (1, tkP t n (L.1 0))) := if_pos s0
    rw [h22]
    generalize tkV t n (L.1 0) = v at eq hv
    refine ⟨fun q5 => ⟨fun q1 => ?_, fun q1 => ⟨fun q2 => ⟨fun q0 => ?_, fun q0 => ?_⟩, fun q2 => ?_⟩⟩, fun q5 => ?_⟩
    · -- 1: a fact
      subst q1
      rw [if_neg (by decide), if_pos rfl] at eq
      apply r_11_line_36
      refine ⟨fun _ => ?_, fun z => (by cases z)⟩
      apply r_11_line_55
      refine ⟨fun _ => ?_, fun z => (by cases z)⟩
      apply r_11_line_69
      refine ⟨fun z => (by cases z), fun _ => ?_⟩
      apply s_fresherW (w := 1) (by omega) d62
      refine ⟨fun z => ?_, fun z => full 1 (eq.trans (by unfold facF; rw [if_pos (by omega)]))⟩
      apply r_11_line_91
      refine ⟨fun z => (by cases z), fun _ => ⟨fun _ => ?_, fun z => (by cases z)⟩⟩
      exact s_facR hWR (w := 1) (Or.inl rfl) hK hD hz (by omega) hg (fun L' e => hok L' (eq.trans e)) (fun f pl e => hbad f pl (eq.trans e))
    · -- 3 4 5
      apply r_11_line_55
      refine ⟨fun q3 => ?_, fun q3 => ?_⟩
      · apply r_11_line_69
        refine ⟨fun _ => ?_, fun z => absurd rfl z⟩
        apply r_11_line_91
        rcases (show v = 4 ∨ v = 5 by omega) with y | y
        · subst y
          rw [if_neg (by decide), if_neg (by decide), if_neg (by decide), if_neg (by decide), if_pos rfl] at eq
          refine ⟨fun _ => ?_, fun z => absurd rfl z⟩
          apply r_11_line_101
          rw [t1, show ((4 : Int)) = ((4 : Nat) : Int) from rfl, bit_24 (Nat.lt_trans t2 (by decide)) (by decide), t3]
          by_cases z : L.1 4 = 0
          · rw [decide_eq_false (fun y => y z)]
            exact ⟨fun _ => s_seaR hWR hK hD hz z (fun L' e => hok L' (eq.trans e)) (fun f pl e => hbad f pl (eq.trans e)), fun y => (by cases y)⟩
          · rw [decide_eq_true z]
            exact ⟨fun y => absurd rfl y, fun _ => twice _ (eq.trans (by unfold seaF; rw [if_pos z]))⟩
        · subst y
          rw [if_neg (by decide), if_neg (by decide), if_neg (by decide), if_neg (by decide), if_neg (by decide), if_pos rfl] at eq
          refine ⟨fun z => (by cases z), fun _ => ⟨fun z => absurd rfl z, fun _ => ?_⟩⟩
          apply r_11_line_101
          rw [t1, show ((5 : Int)) = ((5 : Nat) : Int) from rfl, bit_24 (Nat.lt_trans t2 (by decide)) (by decide), t4]
          by_cases z : L.1 6 = 0
          · rw [decide_eq_false (fun y => y z)]
            exact ⟨fun _ => s_risR hWR hK hD hz z (fun L' e => hok L' (eq.trans e)) (fun f pl e => hbad f pl (eq.trans e)), fun y => (by cases y)⟩
          · rw [decide_eq_true z]
            exact ⟨fun y => absurd rfl y, fun _ => twice _ (eq.trans (by unfold risF; rw [if_pos z]))⟩
      · subst q3
        rw [if_neg (by decide), if_neg (by decide), if_neg (by decide), if_pos rfl] at eq
        apply s_fresherW (w := 2) (by omega) d63
        refine ⟨fun z => full 3 (eq.trans (by unfold parF; rw [if_pos (by omega)])), fun z => ?_⟩
        apply r_11_line_69
        refine ⟨fun _ => ?_, fun z => absurd rfl z⟩
        apply r_11_line_91
        refine ⟨fun z => (by cases z), fun _ => ⟨fun _ => ?_, fun z => (by cases z)⟩⟩
        exact s_parR hWR hK hD hz (by omega) (fun L' e => hok L' (eq.trans e)) (fun f pl e => hbad f pl (eq.trans e))
    · -- 0: a person
      subst q0
      rw [if_pos rfl] at eq
      apply s_fresherW (w := 0) (by omega) d61
      refine ⟨fun z => full 0 (eq.trans (by unfold perF; rw [if_pos (by omega)])), fun z => ?_⟩
      apply r_11_line_55
      refine ⟨fun _ => ?_, fun z => (by cases z)⟩
      apply r_11_line_69
      refine ⟨fun _ => ?_, fun z => absurd rfl z⟩
      apply r_11_line_91
      refine ⟨fun z => (by cases z), fun _ => ⟨fun _ => ?_, fun z => (by cases z)⟩⟩
      exact s_perR hWR hK hD hz (by omega) (fun L' e => hok L' (eq.trans e)) (fun f pl e => hbad f pl (eq.trans e))
    · -- 2: a fact
      subst q2
      rw [if_neg (by decide), if_neg (by decide), if_pos rfl] at eq
      apply r_11_line_36
      refine ⟨fun _ => ?_, fun z => (by cases z)⟩
      apply r_11_line_55
      refine ⟨fun _ => ?_, fun z => (by cases z)⟩
      apply r_11_line_69
      refine ⟨fun z => (by cases z), fun _ => ?_⟩
      apply s_fresherW (w := 1) (by omega) d62
      refine ⟨fun z => ?_, fun z => full 2 (eq.trans (by unfold facF; rw [if_pos (by omega)]))⟩
      apply r_11_line_91
      refine ⟨fun z => (by cases z), fun _ => ⟨fun _ => ?_, fun z => (by cases z)⟩⟩
      exact s_facR hWR (w := 2) (Or.inr rfl) hK hD hz (by omega) hg (fun L' e => hok L' (eq.trans e)) (fun f pl e => hbad f pl (eq.trans e))
    · refine strange ?_
      rw [if_neg (by omega), if_neg (by omega), if_neg (by omega), if_neg (by omega), if_neg (by omega), if_neg (by omega)] at eq
      exact eq
