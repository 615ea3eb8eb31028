/-! RISE in the reference: the search -/
theorem RTR.fpr {M M' : Mem} {rt : Bool} {C : Nat → Int} {Bg E : Nat → Nat} (h : RTR M rt C Bg E) (hF : Fp rs M M') : RTR M' rt C Bg E := by
  unfold RTR
  rw [hF.row (k := 65) (fun j => by unfold rs; omega), hF.row (k := 66) (fun j => by unfold rs; omega), hF.row (k := 67) (fun j => by unfold rs; omega), hF.row (k := 68) (fun j => by unfold rs; omega)]
  exact h
theorem RTR.th {M : Mem} {v : Int} {rt : Bool} {C : Nat → Int} {Bg E : Nat → Nat} (h : RTR M rt C Bg E) : RTR (mset M 59 0 v) rt C Bg E := by
  unfold RTR
  rw [mset_k (show (65 : Nat) ≠ 59 by decide), mset_k (show (66 : Nat) ≠ 59 by decide)]
  refine ⟨h.1, fun q => ?_⟩
  obtain ⟨h1, h2, h3, h4⟩ := h.2 q
  exact ⟨h1, h2, h3, fun i a b => by rw [mset_k (show (67 : Nat) ≠ 59 by decide), mset_k (show (68 : Nat) ≠ 59 by decide)]; exact h4 i a b⟩
theorem SEm.fp {M M' : Mem} {O : Nat → Nat → Nat → Bool} {t : Nat → Nat → Prop} (h : SEm M O) (hF : Fp t M M') (ht : ∀ j, ¬ t 88 j) : SEm M' O := by
  unfold SEm
  rw [hF.row ht]
  exact h
theorem PLm.fp {M M' : Mem} {pl : Nat → Nat} {t : Nat → Nat → Prop} (h : PLm M pl) (hF : Fp t M M') (ht : ∀ j, ¬ t 92 j) : PLm M' pl := by
  unfold PLm
  rw [hF.row ht]
  exact h
theorem by_in {M : Mem} {X : Xs} {r : Nat} (hR : RR M X) (hr : r < 12500) : (inX X.2.1 X.1 r = true → M 90 r ≠ -2) ∧ (¬ inX X.2.1 X.1 r = true → M 90 r = -2) := by
  constructor
  · intro h
    obtain ⟨i, hi, rfl⟩ := (inX_iff _).mp h
    rw [(hR.1 i hi).2.1]
    split <;> omega
  · intro h
    refine hR.2 r hr ?_
    cases z : inX X.2.1 X.1 r with
    | false => rfl
    | true => exact absurd z h
theorem RR_ad {M : Mem} {X : Xs} {r o h : Nat} (hR : RR M X) (hX : okX X) (hno : ¬ inX X.2.1 X.1 r = true) (ho : o < X.1) : RR (mset (mset (mset M 90 r (h : Int)) 89 r (X.2.1 o : Int)) 91 X.1 (r : Int)) (adX X r o h) := by
  rw [adX_new hno]
  have hne : ∀ i, i < X.1 → X.2.1 i ≠ r := fun i hi e => hno ((inX_iff _).mpr ⟨i, hi, e⟩)
  have h1 : 1 ≤ X.1 := hX.1
  refine ⟨fun i hi => ?_, fun u hu hn => ?_⟩
  · have hi : i < X.1 + 1 := hi
    show _ = ((udg X.2.1 X.1 r i : Nat) : Int) ∧ mset (mset (mset M 90 r (h : Int)) 89 r (X.2.1 o : Int)) 91 X.1 (r : Int) 90 (udg X.2.1 X.1 r i) = (if i = 0 then -1 else (udg X.2.2.2 X.1 h i : Int)) ∧ (0 < i → mset (mset (mset M 90 r (h : Int)) 89 r (X.2.1 o : Int)) 91 X.1 (r : Int) 89 (udg X.2.1 X.1 r i) = ((udg X.2.1 X.1 r (udg X.2.2.1 X.1 o i) : Nat) : Int))
    by_cases z : i = X.1
    · subst z
      rw [udg_s, udg_s, udg_s, udg_o (show o ≠ X.1 by omega), if_neg (by omega)]
      simp [mset]
    · have hlt : i < X.1 := by omega
      obtain ⟨g1, g2, g3⟩ := hR.1 i hlt
      have hn := hne i hlt
      rw [udg_o z, udg_o z, udg_o z]
      refine ⟨?_, ?_, fun h0 => ?_⟩
      · rw [mset_j z, mset_k (by decide), mset_k (by decide)]; exact g1
      · rw [mset_k (by decide), mset_k (by decide), mset_j hn]; exact g2
      · have ho2 := (hX.2.2.2 i h0 hlt).1
        rw [mset_k (by decide), mset_j hn, mset_k (by decide), udg_o (by omega)]
        exact g3 h0
  · have hn : (inX (udg X.2.1 X.1 r) X.1 u || decide (udg X.2.1 X.1 r X.1 = u)) = false := hn
    rw [Bool.or_eq_false_iff, udg_s, inX_congr (k' := X.2.1) X.1 (fun i hi => udg_o (by omega))] at hn
    have hur : u ≠ r := fun e => by rw [e] at hn; have := hn.2; simp at this
    rw [mset_k (by decide), mset_k (by decide), mset_j hur]
    exact hR.2 u hu hn.1
theorem s_rise_r {pp n nf : Nat} {s : Int} {F : FTab} {ag C : Nat → Int} {Bg E : Nat → Nat} {rt : Bool} {M : Mem} {P : Int → Mem → Prop} {a b k : Int} (hS : SR M pp n s nf F ag C Bg E) (hf : SF pp s nf F) (hRt : RTR M rt C Bg E)
    (h : ∀ M', Fp rs (mset M 59 0 0) M' → P (riseV pp n s nf F ag C Bg E rt a b k) M') : CI m11_rise 5 [(20, ((59 : Nat) : Int)), (0, a), (0, b), (0, k)] M P := by
  have hp := hf.1
  have hS0 := hS.th (v := 0)
  have hR0 := hRt.th (v := 0)
  unfold riseV at h
  apply q_11_rise
  generalize mset M 59 0 0 = M0 at hS0 hR0 h ⊢
  apply s_areTwo_r hS0.1
  refine ⟨fun q => ?_, fun q => ⟨fun q1 => ?_, fun q1 => ?_⟩⟩
  · have := h M0 Fp.rf
    rwa [if_neg (fun z => bi_eq q z.1)] at this
  · rw [if_pos ⟨bi_ne q, q1⟩] at h
    obtain ⟨a', b', rfl, rfl, ha, hb, hab⟩ := two_nat (bi_ne q)
    simp only [Int.toNat_natCast] at h
    have hs := hf.2.1
    have hk1 := q1
    have hw : s.toNat < 4 := by omega
    generalize hm : mayR rt (ordO pp nf F) ag pp C Bg E a' = may at h
    generalize hres : bfs may (fun r => ovR (ordO pp nf F) r a' b') pp a' 480 0 (X0 s.toNat) = res at h
    -- the search itself
    have walk : ∀ i X M1, i ≤ 480 → (Fp rs M0 M1 ∧ SEm M1 (ordO pp nf F) ∧ RR M1 X ∧ okX X ∧ bfs may (fun r => ovR (ordO pp nf F) r a' b') pp a' (480 - i) i X = res) → A m11_rise 5 0 160 [(20, ((59 : Nat) : Int)), (0, (a' : Int)), (0, (b' : Int)), (0, k), (0, (X.1 : Int)), (0, (i : Int)), (2, 0), (2, 0), (2, 0), (2, 0)] [] M1 (Ki P) := by
      refine loop_upS (σ := Xs) (Inv := fun i X M1 => Fp rs M0 M1 ∧ SEm M1 (ordO pp nf F) ∧ RR M1 X ∧ okX X ∧ bfs may (fun r => ovR (ordO pp nf F) r a' b') pp a' (480 - i) i X = res) (G := fun i X M1 => A m11_rise 5 0 160 [(20, ((59 : Nat) : Int)), (0, (a' : Int)), (0, (b' : Int)), (0, k), (0, (X.1 : Int)), (0, (i : Int)), (2, 0), (2, 0), (2, 0), (2, 0)] [] M1 (Ki P)) 480 ?_ ?_
      · rintro X M1 ⟨hF1, hO1, hR1, hX, e⟩
        have hle := okX_le hX
        rw [Nat.sub_self] at e
        have e : none = res := e
        apply r_11_rise_160
        refine ⟨fun _ => ?_, fun q => by omega⟩
        have h' := h M1 hF1
        rw [← e] at h'
        exact h'
      · rintro i X M1 hi ⟨hF1, hO1, hR1, hX, e⟩ ih
        have hle := okX_le hX
        rw [show 480 - i = (480 - (i + 1)) + 1 by omega] at e
        unfold bfs at e
        apply r_11_rise_160
        refine ⟨fun q => ?_, fun q => ?_⟩
        · rw [if_pos (by omega)] at e
          have h' := h M1 hF1
          rw [← e] at h'
          exact h'
        · have hiX : i < X.1 := by omega
          rw [if_neg (by omega)] at e
          have hvi := hX.2.1 i hiX
          rw [Int.toNat_natCast, (hR1.1 i hiX).1]
          have ew : w32 (Int.tmod (X.2.1 i : Int) 4) = (wR (X.2.1 i) : Int) := by
            show w32 ((X.2.1 i % 4 : Nat) : Int) = ((X.2.1 i % 4 : Nat) : Int)
            rw [w32_id (by omega) (by omega)]
          rw [ew]
          refine ⟨by omega, ?_⟩
          apply s_takes hvi.1
          intro M2 hF2 hP2
          have hF2' : Fp rs M0 M2 := hF1.tr (hF2.mono (fun k j q => by unfold n92 at q; unfold rs; omega))
          have hO2 := hO1.fp hF2 (fun j => by unfold n92; omega)
          have hR2 := hR1.fp hF2 (fun k j q => by unfold n92 at q; omega)
          apply s_isOverR hP2 hO2 (by omega) (by omega)
          refine ⟨fun q1 => ?_, fun q1 => ?_⟩
          · rw [if_neg (bi_eq q1)] at e
            refine loop_up (Inv := fun y M3 => Fp rs M0 M3 ∧ SEm M3 (ordO pp nf F) ∧ PLm M3 (plR (X.2.1 i)) ∧ RR M3 (spX may a' i X y)) (G := fun y M3 => A m11_rise 5 0 210 [(20, ((59 : Nat) : Int)), (0, (a' : Int)), (0, (b' : Int)), (0, k), (0, ((spX may a' i X y).1 : Int)), (0, (i : Int)), (0, (X.2.1 i : Int)), (0, (wR (X.2.1 i) : Int)), (0, (y : Int)), (2, 0)] [] M3 (Ki P)) pp ?_ ?_ 0 M2 (by omega) ⟨hF2', hO2, hP2, hR2⟩
            · rintro M3 ⟨hF3, hO3, hP3, hR3⟩
              have hS3 := hS0.rs hF3
              apply r_11_rise_210
              rw [hS3.1, w_1 (i := i) (by omega)]
              exact ⟨fun _ => ih _ M3 ⟨hF3, hO3, hR3, (okX_sp hX (by omega) hiX pp hp).1, e⟩, fun q => by omega⟩
            · rintro y M3 hy ⟨hF3, hO3, hP3, hR3⟩ ihy
              have hS3 := hS0.rs hF3
              have hR3' := hR0.fpr hF3
              obtain ⟨g1, g2, g3⟩ := okX_sp (may := may) hX (show a' < 5 by omega) hiX y (by omega)
              have gle := okX_le g1
              rw [spX_step, g3] at ihy
              apply r_11_rise_210
              rw [hS3.1, w_1 (i := y) (by omega)]
              refine ⟨fun q => by omega, fun _ => ⟨fun q2 => ?_, fun q2 => ?_⟩⟩
              · rw [if_neg (by unfold may0; rw [decide_eq_false (by omega)]; simp)] at ihy
                exact ihy M3 ⟨hF3, hO3, hP3, hR3⟩
              · have hne : y ≠ a' := by omega
                apply s_mayRise hS3 hp hR3' hP3 hO3 ha hy
                intro M4 hF4
                rw [hm]
                have hF4' : Fp rs M0 M4 := hF3.tr (hF4.mono (fun k j q => by unfold mrset gset at q; unfold rs; omega))
                have hO4 := hO3.fp hF4 (fun j => by unfold mrset gset; omega)
                have hP4 := hP3.fp hF4 (fun j => by unfold mrset gset; omega)
                have hR4 := hR3.fp hF4 (fun k j q => by unfold mrset gset at q; omega)
                refine ⟨fun q3 => ?_, fun q3 => ?_⟩
                · rw [if_pos (by unfold may0; rw [decide_eq_true hne, bi_ne q3]; rfl)] at ihy
                  apply s_changes hP4 (by omega) (by omega) hne
                  intro M5 hF5 hP5
                  have hw1 := wR_lt (X.2.1 i)
                  have ew2 : w32 (Int.tmod (w32 ((wR (X.2.1 i) : Int) + 1)) 4) = (((wR (X.2.1 i) + 1) % 4 : Nat) : Int) := by
                    rw [w_1 (i := wR (X.2.1 i)) (by omega)]
                    show w32 (((wR (X.2.1 i) + 1) % 4 : Nat) : Int) = _
                    rw [w32_id (by omega) (by omega)]
                  rw [ew2]
                  apply s_state hP5 (fun p _ => swp_lt (plR_lt _)) (Nat.mod_lt _ (by decide))
                  apply s_changes hP5 (by omega) (by omega) hne
                  intro M6 hF6 hP6
                  rw [swp2 _ hne] at hP6
                  have hF65 : Fp n92 M4 M6 := hF5.tr hF6
                  have hF6' : Fp rs M0 M6 := hF4'.tr (hF65.mono (fun k j q => by unfold n92 at q; unfold rs; omega))
                  have hO6 := hO4.fp hF65 (fun j => by unfold n92; omega)
                  have hR6 := hR4.fp hF65 (fun k j q => by unfold n92 at q; omega)
                  have hv : vR (chg (X.2.1 i) a' y) := vR_chg hvi (by omega) (by omega)
                  obtain ⟨b1, b2⟩ := by_in hR6 hv.1
                  have ec : kR (swp (plR (X.2.1 i)) a' y) ((wR (X.2.1 i) + 1) % 4) = chg (X.2.1 i) a' y := rfl
                  rw [ec, Int.toNat_natCast, Int.toNat_natCast]
                  have hvl := hv.1
                  have hadok := okX_ad (o := i) (h := y) g1 hv (by omega) (by omega)
                  have hadle := okX_le hadok
                  by_cases hin : inX (spX may a' i X y).2.1 (spX may a' i X y).1 (chg (X.2.1 i) a' y) = true
                  · refine ⟨by omega, fun q4 => absurd q4 (b1 hin), fun _ => ?_⟩
                    rw [adX_in hin] at ihy
                    exact ihy M6 ⟨hF6', hO6, hP6, hR6⟩
                  · have hRn := RR_ad (o := i) (h := y) hR6 g1 hin (by omega)
                    rw [adX_new hin] at hadle
                    have hadle : (spX may a' i X y).1 + 1 ≤ 480 := hadle
                    refine ⟨by omega, fun _ => ⟨by omega, by omega, by omega, ?_⟩, fun q4 => absurd (b2 hin) q4⟩
                    rw [w_1 (i := (spX may a' i X y).1) (by omega)]
                    rw [g3] at hRn
                    have em : (adX (spX may a' i X y) (chg (X.2.1 i) a' y) i y).1 = (spX may a' i X y).1 + 1 := by rw [adX_new hin]
                    rw [em] at ihy
                    refine ihy _ ⟨((hF6'.set (by unfold rs; omega)).set (by unfold rs; omega)).set (by unfold rs; omega), ?_, ?_, hRn⟩
                    · exact hO6.fp (t := fun k _ => 89 ≤ k ∧ k ≤ 91) (((Fp.rf.set (by omega)).set (by omega)).set (by omega)) (fun j => by omega)
                    · exact hP6.fp (t := fun k _ => 89 ≤ k ∧ k ≤ 91) (((Fp.rf.set (by omega)).set (by omega)).set (by omega)) (fun j => by omega)
                · rw [if_neg (by
                    unfold may0
                    rw [decide_eq_true hne, Bool.true_and]
                    exact bi_eq q3)] at ihy
                  exact ihy M4 ⟨hF4', hO4, hP4, hR4⟩
          · rw [if_pos (bi_ne q1)] at e
            have h' := h M2 hF2'
            rw [← e] at h'
            exact s_path hX hR2 hiX hk1 h'
    -- each stands in its own place, the season is now
    have s107 : ∀ M1, Fp rs M0 M1 → SEm M1 (ordO pp nf F) → (∀ j, j < 12500 → M1 90 j = -2) → A m11_rise 5 0 107 [(20, ((59 : Nat) : Int)), (0, (a' : Int)), (0, (b' : Int)), (0, k), (0, 0), (2, 0), (2, 0), (2, 0), (2, 0), (2, 0)] [] M1 (Ki P) := by
      intro M1 hF1 hO1 h90
      refine loop_up (Inv := fun p M2 => Fp n92 M1 M2 ∧ ∀ q, q < p → M2 92 q = (q : Int)) (G := fun p M2 => A m11_rise 5 0 107 [(20, ((59 : Nat) : Int)), (0, (a' : Int)), (0, (b' : Int)), (0, k), (0, (p : Int)), (2, 0), (2, 0), (2, 0), (2, 0), (2, 0)] [] M2 (Ki P)) 5 ?_ ?_ 0 M1 (by omega) ⟨Fp.rf, fun q hq => by omega⟩
      · rintro M2 ⟨hF2, hall⟩
        have hF2' : Fp rs M0 M2 := hF1.tr (hF2.mono (fun k j q => by unfold n92 at q; unfold rs; omega))
        have hS2 := hS0.rs hF2'
        have es : M2 59 32 = ((s.toNat : Nat) : Int) := by rw [hS2.2.1]; omega
        have hv := vR_0 hw
        apply r_11_rise_107
        rw [es]
        refine ⟨fun _ => ?_, fun q => by omega⟩
        apply s_state (pl := fun p => p) (fun p hp => hall p hp) (fun p hp => hp) hw
        rw [mset_s]
        have hvl := hv.1
        unfold r0 at hvl
        refine ⟨by omega, ?_⟩
        rw [Int.toNat_natCast]
        have e0 : X0 s.toNat = (1, udg (fun _ => 0) 0 (r0 s.toNat), udg (fun _ => 0) 0 0, udg (fun _ => 0) 0 0) := rfl
        refine walk 0 (X0 s.toNat) _ (by omega) ⟨(hF2'.set (by unfold rs; omega)).set (by unfold rs; omega), ?_, ⟨fun i hi => ?_, fun r hr hn => ?_⟩, X0_ok hw, hres⟩
        · exact (hO1.fp hF2 (fun j => by unfold n92; omega)).fp (t := fun k _ => 89 ≤ k ∧ k ≤ 91) ((Fp.rf.set (by omega)).set (by omega)) (fun j => by omega)
        · rw [e0] at hi
          have hi : i < 1 := hi
          have : i = 0 := by omega
          subst this
          rw [e0]
          show _ = ((udg (fun _ => 0) 0 (r0 s.toNat) 0 : Nat) : Int) ∧ mset (mset M2 91 0 _) 90 _ (-1) 90 (udg (fun _ => 0) 0 (r0 s.toNat) 0) = _ ∧ _
          rw [udg_s]
          refine ⟨?_, ?_, fun q => by omega⟩
          · rw [mset_k (by decide), mset_s]; rfl
          · rw [if_pos rfl]
            unfold r0
            rw [mset_s]
        · rw [e0] at hn
          have hn : (false || decide (udg (fun _ => 0) 0 (r0 s.toNat) 0 = r)) = false := hn
          rw [udg_s, Bool.false_or, decide_eq_false_iff_not] at hn
          have hn : r ≠ kR (fun p => p) s.toNat := fun z => hn z.symm
          rw [mset_j hn, mset_k (by decide), hF2 90 r (by unfold n92; omega)]
          exact h90 r hr
      · rintro p M2 hp ⟨hF2, hall⟩ ih
        apply r_11_rise_107
        rw [w_1 (i := p) (by omega), Int.toNat_natCast]
        refine ⟨fun q => by omega, fun _ => ⟨by omega, ih _ ⟨hF2.set rfl, fun q hq => ?_⟩⟩⟩
        by_cases z : q = p
        · subst z; rw [mset_s]
        · rw [mset_j z]; exact hall q (by omega)
    have s81 : ∀ M1, Fp rs M0 M1 → SEm M1 (ordO pp nf F) → A m11_rise 5 0 81 [(20, ((59 : Nat) : Int)), (0, (a' : Int)), (0, (b' : Int)), (0, k), (0, 0), (2, 0), (2, 0), (2, 0), (2, 0), (2, 0)] [] M1 (Ki P) := by
      intro M1 hF1 hO1
      refine loop_up (Inv := fun p M2 => Fp (fun k _ => k = 90) M1 M2 ∧ ∀ q, q < p → M2 90 q = -2) (G := fun p M2 => A m11_rise 5 0 81 [(20, ((59 : Nat) : Int)), (0, (a' : Int)), (0, (b' : Int)), (0, k), (0, (p : Int)), (2, 0), (2, 0), (2, 0), (2, 0), (2, 0)] [] M2 (Ki P)) 12500 ?_ ?_ 0 M1 (by omega) ⟨Fp.rf, fun q hq => by omega⟩
      · rintro M2 ⟨hF2, hall⟩
        apply r_11_rise_81
        exact ⟨fun _ => s107 M2 (hF1.tr (hF2.mono (fun k j q => by unfold rs; omega))) (hO1.fp hF2 (fun j => by omega)) hall, fun q => by omega⟩
      · rintro p M2 hp ⟨hF2, hall⟩ ih
        apply r_11_rise_81
        rw [w_1 (i := p) (by omega), Int.toNat_natCast]
        refine ⟨fun q => by omega, fun _ => ⟨by omega, ih _ ⟨hF2.set rfl, fun q hq => ?_⟩⟩⟩
        by_cases z : q = p
        · subst z; rw [mset_s]
        · rw [mset_j z]; exact hall q (by omega)
    refine loop_up (Inv := fun w M1 => Fp rs M0 M1 ∧ ∀ x u v, x < w → u < 5 → v < 5 → M1 88 (25 * x + (5 * u + v)) = ((ordO pp nf F x u v).toNat : Int)) (G := fun w M1 => A m11_rise 5 0 24 [(20, ((59 : Nat) : Int)), (0, (a' : Int)), (0, (b' : Int)), (0, k), (0, (w : Int)), (2, 0), (2, 0), (2, 0), (2, 0), (2, 0)] [] M1 (Ki P)) 4 ?_ ?_ 0 M0 (by omega) ⟨Fp.rf, fun x u v hx => by omega⟩
    · rintro M1 ⟨hF1, hall⟩
      apply r_11_rise_24
      exact ⟨fun _ => s81 M1 hF1 (fun w u v hw hu hv => hall w u v hw hu hv), fun q => by omega⟩
    · rintro w M1 hw4 ⟨hF1, hall⟩ ih
      have hS1 := hS0.rs hF1
      apply r_11_rise_24
      refine ⟨fun q => by omega, fun _ => ?_⟩
      -- layNow leaves the table of the seasons alone
      have hsame := hS1.2.2.2.2.2
      apply q_11_layNow
      rw [hS1.1, hS1.2.2.2.2.1]
      apply s_layOrder (b := 0) (by have := hf.2.2.1; omega) hf.1 (hS1.fgood hf)
      rw [lvl_same hsame nf (Nat.le_refl nf), abv_same hsame]
      intro M2 hF2 hm2 _
      have hF2' : Fp rs M0 M2 := hF1.tr (hF2.p.mono (fun k j q => by unfold m45 at q; unfold rs; omega))
      have hall2 : ∀ x u v, x < w → u < 5 → v < 5 → M2 88 (25 * x + (5 * u + v)) = ((ordO pp nf F x u v).toNat : Int) := fun x u v hx hu hv => by
        rw [hF2 88 (by unfold m45; omega)]; exact hall x u v hx hu hv
      have hb01 : ∀ u v, ((abv F nf pp (w : Int) u v).toNat : Int) = 0 ∨ ((abv F nf pp (w : Int) u v).toNat : Int) = 1 := fun u v => by
        cases abv F nf pp (w : Int) u v <;> simp
      refine loop_up (Inv := fun j M3 => Fp (fun k i => k = 88 ∧ 25 * w ≤ i) M2 M3 ∧ ∀ u v, u < 5 → v < 5 → 5 * u + v < j → M3 88 (25 * w + (5 * u + v)) = ((ordO pp nf F w u v).toNat : Int)) (G := fun j M3 => A m11_rise 5 0 39 [(20, ((59 : Nat) : Int)), (0, (a' : Int)), (0, (b' : Int)), (0, k), (0, (w : Int)), (0, (j : Int)), (2, 0), (2, 0), (2, 0), (2, 0)] [] M3 (Ki P)) 25 ?_ ?_ 0 M2 (by omega) ⟨Fp.rf, fun u v _ _ hj => by omega⟩
      · rintro M3 ⟨hF3, hn⟩
        apply r_11_rise_39
        rw [w_1 (i := w) (by omega)]
        refine ⟨fun _ => ih M3 ⟨hF2'.tr (hF3.mono (fun k j q => by unfold rs; omega)), fun x u v hx hu hv => ?_⟩, fun q => by omega⟩
        by_cases z : x = w
        · subst z; exact hn u v hu hv (by omega)
        · rw [hF3 88 _ (by omega)]
          exact hall2 x u v (by omega) hu hv
      · rintro j M3 hj ⟨hF3, hn⟩ ih2
        have e : w32 (w32 (25 * (w : Int)) + (j : Int)) = ((25 * w + j : Nat) : Int) := by
          rw [w32_id (z := 25 * (w : Int)) (by omega) (by omega), w32_id (by omega) (by omega)]; omega
        have e74 : M3 74 j = ((abv F nf pp (w : Int) (j / 5) (j % 5)).toNat : Int) := by
          rw [hF3 74 j (by omega)]
          have := hm2 (j / 5) (j % 5) (by omega) (by omega)
          rwa [show 5 * (j / 5) + j % 5 = j by omega] at this
        apply r_11_rise_39
        rw [e, w_1 (i := j) (by omega), Int.toNat_natCast, Int.toNat_natCast, e74]
        refine ⟨fun q => by omega, fun _ => ⟨by omega, by omega, hb01 _ _, ih2 _ ⟨hF3.set ⟨rfl, by omega⟩, fun u v hu hv huv => ?_⟩⟩⟩
        by_cases z : 5 * u + v = j
        · have eu : j / 5 = u := by omega
          have ev : j % 5 = v := by omega
          rw [z, mset_s, eu, ev]
          rfl
        · rw [mset_j (by omega)]
          exact hn u v hu hv (by omega)
  · have := h M0 Fp.rf
    rwa [if_neg (fun z => by omega)] at this
