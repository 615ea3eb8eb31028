/-! all lines of a TEXT -/
theorem lnF_wf {t : Nat → Int} {n : Nat} {L L' : LnS} (hb : bys t n) (hc : L.1 0 ≤ n) (hW : WFL L) (h : lnF t n L = .inl L') : nxL n L L' := by
  have hW0 := hW
  obtain ⟨w1, w2, w3, w7, wl, w5, w6, wg, wn, wf⟩ := hW0
  unfold lnF at h
  split at h
  · next s0 =>
    have o1 := tk_on hb hc (by omega)
    have u1 := tk_up hb (tk_up hb hc).2
    have u2 := tk_up hb u1.2
    have u3 := tk_up hb u2.2
    have u4 := tk_up hb u3.2
    have fac : ∀ how : Int, how = 0 ∨ how = 1 → facF t n L how = .inl L' → nxL n L L' := by
      intro how hh h
      unfold facF at h
      split at h
      · cases h
      · next q1 =>
        split at h
        · cases h
        · next q2 =>
          split at h
          · cases h
          · next q3 =>
            have p1 := pn_rng (Decidable.not_not.mp q2)
            have p2 := pn_rng (Decidable.not_not.mp q3)
            split at h
            · cases h
            · split at h
              · next q5 =>
                split at h
                · cases h
                · exact facE_wf hb hW (by omega) u4.2 q1 p1 p2 (Or.inl q5.1) h
              · refine facE_wf hb hW (by omega) u2.2 q1 p1 p2 ?_ h
                rcases hh with z | z
                · exact Or.inl z
                · exact Or.inr ⟨z, rfl⟩
    split at h
    · unfold perF at h
      split at h
      · cases h
      · next q1 =>
        split at h
        · cases h
        · split at h
          · cases h
          · split at h
            · cases h
            · refine nx_end hb h ⟨by show L.1 1 + 1 ≤ 5; omega, w2, w3, w7, wl, w5, w6, Fgood_pp wg, noR_pp wg wn, fun f hf hn => ?_⟩ rfl (by omega) u2.2
              obtain ⟨b, e, g1, g2, g3, g4, g5⟩ := wf f hf hn
              refine ⟨b, e, ?_, ?_, g3, g4, g5⟩
              · show ud2 (ud2 L.2.1 0 (L.1 1) (tkV t n (tkE t n (L.1 0)))) 1 (L.1 1) (tkV t n (tkE t n (tkE t n (L.1 0)))) 3 f = _
                rw [ud2_o (by omega), ud2_o (by omega)]; exact g1
              · show ud2 (ud2 L.2.1 0 (L.1 1) (tkV t n (tkE t n (L.1 0)))) 1 (L.1 1) (tkV t n (tkE t n (tkE t n (L.1 0)))) 4 f = _
                rw [ud2_o (by omega), ud2_o (by omega)]; exact g2
    · split at h
      · exact fac 0 (Or.inl rfl) h
      · split at h
        · exact fac 1 (Or.inr rfl) h
        · split at h
          · unfold parF at h
            split at h
            · cases h
            · next q1 =>
              split at h
              · cases h
              · split at h
                · cases h
                · have hx : WFLx (LSmk (udg L.1 3 (L.1 3 + 1)) (ud2 L.2.1 2 (L.1 3) (tkV t n (tkE t n (L.1 0)))) L.2.2.1 L.2.2.2) (L.1 3) := by
                    refine ⟨w1, w2, by show L.1 3 + 1 ≤ 5; omega, w7, wl, w5, w6, wg, wn, fun f hf hn => ?_⟩
                    have hf : f < L.1 3 + 1 ∨ (f = 5 ∧ L.1 6 = 1) := hf
                    obtain ⟨b, e, g1, g2, g3, g4, g5⟩ := wf f (by omega) (by omega)
                    refine ⟨b, e, ?_, ?_, g3, g4, g5⟩
                    · show ud2 L.2.1 2 (L.1 3) (tkV t n (tkE t n (L.1 0))) 3 f = _
                      rw [ud2_o (by omega)]; exact g1
                    · show ud2 L.2.1 2 (L.1 3) (tkV t n (tkE t n (L.1 0))) 4 f = _
                      rw [ud2_o (by omega)]; exact g2
                  obtain ⟨L1, c1, k1, k2, k3, k4, k5⟩ := forF_wf hb u1.2 hx h
                  exact nx_end hb k1 k2 k3 (by omega) k5
          · split at h
            · unfold seaF at h
              split at h
              · cases h
              · split at h
                · cases h
                · next q2 =>
                  have hv : (tkV t n (tkE t n (L.1 0))).toNat ≤ 3 := by
                    have := Decidable.not_not.mp q2
                    unfold numF at this
                    split at this
                    · cases this
                    · split at this
                      · cases this
                      · omega
                  exact nx_end hb h ⟨w1, w2, w3, w7, wl, hv, ⟨w6.1, Nat.le_refl 1⟩, wg, wn, wf⟩ rfl (by omega) u1.2
            · split at h
              · unfold risF at h
                split at h
                · cases h
                · have hx : WFLx (LSmk (udg L.1 6 1) L.2.1 L.2.2.1 L.2.2.2) 5 := by
                    refine ⟨w1, w2, w3, w7, wl, w5, ⟨Nat.le_refl 1, w6.2⟩, wg, wn, fun f hf hn => ?_⟩
                    have hf : f < L.1 3 ∨ (f = 5 ∧ (1 : Nat) = 1) := hf
                    exact wf f (by omega) (by omega)
                  obtain ⟨L1, c1, k1, k2, k3, k4, k5⟩ := forF_wf hb (tk_up hb hc).2 hx h
                  exact nx_end hb k1 k2 k3 (by omega) k5
              · cases h
  · cases h
def runT (t : Nat → Int) (n : Nat) : Nat → LnS → Sum LnS (Nat × Nat)
  | 0, L => .inl L
  | f + 1, L => if tkS t n (L.1 0) = 4 then .inl L else match lnF t n L with
    | .inl L' => runT t n f L'
    | .inr q => .inr q
def L0 : LnS := LSmk (fun _ => 0) (fun _ _ => 0) (fun _ _ => 0) []
/-- the outcome of a TEXT -/
def TXT (t : Nat → Int) (n : Nat) : Sum LnS (Nat × Nat) := runT t n (n + 1) L0
theorem L0_wf : WFL L0 := ⟨by decide, by decide, by decide, by decide, rfl, by decide, ⟨by decide, by decide⟩, ⟨fun i hi => absurd hi (Nat.not_lt_zero i), fun i hi => absurd hi (Nat.not_lt_zero i)⟩, noR_of (fun i hi => absurd hi (Nat.not_lt_zero i)) (fun s _ a ha => absurd ha (Nat.not_lt_zero a)), fun f hf _ => by
  rcases hf with y | y
  · exact absurd y (Nat.not_lt_zero f)
  · exact absurd y.2 (by decide)⟩
theorem WFL.sz {L : LnS} (h : WFL L) (h8 : L.1 8 < 2000) : szL L := ⟨h.1, h.2.1, h.2.2.1, h.2.2.2.1, h8, h.2.2.2.2.1⟩
/-- what the class does with a draft that is told -/
def tailC (P : Int → Mem → Prop) (M : Mem) : Prop := CD m0_take 3 [(10, ((21 : Nat) : Int)), (10, ((5 : Nat) : Int))] M (fun M8 => (CD m2_take 2 [(12, ((30 : Nat) : Int)), (12, ((14 : Nat) : Int))] M8 (fun M11 => (CD m4_clear 1 [(14, ((43 : Nat) : Int))] (mset M11 0 5 (M11 21 6)) (fun M14 => (CD m6_forget 1 [(16, ((49 : Nat) : Int))] M14 (fun M17 => (P ((mset M17 0 8 0) 2 2) (mset M17 0 8 0)))))))))
theorem x_text {x1 x2 f : Int} {P : Int → Mem → Prop} {M : Mem} (h3 : M 2 3 = f) (hf : f ≠ 0) (h : P (-1) M) : A m10_text 7 0 30 [(19, ((0 : Nat) : Int)), (0, x1), (0, x2)] [] M (Ki P) := by
  subst h3
  apply r_10_text_30
  refine ⟨fun _ => ⟨fun z => absurd z hf, fun _ => h⟩, fun _ => ?_⟩
  apply q_7_isGoing
  exact ⟨fun _ => ⟨fun _ => ⟨fun z => absurd z hf, fun _ => h⟩, fun z => absurd rfl z⟩, fun _ => ⟨fun _ => ⟨fun _ => ⟨fun z => absurd z hf, fun _ => h⟩, fun z => absurd rfl z⟩, fun z => absurd z hf⟩⟩
theorem KC_4 {M : Mem} {t : Nat → Int} {n c : Nat} (h : KC M t n c) : M 2 15 = 0 ↔ tkS t n c = 4 := by
  obtain ⟨k1, k2, k3, k4⟩ := KC_k h
  obtain ⟨w1, w2, w3, w4⟩ := KC_w h
  obtain ⟨h1, h2, h3, h4, h5, h6, h7, _⟩ := h
  have hr : tkS t n c = 0 ∨ tkS t n c = 1 ∨ tkS t n c = 2 ∨ tkS t n c = 3 ∨ tkS t n c = 4 ∨ tkS t n c = 5 := by
    unfold tkS
    repeat' split
    all_goals omega
  constructor
  · intro q
    rcases hr with z | z | z | z | z | z
    · have := (h4 (Or.inl z)).1; omega
    · have := (h4 (Or.inr z)).1; omega
    · have := (h5 z).1; omega
    · have := (h6 z).1; omega
    · exact z
    · have := (h7 z).1; omega
  · intro q; exact (h3 q).1
/-- the class's lines, one after another -/
theorem s_linesC {t : Nat → Int} {n : Nat} {P : Int → Mem → Prop} {M0 : Mem} (hT0 : TCm M0 t n)
    (hok : ∀ L, TXT t n = .inl L → WFL L → L.1 8 ≤ n → ∀ M, Fp lnC M0 M → M 2 3 = 0 → M 2 4 = -1 → LD M L → tailC P M)
    (hbad : ∀ f pl, TXT t n = .inr (f, pl) → f ≠ 0 → ∀ M, Fp lnC M0 M → M 2 3 = (f : Int) → M 2 4 = (pl : Int) → P (-1) M) :
    ∀ f (L : LnS) (M : Mem), runT t n f L = TXT t n → n + 1 ≤ L.1 0 + f → WFL L → L.1 0 ≤ n → L.1 8 ≤ L.1 0 → Fp lnC M0 M → KC M t n (L.1 0) → M 2 3 = 0 → LD M L → A m10_text 7 0 30 [(19, ((0 : Nat) : Int)), (0, (n : Int)), (0, (L.1 8 : Int))] [] M (Ki P) := by
  intro f
  have h700 := hT0.2.1
  have hb := hT0.2.2.2.1
  induction f with
  | zero => intro L M _ h1 _ h2; omega
  | succ f ih =>
    intro L M hr h1 hW hc h8 hF hK h3 hD
    apply r_10_text_30
    refine ⟨fun q => by omega, fun _ => ?_⟩
    apply q_7_isGoing
    by_cases s4 : tkS t n (L.1 0) = 4
    · have e : TXT t n = .inl L := hr.symm.trans (if_pos s4)
      refine ⟨fun _ => ⟨fun _ => ⟨fun _ => hok L e hW (by omega) M hF h3 hK.p hD, fun z => absurd h3 z⟩, fun z => absurd rfl z⟩, fun z => absurd ((KC_4 hK).mpr s4) z⟩
    · have e : TXT t n = (match lnF t n L with | .inl L' => runT t n f L' | .inr q => .inr q) := hr.symm.trans (if_neg s4)
      refine ⟨fun z => absurd ((KC_4 hK).mp z) s4, fun _ => ⟨fun z => absurd h3 z, fun _ => ⟨fun z => (by cases z), fun _ => ?_⟩⟩⟩
      have hz := hW.sz (by omega)
      apply s_readLine (lnC_T hT0 hF) hc hK h3 hD hz.1 hz.2.1 hz.2.2.1 hz.2.2.2.1 hz.2.2.2.2.1 hz.2.2.2.2.2 hW.2.2.2.2.2.2.2.1
      · intro L' e2 M' hF' hK' h3' hD'
        rw [e2] at e
        obtain ⟨x1, x2, x3, x4⟩ := lnF_wf hb hc hW e2
        rw [w_1 (i := L.1 8) (by omega), ← x4]
        exact ih L' M' e.symm (by omega) x1 x3 (by omega) (hF.tr hF') hK' h3' hD'
      · intro f' pl e2 hf M' hF' k3 k4
        rw [e2] at e
        exact x_text k3 (by omega) (hbad f' pl e hf M' (hF.tr hF') k3 k4)
/-- what the reference does at the end of a TEXT -/
def msF (M : Mem) : Mem := mset (mset M 59 25 (M 59 23)) 59 26 ((mset M 59 25 (M 59 23)) 59 24)
def tailR (P : Int → Mem → Prop) (M : Mem) : Prop := CD m11_half 1 [(30, ((61 : Nat) : Int))] M (fun M8 => (CD m11_half 1 [(30, ((62 : Nat) : Int))] M8 (fun M11 => (CD m11_half 1 [(30, ((63 : Nat) : Int))] M11 (fun M14 => (CD m11_half 1 [(30, ((64 : Nat) : Int))] M14 (fun M17 => (CD m11_half 1 [(30, ((65 : Nat) : Int))] M17 (fun M20 => (CD m11_half 1 [(30, ((66 : Nat) : Int))] M20 (fun M23 => (CD m11_half 1 [(30, ((67 : Nat) : Int))] M23 (fun M26 => (CD m11_half 1 [(30, ((68 : Nat) : Int))] M26 (fun M29 => (CD m11_copyFacts 2 [(20, ((59 : Nat) : Int)), (0, 0), (0, 24), (0, ((mset M29 59 31 (M29 61 1)) 59 31))] (mset M29 59 31 (M29 61 1)) (fun M32 => (P ((mset (mset (mset (mset M32 59 32 (M32 61 3)) 59 46 0) 59 47 (-1)) 59 33 0) 59 17) (mset (mset (mset (mset M32 59 32 (M32 61 3)) 59 46 0) 59 47 (-1)) 59 33 0)))))))))))))))))))
theorem msF_23 {M : Mem} : msF M 59 23 = M 59 23 := by
  unfold msF
  rw [mset_j (by decide), mset_j (by decide)]
theorem s_linesR (hWR : WordR) {t : Nat → Int} {n : Nat} {P : Int → Mem → Prop} {M0 : Mem} (h700 : n ≤ 700) (hb : bys t n)
    (hok : ∀ L, TXT t n = .inl L → WFL L → L.1 8 ≤ n → ∀ M, Fp lnR M0 M → LRd M L → M 59 23 = 0 → M 59 24 = -1 → tailR P (msF M))
    (hbad : ∀ f pl, TXT t n = .inr (f, pl) → f ≠ 0 → ∀ M, Fp lnR M0 M → RB M f pl → P (-1) (msF M)) :
    ∀ f (L : LnS) (M : Mem), runT t n f L = TXT t n → n + 1 ≤ L.1 0 + f → WFL L → L.1 0 ≤ n → L.1 8 ≤ L.1 0 → Fp lnR M0 M → K0 M t n (L.1 0) → LRd M L → A m11_text 902 0 120 [(20, ((59 : Nat) : Int)), (2, 0), (2, 0)] [] M (Ki P) := by
  intro f
  induction f with
  | zero => intro L M _ h1 _ h2; omega
  | succ f ih =>
    intro L M hr h1 hW hc h8 hF hK hD
    have k := hK.2.1
    apply r_11_text_120
    refine ⟨fun z => absurd hK.2.2.1 z, fun _ => ⟨fun q => ⟨fun _ => ?_, fun z => absurd (msF_23.trans hK.2.2.1) z⟩, fun q => ?_⟩⟩
    · have s4 : tkS t n (L.1 0) = 4 := by have := k.2.2.1; omega
      have e : TXT t n = .inl L := hr.symm.trans (if_pos s4)
      exact hok L e hW (by omega) M hF hD hK.2.2.1 k.p
    · have s4 : tkS t n (L.1 0) ≠ 4 := fun z => q (by rw [k.2.2.1, z]; rfl)
      have e : TXT t n = (match lnF t n L with | .inl L' => runT t n f L' | .inr q => .inr q) := hr.symm.trans (if_neg s4)
      apply s_lineR hWR hK hD (hW.sz (by omega)) hW.2.2.2.2.2.2.2.1
      · intro L' e2 M' hF' hK' hD'
        rw [e2] at e
        obtain ⟨x1, x2, x3, x4⟩ := lnF_wf hb hc hW e2
        exact ih L' M' e.symm (by omega) x1 x3 (by omega) (hF.tr hF') hK' hD'
      · intro f' pl e2 hf M' hF' hB
        rw [e2] at e
        apply r_11_text_120
        have hne := hB.ne hf
        refine ⟨fun _ => ⟨fun z => absurd (msF_23.symm.trans z) hne, fun _ => hbad f' pl e hf M' (hF.tr hF') hB⟩, fun z => absurd z hne⟩
