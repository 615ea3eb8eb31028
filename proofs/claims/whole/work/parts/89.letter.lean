/-! letter -/
/-- the k-th of the places that hold, from i on, z of them behind us -/
def lsc (Q : Nat → Bool) (f : Nat → Int) (k : Int) : Nat → Nat → Nat → Int
  | 0, _, z => if k = -1 then (z : Int) else -2
  | m + 1, i, z => if Q i = true then (if (z : Int) = k then f i else lsc Q f k m (i + 1) (z + 1)) else lsc Q f k m (i + 1) z
theorem lsc_n {Q : Nat → Bool} {f : Nat → Int} {k : Int} {m i z : Nat} (h : Q i = false) : lsc Q f k (m + 1) i z = lsc Q f k m (i + 1) z := by
  show (if Q i = true then _ else _) = _
  rw [if_neg (by rw [h]; decide)]
theorem lsc_y {Q : Nat → Bool} {f : Nat → Int} {k : Int} {m i z : Nat} (h : Q i = true) (hk : (z : Int) ≠ k) : lsc Q f k (m + 1) i z = lsc Q f k m (i + 1) (z + 1) := by
  show (if Q i = true then _ else _) = _
  rw [if_pos h, if_neg hk]
theorem lsc_k {Q : Nat → Bool} {f : Nat → Int} {k : Int} {m i z : Nat} (h : Q i = true) (hk : (z : Int) = k) : lsc Q f k (m + 1) i z = f i := by
  show (if Q i = true then _ else _) = _
  rw [if_pos h, if_pos hk]
theorem lsc_skip {Q : Nat → Bool} {f : Nat → Int} {k : Int} {m z : Nat} : ∀ d i, (∀ j, i ≤ j → j < i + d → Q j = false) → lsc Q f k (m + d) i z = lsc Q f k m (i + d) z
  | 0, _, _ => rfl
  | d + 1, i, h => by
    rw [show m + (d + 1) = (m + d) + 1 by omega, lsc_n (h i (by omega) (by omega)), lsc_skip d (i + 1) (fun j h1 h2 => h j (by omega) (by omega)), show i + 1 + d = i + (d + 1) by omega]
def ltQ (pp n : Nat) (s : Int) (nf : Nat) (F : FTab) (ag C : Nat → Int) (Bg E : Nat → Nat) (row : Int) (i : Nat) : Bool :=
  decide (isSay pp ((i / 64 : Nat) : Int) ((i / 8 % 8 : Nat) : Int) ((i % 8 : Nat) : Int)) && decide ((rgt C Bg E n (nmS pp nf s F ag (i / 64) (i / 8 % 8) (i % 8)) : Int) = row)
theorem ltw {u v w : Nat} (hu : u < 8) (hv : v < 8) (hw : w < 8) : w32 (w32 ((u : Int) + w32 (8 * (v : Int))) + w32 (64 * (w : Int))) = ((u + 8 * v + 64 * w : Nat) : Int) := by
  rw [w32_id (z := 8 * (v : Int)) (by omega) (by omega), w32_id (z := 64 * (w : Int)) (by omega) (by omega), w32_id (z := (u : Int) + 8 * (v : Int)) (by omega) (by omega), w32_id (by omega) (by omega)]
  omega
def ltf (i : Nat) : Int := ((i / 64 + 8 * (i / 8 % 8) + 64 * (i % 8) : Nat) : Int)
def letV (pp n : Nat) (nf : Nat) (F : FTab) (ag C : Nat → Int) (Bg E : Nat → Nat) (row x k : Int) : Int :=
  if rowB n row = true ∧ (0 ≤ x ∧ x < 4) ∧ -1 ≤ k then lsc (ltQ pp n x nf F ag C Bg E row) ltf k 512 0 0 else -1
theorem lt_ix {i : Nat} (hi : i < 512) : ishr (i : Int) 6 = ((i / 64 : Nat) : Int) ∧ iand (ishr (i : Int) 3) 7 = ((i / 8 % 8 : Nat) : Int) ∧ iand (i : Int) 7 = ((i % 8 : Nat) : Int) := by
  have e1 : ishr (i : Int) ((6 : Nat) : Int) = ((i >>> 6 : Nat) : Int) := ishr_n (by omega) (by omega)
  have e2 : ishr (i : Int) ((3 : Nat) : Int) = ((i >>> 3 : Nat) : Int) := ishr_n (by omega) (by omega)
  have e3 : iand (i : Int) 7 = (i : Int) % 2 ^ 3 := iand_k 3 (by omega)
  have e4 : iand ((i >>> 3 : Nat) : Int) 7 = ((i >>> 3 : Nat) : Int) % 2 ^ 3 := iand_k 3 (by omega)
  refine ⟨?_, ?_, ?_⟩
  · exact e1.trans (by rw [Nat.shiftRight_eq_div_pow])
  · have e2' : ishr (i : Int) 3 = ((i >>> 3 : Nat) : Int) := e2
    rw [e2', e4, Nat.shiftRight_eq_div_pow]; norm_cast
  · rw [e3]; norm_cast
/-- what changes when one saying is worked out in an order that is laid -/
def ltset (k j : Nat) : Prop := mset40 k j ∨ wset k j ∨ rset 21 k
theorem s_fits {pp n nf : Nat} {s x row : Int} {F : FTab} {ag C : Nat → Int} {Bg E : Nat → Nat} {M : Mem} {P : Int → Mem → Prop} {a b c : Nat} (hS : SC M pp n s nf F ag C Bg E) (hf : SF pp s nf F) (hr : rows M 37 (abv F nf pp x)) (hx : 0 ≤ x ∧ x < 4) (ha : a < pp) (hb : b < pp) (hc : c < pp)
    (h : ∀ M', Fp ltset M M' → P (bi ((rgt C Bg E n (nmS pp nf x F ag a b c) : Int) = row)) M') : CI m10_fits 6 [(19, ((0 : Nat) : Int)), (0, (a : Int)), (0, (b : Int)), (0, (c : Int)), (0, x), (0, row)] M P := by
  have h5 := hf.1
  have hag := hS.2.2.2.1
  apply q_10_fits
  apply s_meet (Or.inr rfl) (by omega) (by omega) (by omega)
  intro M1 hF1 hN1
  rw [show (21 + 2 : Nat) = 23 from rfl, nmv_ag (hag a ha) (hag b hb) (hag c hc)] at hN1
  apply s_standBy (B := abv F nf pp x) isO34 (by omega) (by omega) (by omega) (by omega) (fun p hp => by rw [hF1 37 p (by unfold mset40; omega)]; exact hr p hp) (hf.2.2.2.2 x hx.1 (by omega))
  intro M2 hF2 x0 x1 x2
  have hN2 : ∀ i, i < 8 → M2 40 i = nmS pp nf x F ag a b c i := fun i hi => by
    match i, hi with
    | 0, _ => exact x0
    | 1, _ => exact x1
    | 2, _ => exact x2
    | 3, _ => rw [hF2 40 3 (by unfold wset; omega), hN1 3 (by omega) (by omega)]; rfl
    | 4, _ => rw [hF2 40 4 (by unfold wset; omega), hN1 4 (by omega) (by omega)]; rfl
    | 5, _ => rw [hF2 40 5 (by unfold wset; omega), hN1 5 (by omega) (by omega)]; rfl
    | 6, _ => rw [hF2 40 6 (by unfold wset; omega), hN1 6 (by omega) (by omega)]; rfl
    | 7, _ => rw [hF2 40 7 (by unfold wset; omega), hN1 7 (by omega) (by omega)]; rfl
  have hF : Fp ltset M M2 := (hF1.mono (fun k j q => Or.inl q)).tr (hF2.mono (fun k j q => Or.inr (Or.inl q)))
  have hS2 := hS.fp hF (fun k j q => by unfold ltset mset40 wset rset at q; unfold cs; omega)
  apply s_rightS hS2.2.2.1 hN2 (nmS_ok (by omega))
  intro M3 hF3
  have h' := h M3 (hF.tr (fun k j q => by rw [hF3 k (fun z => q (Or.inr (Or.inr z)))]))
  refine ⟨fun q => ?_, fun q => ?_⟩
  · rwa [bi_f q] at h'
  · rwa [bi_t q] at h'
theorem ltset_cs {M M' : Mem} (h : Fp ltset M M') : Fp csp M M' := h.mono (fun k j q => by unfold ltset mset40 wset rset at q; unfold csp cs; omega)
theorem s_letter {pp n nf : Nat} {s : Int} {F : FTab} {ag C : Nat → Int} {Bg E : Nat → Nat} {M : Mem} {P : Int → Mem → Prop} {row x k : Int} (hS : SC M pp n s nf F ag C Bg E) (hf : SF pp s nf F)
    (h : ∀ M', Fp csp M M' → P (letV pp n nf F ag C Bg E row x k) M') : CI m10_letter 7 [(19, ((0 : Nat) : Int)), (0, row), (0, x), (0, k)] M P := by
  have hn := hS.2.2.1.2.2.1
  have hn6 := hS.2.2.1.2.1
  unfold letV at h
  apply q_10_letter
  apply s_isSeason
  refine ⟨fun q => ?_, fun q => ⟨fun q1 => ?_, fun q1 => ?_⟩⟩
  · rw [if_neg (fun z => bi_eq q z.2.1)] at h; exact h M Fp.rf
  · rw [if_neg (fun z => by omega)] at h; exact h M Fp.rf
  · rw [hn]
    apply s_isRow hn6
    refine ⟨fun q2 => ?_, fun q2 => ?_⟩
    · have hx := bi_ne q
      rw [if_pos ⟨bi_ne q2, hx, q1⟩] at h
      rw [hS.1]
      apply s_buildS hS hf
      intro M1 hF1 _ _ _ hr
      refine loop_upS (σ := Nat) (Inv := fun i z M2 => Fp csp M M2 ∧ rows M2 37 (abv F nf pp x) ∧ z ≤ i ∧ lsc (ltQ pp n x nf F ag C Bg E row) ltf k (512 - i) i z = lsc (ltQ pp n x nf F ag C Bg E row) ltf k 512 0 0)
        (G := fun i z M2 => A m10_letter 7 0 53 [(19, ((0 : Nat) : Int)), (0, row), (0, x), (0, k), (0, (z : Int)), (0, (i : Int)), (2, 0), (2, 0), (2, 0)] [] M2 (Ki P)) 512 ?_ ?_ 0 0 M1 (by omega) ⟨hF1, hr, by omega, rfl⟩
      · rintro z M2 ⟨hF2, _, hz, e⟩
        apply r_10_letter_53
        refine ⟨fun _ => ⟨fun q3 => ?_, fun q3 => ?_⟩, fun q => by omega⟩
        · have h' := h M2 hF2
          rw [← e, Nat.sub_self] at h'
          unfold lsc at h'
          rwa [if_neg q3] at h'
        · have h' := h M2 hF2
          rw [← e, Nat.sub_self] at h'
          unfold lsc at h'
          rwa [if_pos q3] at h'
      · rintro i z M2 hi ⟨hF2, hr2, hz, e⟩ ih
        obtain ⟨e1, e2, e3⟩ := lt_ix hi
        have hS2 := hS.fp hF2 (fun k j hk => Or.inl hk)
        rw [show 512 - i = (512 - (i + 1)) + 1 by omega] at e
        apply r_10_letter_53
        rw [e1, e2, e3, w_1 (i := i) (by omega)]
        refine ⟨fun q => by omega, fun _ => ?_⟩
        apply s_isSaying hS2.1
        refine ⟨fun q3 => ?_, fun q3 => ?_⟩
        · refine ih z M2 ⟨hF2, hr2, by omega, ?_⟩
          rw [← e, lsc_n]
          unfold ltQ
          rw [decide_eq_false (bi_eq q3), Bool.false_and]
        · have hs := bi_ne q3
          obtain ⟨⟨s1, s2, s3⟩, s4, s5, s6⟩ := hs
          apply s_fits hS2 hf hr2 hx (by omega) (by omega) (by omega)
          intro M3 hF3
          have hF4 := hF2.tr (ltset_cs hF3)
          have hr3 : rows M3 37 (abv F nf pp x) := fun p hp => by rw [hF3 37 p (by unfold ltset mset40 wset rset; omega)]; exact hr2 p hp
          refine ⟨fun q4 => ?_, fun q4 => ?_⟩
          · refine ih z M3 ⟨hF4, hr3, by omega, ?_⟩
            rw [← e, lsc_n]
            unfold ltQ
            rw [decide_eq_false (bi_eq q4), Bool.and_false]
          · have hq : ltQ pp n x nf F ag C Bg E row i = true := by
              unfold ltQ
              rw [decide_eq_true (bi_ne q4), decide_eq_true (bi_ne q3)]; rfl
            refine ⟨fun q5 => ?_, fun q5 => ?_⟩
            · rw [w_1 (i := z) (by omega)]
              exact ih (z + 1) M3 ⟨hF4, hr3, by omega, by rw [← e, lsc_y hq q5]⟩
            · have h' := h M3 hF4
              rw [← e, lsc_k hq q5] at h'
              unfold ltf at h'
              have e4 : w32 (w32 (((i / 64 : Nat) : Int) + w32 (8 * ((i / 8 % 8 : Nat) : Int))) + w32 (64 * ((i % 8 : Nat) : Int))) = ((i / 64 + 8 * (i / 8 % 8) + 64 * (i % 8) : Nat) : Int) := by
                exact ltw (by omega) (by omega) (by omega)
              rwa [e4]
    · rw [if_neg (fun z => bi_eq q2 z.1)] at h; exact h M Fp.rf
theorem s_letter_r {pp n nf : Nat} {s : Int} {F : FTab} {ag C : Nat → Int} {Bg E : Nat → Nat} {M : Mem} {P : Int → Mem → Prop} {row x k : Int} (hS : SR M pp n s nf F ag C Bg E) (hf : SF pp s nf F)
    (h : ∀ M', Fp rs (mset M 59 0 0) M' → P (letV pp n nf F ag C Bg E row x k) M') : CI m11_letter 6 [(20, ((59 : Nat) : Int)), (0, row), (0, x), (0, k)] M P := by
  have h5 := hf.1
  have hS0 := hS.th (v := 0)
  have hn := hS0.2.2.1.2.1
  have hn6 := hS0.2.2.1.1
  unfold letV at h
  apply q_11_letter
  generalize mset M 59 0 0 = M0 at hS0 hn hn6 h ⊢
  apply s_isRow_r hn6 hn
  refine ⟨fun q => ?_, fun q => ?_⟩
  · rw [if_neg (fun z => bi_eq q z.1)] at h; exact h M0 Fp.rf
  · apply s_isSeason_r
    refine ⟨fun q1 => ?_, fun q1 => ⟨fun q2 => ?_, fun q2 => ?_⟩⟩
    · rw [if_neg (fun z => bi_eq q1 z.2.1)] at h; exact h M0 Fp.rf
    · have hx := bi_ne q1
      rw [if_pos ⟨bi_ne q, hx, q2⟩] at h
      apply s_layNow hS0 hf
      intro M1 hF1 hm1 _
      have hS1 := hS0.rs hF1
      rw [hS1.1]
      generalize hQ : ltQ pp n x nf F ag C Bg E row = Q at h
      have hq : ∀ a b c, a < 8 → b < 8 → c < 8 → Q (64 * a + 8 * b + c) = (decide (isSay pp (a : Int) (b : Int) (c : Int)) && decide ((rgt C Bg E n (nmS pp nf x F ag a b c) : Int) = row)) := fun a b c ha hb hc => by
        rw [← hQ]
        unfold ltQ
        rw [show (64 * a + 8 * b + c) / 64 = a by omega, show (64 * a + 8 * b + c) / 8 % 8 = b by omega, show (64 * a + 8 * b + c) % 8 = c by omega]
      have hfq : ∀ a b c, a < 8 → b < 8 → c < 8 → ltf (64 * a + 8 * b + c) = ((a + 8 * b + 64 * c : Nat) : Int) := fun a b c ha hb hc => by
        unfold ltf
        rw [show (64 * a + 8 * b + c) / 64 = a by omega, show (64 * a + 8 * b + c) / 8 % 8 = b by omega, show (64 * a + 8 * b + c) % 8 = c by omega]
      have hoff : ∀ a b c, a < 8 → b < 8 → c < 8 → (pp ≤ a ∨ pp ≤ b ∨ pp ≤ c) → Q (64 * a + 8 * b + c) = false := fun a b c ha hb hc hh => by
        rw [hq a b c ha hb hc, decide_eq_false (by unfold isSay isTwo; omega), Bool.false_and]
      refine loop_upS (σ := Nat) (Inv := fun a z M2 => Fp rs M0 M2 ∧ mat M2 74 (abv F nf pp x) ∧ z ≤ 64 * a ∧ lsc Q ltf k (512 - 64 * a) (64 * a) z = lsc Q ltf k 512 0 0)
        (G := fun a z M2 => A m11_letter 6 0 46 [(20, ((59 : Nat) : Int)), (0, row), (0, x), (0, k), (0, (z : Int)), (0, (pp : Int)), (0, (a : Int)), (2, 0), (2, 0)] [] M2 (Ki P)) pp ?_ ?_ 0 0 M1 (by omega) ⟨hF1, hm1, by omega, rfl⟩
      · rintro z M2 ⟨hF2, _, hz, e⟩
        have e2 : lsc Q ltf k (512 - 64 * pp) (64 * pp) z = lsc Q ltf k 0 512 z := by
          have := lsc_skip (Q := Q) (f := ltf) (k := k) (m := 0) (z := z) (512 - 64 * pp) (64 * pp) (fun j h1 h2 => by
            rw [show j = 64 * (j / 64) + 8 * (j / 8 % 8) + j % 8 by omega]
            exact hoff _ _ _ (by omega) (by omega) (by omega) (Or.inl (by omega)))
          rw [Nat.zero_add, show 64 * pp + (512 - 64 * pp) = 512 by omega] at this
          exact this
        apply r_11_letter_46
        refine ⟨fun _ => ⟨fun q3 => ?_, fun q3 => ?_⟩, fun q => by omega⟩
        · have h' := h M2 hF2
          rw [← e, e2] at h'
          unfold lsc at h'
          rwa [if_neg q3] at h'
        · have h' := h M2 hF2
          rw [← e, e2] at h'
          unfold lsc at h'
          rwa [if_pos q3] at h'
      · rintro a z0 M2 ha ⟨hF2, hm2, hz0, e0⟩ ihA
        apply r_11_letter_46
        refine ⟨fun q => by omega, fun _ => ?_⟩
        refine loop_upS (σ := Nat) (Inv := fun b z M2 => Fp rs M0 M2 ∧ mat M2 74 (abv F nf pp x) ∧ z ≤ 64 * a + 8 * b ∧ lsc Q ltf k (512 - (64 * a + 8 * b)) (64 * a + 8 * b) z = lsc Q ltf k 512 0 0)
          (G := fun b z M2 => A m11_letter 6 0 56 [(20, ((59 : Nat) : Int)), (0, row), (0, x), (0, k), (0, (z : Int)), (0, (pp : Int)), (0, (a : Int)), (0, (b : Int)), (2, 0)] [] M2 (Ki P)) pp ?_ ?_ 0 z0 M2 (by omega) ⟨hF2, hm2, by omega, e0⟩
        · rintro z M3 ⟨hF3, hm3, hz, e⟩
          have e2 : lsc Q ltf k (512 - (64 * a + 8 * pp)) (64 * a + 8 * pp) z = lsc Q ltf k (512 - 64 * (a + 1)) (64 * (a + 1)) z := by
            have := lsc_skip (Q := Q) (f := ltf) (k := k) (m := 512 - 64 * (a + 1)) (z := z) (64 - 8 * pp) (64 * a + 8 * pp) (fun j h1 h2 => by
              rw [show j = 64 * a + 8 * ((j - 64 * a) / 8) + j % 8 by omega]
              exact hoff _ _ _ (by omega) (by omega) (by omega) (Or.inr (Or.inl (by omega))))
            rw [show 512 - 64 * (a + 1) + (64 - 8 * pp) = 512 - (64 * a + 8 * pp) by omega, show 64 * a + 8 * pp + (64 - 8 * pp) = 64 * (a + 1) by omega] at this
            exact this
          apply r_11_letter_56
          refine ⟨fun _ => ?_, fun q => by omega⟩
          rw [w_1 (i := a) (by omega)]
          exact ihA z M3 ⟨hF3, hm3, by omega, by rw [← e2]; exact e⟩
        · rintro b z1 M3 hb ⟨hF3, hm3, hz1, e1⟩ ihB
          apply r_11_letter_56
          refine ⟨fun q => by omega, fun _ => ?_⟩
          refine loop_upS (σ := Nat) (Inv := fun c z M2 => Fp rs M0 M2 ∧ mat M2 74 (abv F nf pp x) ∧ z ≤ 64 * a + 8 * b + c ∧ lsc Q ltf k (512 - (64 * a + 8 * b + c)) (64 * a + 8 * b + c) z = lsc Q ltf k 512 0 0)
            (G := fun c z M2 => A m11_letter 6 0 66 [(20, ((59 : Nat) : Int)), (0, row), (0, x), (0, k), (0, (z : Int)), (0, (pp : Int)), (0, (a : Int)), (0, (b : Int)), (0, (c : Int))] [] M2 (Ki P)) pp ?_ ?_ 0 z1 M3 (by omega) ⟨hF3, hm3, by omega, e1⟩
          · rintro z M4 ⟨hF4, hm4, hz, e⟩
            have e2 : lsc Q ltf k (512 - (64 * a + 8 * b + pp)) (64 * a + 8 * b + pp) z = lsc Q ltf k (512 - (64 * a + 8 * (b + 1))) (64 * a + 8 * (b + 1)) z := by
              have := lsc_skip (Q := Q) (f := ltf) (k := k) (m := 512 - (64 * a + 8 * (b + 1))) (z := z) (8 - pp) (64 * a + 8 * b + pp) (fun j h1 h2 => by
                rw [show j = 64 * a + 8 * b + (j - 64 * a - 8 * b) by omega]
                exact hoff _ _ _ (by omega) (by omega) (by omega) (Or.inr (Or.inr (by omega))))
              rw [show 512 - (64 * a + 8 * (b + 1)) + (8 - pp) = 512 - (64 * a + 8 * b + pp) by omega, show 64 * a + 8 * b + pp + (8 - pp) = 64 * a + 8 * (b + 1) by omega] at this
              exact this
            apply r_11_letter_66
            refine ⟨fun _ => ?_, fun q => by omega⟩
            rw [w_1 (i := b) (by omega)]
            exact ihB z M4 ⟨hF4, hm4, by omega, by rw [← e2]; exact e⟩
          · rintro c z M4 hc ⟨hF4, hm4, hz, e⟩ ihC
            have hS4 := hS0.rs hF4
            have hqc := hq a b c (by omega) (by omega) (by omega)
            rw [show 512 - (64 * a + 8 * b + c) = (512 - (64 * a + 8 * b + (c + 1))) + 1 by omega] at e
            apply r_11_letter_66
            rw [w_1 (i := c) (by omega)]
            refine ⟨fun q => by omega, fun _ => ?_⟩
            apply s_isSaying_r hS4.1
            refine ⟨fun q3 => ?_, fun q3 => ?_⟩
            · refine ihC z M4 ⟨hF4, hm4, by omega, ?_⟩
              rw [← e, lsc_n (by rw [hqc, decide_eq_false (bi_eq q3), Bool.false_and])]
              rfl
            · apply s_right hS4.2.2.1 (by omega) (by omega) (by omega) (by omega) hm4
              intro M5 hF5
              have hag := hS4.2.2.2.1
              rw [nmv_ag (hag a ha) (hag b hb) (hag c hc)]
              have hF6 := hF4.tr (rrset_rs hF5)
              have hm5 : mat M5 74 (abv F nf pp x) := fun u v hu hv => by rw [hF5 74 _ (by unfold rrset aset gset; omega)]; exact hm4 u v hu hv
              refine ⟨fun q4 => ?_, fun q4 => ?_⟩
              · have hq1 : Q (64 * a + 8 * b + c) = true := by
                  rw [hqc, decide_eq_true (bi_ne q3)]
                  exact decide_eq_true q4
                refine ⟨fun q5 => ?_, fun q5 => ?_⟩
                · rw [w_1 (i := z) (by omega)]
                  exact ihC (z + 1) M5 ⟨hF6, hm5, by omega, by rw [← e, lsc_y hq1 q5]; rfl⟩
                · have h' := h M5 hF6
                  rw [← e, lsc_k hq1 q5, hfq a b c (by omega) (by omega) (by omega)] at h'
                  have e4 : w32 (w32 ((a : Int) + w32 (8 * (b : Int))) + w32 (64 * (c : Int))) = ((a + 8 * b + 64 * c : Nat) : Int) := ltw (by omega) (by omega) (by omega)
                  rwa [e4]
              · refine ihC z M5 ⟨hF6, hm5, by omega, ?_⟩
                rw [← e, lsc_n (by rw [hqc]; exact (by rw [decide_eq_false (show ¬ ((rgt C Bg E n (nmS pp nf x F ag a b c) : Int) = row) from q4), Bool.and_false]))]
                rfl
    · rw [if_neg (fun z => by omega)] at h; exact h M0 Fp.rf
