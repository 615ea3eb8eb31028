/-! a draft stays well formed from line to line -/
def okF (L : LnS) (f : Nat) : Prop := ∃ b e : Nat, L.2.1 3 f = (b : Int) ∧ L.2.1 4 f = (e : Int) ∧ b ≤ e ∧ e ≤ L.2.2.2.length ∧ ∀ C : Nat → Int, (∀ i, i < L.2.2.2.length → C i = L.2.2.2.getD i 0) → wfc C b (e - b) 0 = some 1
/-- all is well but for formula g -/
def WFLx (L : LnS) (g : Nat) : Prop := L.1 1 ≤ 5 ∧ L.1 2 ≤ 16 ∧ L.1 3 ≤ 5 ∧ L.1 7 ≤ 64 ∧ L.2.2.2.length = L.1 7 ∧ L.1 5 ≤ 3 ∧ (L.1 6 ≤ 1 ∧ L.1 4 ≤ 1) ∧ Fgood L.2.2.1 (L.1 2) (L.1 1) ∧ noR L.2.2.1 (L.1 2) (L.1 1) ∧ ∀ f, f < L.1 3 ∨ (f = 5 ∧ L.1 6 = 1) → f ≠ g → okF L f
def WFL (L : LnS) : Prop := WFLx L 6
theorem abv_pp {F : FTab} {n pp : Nat} {s : Int} (hF : Fin5 F n pp) {a b : Nat} : abv F n (pp + 1) s a b = abv F n pp s a b := by
  have e : abv F n (pp + 1) s a b = (abv F n pp s a b || (abv F n pp s a pp && abv F n pp s pp b)) := rfl
  rw [e]
  cases h : abv F n pp s pp b with
  | true => exact absurd (abv_in hF h) (Nat.lt_irrefl pp)
  | false => rw [Bool.and_false, Bool.or_false]
theorem endF_inl {t : Nat → Int} {n c : Nat} {L L' : LnS} (h : endF t n L c = .inl L') : L' = LSmk (udg (udg L.1 0 (tkE t n c)) 8 (L.1 8 + 1)) L.2.1 L.2.2.1 L.2.2.2 := by
  unfold endF at h
  split at h
  · cases h; rfl
  · cases h
theorem WFL.endL {L : LnS} {x y : Nat} (h : WFL L) : WFL (LSmk (udg (udg L.1 0 x) 8 y) L.2.1 L.2.2.1 L.2.2.2) := h
theorem wfc_seg {C : Nat → Int} : ∀ (seg : List Int) (i d : Nat), (∀ k, k < seg.length → C (i + k) = seg.getD k 0) → wfc C i seg.length d = wdl seg d
  | [], i, d, _ => rfl
  | x :: seg, i, d, h => by
    have h0 : C i = x := h 0 (Nat.succ_pos _)
    show (wd (C i) d).bind (wfc C (i + 1) seg.length) = (wd x d).bind (wdl seg)
    rw [h0]
    congr 1
    funext d'
    refine wfc_seg seg (i + 1) d' (fun k hk => ?_)
    have := h (k + 1) (Nat.succ_lt_succ hk)
    rw [show i + 1 + k = i + (k + 1) by omega, this]
    rfl
theorem gtD_l {l r : List Int} {i : Nat} (h : i < l.length) : (l ++ r).getD i 0 = l.getD i 0 := by
  rw [List.getD_eq_getElem?_getD, List.getD_eq_getElem?_getD, List.getElem?_append_left h]
theorem gtD_r {l r : List Int} {i : Nat} (h : l.length ≤ i) : (l ++ r).getD i 0 = r.getD (i - l.length) 0 := by
  rw [List.getD_eq_getElem?_getD, List.getD_eq_getElem?_getD, List.getElem?_append_right h]
theorem run_up {t : Nat → Int} {n : Nat} (hb : bys t n) : ∀ f (z z' : Zs), z.1 ≤ n → runZ t n f z = .inl z' → z.1 ≤ z'.1
  | 0, z, z', _, h => by cases h; exact Nat.le_refl _
  | f + 1, z, z', hc, h => by
    unfold runZ at h
    cases hs : stepZ t n z with
    | inr k => rw [hs] at h; cases h
    | inl o =>
      rw [hs] at h
      cases o with
      | none => cases h; exact Nat.le_refl _
      | some z1 =>
        obtain ⟨s1, s2, _⟩ := step_c hb hc hs
        have := run_up hb f z1 z' s2 h
        omega
theorem tk_up {t : Nat → Int} {n c : Nat} (hb : bys t n) (hc : c ≤ n) : c ≤ tkE t n c ∧ tkE t n c ≤ n := by
  have h1 := tkE_p hb hc
  have h2 := tkP_p t n c
  exact ⟨Nat.le_trans h2.1 h1.1, h1.2.1⟩
theorem tk_on {t : Nat → Int} {n c : Nat} (hb : bys t n) (hc : c ≤ n) (h4 : tkS t n c ≠ 4) : c < tkE t n c := by
  have h1 := tkE_p hb hc
  have h2 := tkP_p t n c
  have : tkP t n c < n := by
    rcases Nat.lt_or_ge (tkP t n c) n with y | y
    · exact y
    · exact absurd (if_pos y) h4
  exact Nat.lt_of_le_of_lt h2.1 (h1.2.2 this)
theorem forF_wf {t : Nat → Int} {n c f : Nat} {L L' : LnS} (hb : bys t n) (hc : c ≤ n) (hW : WFLx L f) (h : forF t n L f c = .inl L') : ∃ L1 c1, endF t n L1 c1 = .inl L' ∧ WFL L1 ∧ L1.1 8 = L.1 8 ∧ c ≤ c1 ∧ c1 ≤ n := by
  obtain ⟨w1, w2, w3, w7, wl, w5, w6, wg, wn, wf⟩ := hW
  unfold forF at h
  have hZ0 : ZI n L.2.2.2 (z0E c (L.1 7) L.2.2.2) := ⟨hc, w7, by show 0 ≤ 8; omega, rfl, fun x hx => (by cases hx), by show L.2.2.2.length + 0 = L.1 7; omega, [], by show L.2.2.2 = L.2.2.2 ++ []; rw [List.append_nil], rfl⟩
  cases e : EZ t n (z0E c (L.1 7) L.2.2.2) with
  | inr q => rw [e] at h; cases h
  | inl z =>
    rw [e] at h
    obtain ⟨hZ, hs⟩ := EZ_ok hb _ _ z hZ0 (by show n + 1 ≤ c + (n + 2 - c); omega) e
    have hup := run_up hb _ _ z (show (z0E c (L.1 7) L.2.2.2).1 ≤ n from hc) e
    obtain ⟨e1, e2, e3, e4, seg, e5, e6⟩ := E_fin hZ hs
    have e4 : (outE z).length = z.2.2.2.2.1 := e4
    have e5 : outE z = L.2.2.2 ++ seg := e5
    have hlen : (outE z).length = L.2.2.2.length + seg.length := by rw [e5, List.length_append]
    refine ⟨_, z.1, h, ⟨w1, w2, w3, hZ.2.1, e4, w5, w6, wg, wn, fun g hg _ => ?_⟩, rfl, hup, hZ.1⟩
    show okF (LSmk (udg L.1 7 z.2.2.2.2.1) (ud2 (ud2 L.2.1 3 f (L.2.2.2.length : Int)) 4 f ((outE z).length : Int)) L.2.2.1 (outE z)) g
    by_cases q : g = f
    · subst q
      refine ⟨L.2.2.2.length, (outE z).length, ?_, ?_, by omega, Nat.le_refl _, fun C hC => ?_⟩
      · show ud2 (ud2 L.2.1 3 g (L.2.2.2.length : Int)) 4 g ((outE z).length : Int) 3 g = _
        rw [ud2_o (by omega), ud2_s]
      · show ud2 (ud2 L.2.1 3 g (L.2.2.2.length : Int)) 4 g ((outE z).length : Int) 4 g = _
        rw [ud2_s]
      · have hC : ∀ i, i < (outE z).length → C i = (outE z).getD i 0 := hC
        rw [show (outE z).length - L.2.2.2.length = seg.length by omega, wfc_seg seg _ 0 (fun k hk => ?_)]
        · exact e6
        · rw [hC _ (by omega), e5, gtD_r, show L.2.2.2.length + k - L.2.2.2.length = k by omega]
          omega
    · obtain ⟨b, e', g1, g2, g3, g4, g5⟩ := wf g hg q
      refine ⟨b, e', ?_, ?_, g3, by show e' ≤ (outE z).length; omega, fun C hC => g5 C (fun i hi => ?_)⟩
      · show ud2 (ud2 L.2.1 3 f (L.2.2.2.length : Int)) 4 f ((outE z).length : Int) 3 g = _
        rw [ud2_o (by omega), ud2_o (by omega)]; exact g1
      · show ud2 (ud2 L.2.1 3 f (L.2.2.2.length : Int)) 4 f ((outE z).length : Int) 4 g = _
        rw [ud2_o (by omega), ud2_o (by omega)]; exact g2
      · have hC : ∀ i, i < (outE z).length → C i = (outE z).getD i 0 := hC
        rw [hC i (by omega), e5, gtD_l hi]
theorem Fgood_pp {F : FTab} {n pp : Nat} (h : Fgood F n pp) : Fgood F n (pp + 1) := ⟨fun i hi => by have := h.1 i hi; omega, h.2⟩
theorem noR_pp {F : FTab} {n pp : Nat} (hg : Fgood F n pp) (h : noR F n pp) : noR F n (pp + 1) := fun s h0 h3 a => by rw [abv_pp hg.1]; exact h s h0 h3 a
/-- what a line that is told leaves behind -/
def nxL (n : Nat) (L L' : LnS) : Prop := WFL L' ∧ L.1 0 < L'.1 0 ∧ L'.1 0 ≤ n ∧ L'.1 8 = L.1 8 + 1
theorem nx_end {t : Nat → Int} {n c : Nat} {L L1 L' : LnS} (hb : bys t n) (h : endF t n L1 c = .inl L') (hW : WFL L1) (h8 : L1.1 8 = L.1 8) (h0 : L.1 0 < c) (hc : c ≤ n) : nxL n L L' := by
  have e := endF_inl h
  subst e
  obtain ⟨u1, u2⟩ := tk_up hb hc
  refine ⟨hW.endL, ?_, u2, ?_⟩
  · show L.1 0 < tkE t n c; omega
  · show L1.1 8 + 1 = L.1 8 + 1; omega
theorem facE_wf {t : Nat → Int} {n c pl : Nat} {how sea a b : Int} {L L' : LnS} (hb : bys t n) (hW : WFL L) (h0 : L.1 0 < c) (hc : c ≤ n) (h16 : L.1 2 ≠ 16) (ha : 0 ≤ a ∧ a < L.1 1) (hbb : 0 ≤ b ∧ b < L.1 1) (hh : how = 0 ∨ (how = 1 ∧ sea = -1)) (h : facE t n L how sea a b pl c = .inl L') : nxL n L L' := by
  obtain ⟨w1, w2, w3, w7, wl, w5, w6, wg, wn, wf⟩ := hW
  have hgd := Fgood_addL wg ha hbb hh
  unfold facE at h
  split at h
  · cases h
  · split at h
    · next q => exact nx_end hb h ⟨w1, by show L.1 2 + 1 ≤ 16; omega, w3, w7, wl, w5, w6, hgd, (noRb_iff hgd.1).mp q, wf⟩ rfl h0 hc
    · cases h
