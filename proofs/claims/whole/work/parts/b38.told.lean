/-! a TEXT that is told, as the state of both sides -/
def bgL (L : LnS) : Nat → Nat := fun f => (L.2.1 3 f).toNat
def enL (L : LnS) : Nat → Nat := fun f => (L.2.1 4 f).toNat
theorem okF_v {L : LnS} {f : Nat} (h : okF L f) (hl : L.2.2.2.length ≤ 64) : L.2.1 3 f = (bgL L f : Int) ∧ L.2.1 4 f = (enL L f : Int) ∧ enL L f ≤ L.2.2.2.length ∧ ∀ C : Nat → Int, (∀ i, i < L.2.2.2.length → C i = L.2.2.2.getD i 0) → fok C (bgL L) (enL L) f := by
  obtain ⟨b, e, h1, h2, h3, h4, h5⟩ := h
  have e1 : bgL L f = b := by unfold bgL; rw [h1, Int.toNat_natCast]
  have e2 : enL L f = e := by unfold enL; rw [h2, Int.toNat_natCast]
  refine ⟨by rw [e1]; exact h1, by rw [e2]; exact h2, by rw [e2]; exact h4, fun C hC => ?_⟩
  unfold fok
  rw [e1, e2]
  exact ⟨h3, by omega, h5 C hC⟩
theorem SC_told {M : Mem} {L : LnS} (h : SLc M L) (hW : WFL L) : SC M (L.1 1) (L.1 3) (L.1 5 : Int) (L.1 2) L.2.2.1 (L.2.1 1) (M 26) (bgL L) (enL L) := by
  obtain ⟨w1, w2, w3, w7, wl, w5, w6, wg, wn, wf⟩ := hW
  obtain ⟨d1, d2, d3, d4, d5, d6, d7, d8, d9, d10, d11, d12, d13, d14, d15⟩ := h
  have hf : ∀ j, j < L.1 3 → L.2.1 3 j = (bgL L j : Int) ∧ L.2.1 4 j = (enL L j : Int) ∧ enL L j ≤ L.2.2.2.length ∧ ∀ C : Nat → Int, (∀ i, i < L.2.2.2.length → C i = L.2.2.2.getD i 0) → fok C (bgL L) (enL L) j := fun j hj => okF_v (wf j (Or.inl hj) (by omega)) (by omega)
  exact ⟨d1, d3, ⟨Or.inr rfl, by omega, d2, rfl, fun j hj => (d9 j (Or.inl hj)).1.trans (hf j hj).1, fun j hj => (d9 j (Or.inl hj)).2.trans (hf j hj).2.1, fun j hj => (hf j hj).2.2.2 _ d8⟩, fun j hj => (d6 j hj).2, d10, d11⟩
theorem RTC_told {M : Mem} {L : LnS} (h : SLc M L) (hW : WFL L) : RTC M (decide (L.1 6 = 1)) (M 26) (bgL L) (enL L) := by
  obtain ⟨w1, w2, w3, w7, wl, w5, w6, wg, wn, wf⟩ := hW
  obtain ⟨d1, d2, d3, d4, d5, d6, d7, d8, d9, d10, d11, d12, d13, d14, d15⟩ := h
  refine ⟨?_, fun q => ?_⟩
  · rw [d4]
    rcases (show L.1 6 = 0 ∨ L.1 6 = 1 by omega) with e | e <;> rw [e] <;> rfl
  · have q := of_decide_eq_true q
    obtain ⟨o1, o2, o3, o4⟩ := okF_v (wf 5 (Or.inr ⟨rfl, q⟩) (by omega)) (by omega)
    obtain ⟨e1, e2⟩ := d9 5 (Or.inr ⟨rfl, q⟩)
    exact ⟨e1.trans o1, e2.trans o2, o4 _ d8⟩
theorem SR_told {M : Mem} {L : LnS} {C : Nat → Int} (h : SLr M L) (hW : WFL L) (hC : ∀ i, i < L.2.2.2.length → C i = L.2.2.2.getD i 0) : SR M (L.1 1) (L.1 3) (L.1 5 : Int) (L.1 2) L.2.2.1 (L.2.1 1) C (bgL L) (enL L) := by
  obtain ⟨w1, w2, w3, w7, wl, w5, w6, wg, wn, wf⟩ := hW
  obtain ⟨d1, d2, d3, d4, d5, d6, d7, d8, d9, d10, d11, d12, d13, d14⟩ := h
  have hf : ∀ j, j < L.1 3 → L.2.1 3 j = (bgL L j : Int) ∧ L.2.1 4 j = (enL L j : Int) ∧ enL L j ≤ L.2.2.2.length ∧ ∀ C : Nat → Int, (∀ i, i < L.2.2.2.length → C i = L.2.2.2.getD i 0) → fok C (bgL L) (enL L) j := fun j hj => okF_v (wf j (Or.inl hj) (by omega)) (by omega)
  refine ⟨d1, d3, ⟨by omega, d2, fun j hj => (d8 j (Or.inl hj)).1.trans (hf j hj).1, fun j hj => (d8 j (Or.inl hj)).2.trans (hf j hj).2.1, fun j hj i _ h2 => ?_, fun j hj => (hf j hj).2.2.2 _ hC⟩, fun j hj => (d5 j hj).2, d10, d11⟩
  have hi : i < L.2.2.2.length := by have := (hf j hj).2.2.1; omega
  obtain ⟨k1, k2⟩ := d7 i hi
  exact ⟨(hC i hi).trans k1.symm, k2⟩
theorem RTR_told {M : Mem} {L : LnS} {C : Nat → Int} (h : SLr M L) (hW : WFL L) (hC : ∀ i, i < L.2.2.2.length → C i = L.2.2.2.getD i 0) : RTR M (decide (L.1 6 = 1)) C (bgL L) (enL L) := by
  obtain ⟨w1, w2, w3, w7, wl, w5, w6, wg, wn, wf⟩ := hW
  obtain ⟨d1, d2, d3, d4, d5, d6, d7, d8, d9, d10, d11, d12, d13, d14⟩ := h
  refine ⟨fun q => d9 ?_, fun q => ?_⟩
  · have q := of_decide_eq_false q; omega
  · have q := of_decide_eq_true q
    obtain ⟨o1, o2, o3, o4⟩ := okF_v (wf 5 (Or.inr ⟨rfl, q⟩) (by omega)) (by omega)
    obtain ⟨e1, e2⟩ := d8 5 (Or.inr ⟨rfl, q⟩)
    refine ⟨e1.trans o1, e2.trans o2, o4 _ hC, fun i _ h2 => ?_⟩
    have hi : i < L.2.2.2.length := by omega
    obtain ⟨k1, k2⟩ := d7 i hi
    exact ⟨(hC i hi).trans k1.symm, k2⟩
theorem SF_told {L : LnS} (hW : WFL L) : SF (L.1 1) (L.1 5 : Int) (L.1 2) L.2.2.1 := by
  obtain ⟨w1, w2, w3, w7, wl, w5, w6, wg, wn, wf⟩ := hW
  exact ⟨w1, by omega, by omega, wg, wn⟩
/-! one more saying, one more strike: what Orders has worked out still holds -/
theorem clH_add {n nh i : Nat} {ag C : Nat → Int} {Bg E : Nat → Nat} {H : FTab} {a b c x r : Int} {B : Nat → Nat → Bool} (h : i < nh) : wrB n ag C Bg E (hadd H nh a b c x r) B i = wrB n ag C Bg E H B i := by
  unfold wrB
  rw [hadd_o (by omega)]
theorem fwV_add {n nh t : Nat} {ag C : Nat → Int} {Bg E : Nat → Nat} {H : FTab} {a b c x r : Int} {B : Nat → Nat → Bool} (ht : tbk H nh t) : fwV n ag C Bg E (hadd H nh a b c x r) (nh + 1) t B = fwV n ag C Bg E H nh t B := by
  unfold fwV
  rw [fst1_cut (p := fun i => t.testBit i && wrB n ag C Bg E (hadd H nh a b c x r) B i) nh 0 1 (fun j h1 h2 => ?_)]
  · exact fst1_congr nh 0 (fun j h1 h2 => by show (_ && _) = (_ && _); rw [clH_add (by omega)])
  · show (t.testBit j && _) = false
    cases e : t.testBit j with
    | false => rfl
    | true => have := (ht.2 j e).1; omega
theorem tbk_add {nh t : Nat} {H : FTab} {a b c x r : Int} (ht : tbk H nh t) : tbk (hadd H nh a b c x r) (nh + 1) t := ⟨ht.1, fun i hi => by
  obtain ⟨h1, h2⟩ := ht.2 i hi
  rw [hadd_o (by omega)]
  exact ⟨by omega, h2⟩⟩
theorem OI.add {M : Mem} {pp n nh : Nat} {ag C : Nat → Int} {Bg E : Nat → Nat} {H : FTab} {a b c x r : Int} (h : OI M pp n nh ag C Bg E H) : OI M pp n (nh + 1) ag C Bg E (hadd H nh a b c x r) := ⟨h.1, fun q => by
  obtain ⟨h1, t, h2, h3, h4⟩ := h.2 q
  refine ⟨h1, t, h2, tbk_add h3, fun c hc ht => ?_⟩
  rw [fwV_add h3]
  exact h4 c hc ht⟩
