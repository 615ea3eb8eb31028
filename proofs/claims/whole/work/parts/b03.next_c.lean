/-! the class's Reader: next -/
def rsetN (k j : Nat) : Prop := k = 2 ∧ (j = 13 ∨ j = 15 ∨ j = 16)
theorem s_scanNumber {t : Nat → Int} {n p : Nat} {M : Mem} {P : Mem → Prop} (hT : TCm M t n) (hp : p < n) (h13 : M 2 13 = (p : Int)) (h16 : M 2 16 = 0)
    (h : ∀ M', Fp rsetN M M' → M' 2 13 = (runE isD t n p : Int) → M' 2 15 = 2 → NRl (M' 2 16) (dgN t p (runE isD t n p - p)) → P M') : CD m7_scanNumber 2 [(17, ((2 : Nat) : Int))] M P := by
  have a1 : ((aln 1 : Nat) : Int) = 700 := by decide
  have h700 := hT.2.1
  obtain ⟨e1, e2, e3, e4⟩ := runE_p isD t n p
  have e2 := e2 (by omega)
  generalize hL : runE isD t n p = e at e1 e2 e3 e4 h
  apply q_7_scanNumber
  refine loop_up (Inv := fun k M1 => Fp rsetN M M1 ∧ M1 2 13 = ((p + k : Nat) : Int) ∧ NRl (M1 2 16) (dgN t p k)) (G := fun k M1 => A m7_scanNumber 2 0 0 [(17, ((2 : Nat) : Int))] [] M1 (Kd P)) (e - p) ?_ ?_ 0 M (by omega) ⟨Fp.rf, h13, by rw [h16]; unfold NRl dgN; omega⟩
  · rintro M1 ⟨hF, h13', hN⟩
    have hT1 := hT.fp hF (fun k j q => by unfold rsetN at q; omega)
    have fin : P (mset M1 2 15 2) := by
      refine h _ (hF.set ⟨rfl, Or.inr (Or.inl rfl)⟩) ?_ mset_s ?_
      · rw [mset_j (by decide), h13', show p + (e - p) = e by omega]
      · rw [mset_j (by decide)]; exact hN
    apply r_7_scanNumber_0
    rw [hT1.1, h13']
    refine ⟨fun _ => fin, fun q => ?_⟩
    apply s_at (by omega) (by omega)
    rw [Int.toNat_natCast, hT1.2.2.1 _ (by omega)]
    apply s_isDigit
    refine ⟨fun _ => fin, fun q1 => ?_⟩
    exfalso
    apply e4
    rw [show p + (e - p) = e by omega] at q1 q
    exact ⟨by omega, bi_ne q1⟩
  · rintro k M1 hk ⟨hF, h13', hN⟩ ih
    have hT1 := hT.fp hF (fun k j q => by unfold rsetN at q; omega)
    have hd := e3 (p + k) (by omega) (by omega)
    have hd' := isD_of.mp hd
    apply r_7_scanNumber_0
    rw [hT1.1, h13']
    refine ⟨fun q => by omega, fun q => ?_⟩
    apply s_at (by omega) (by omega)
    rw [Int.toNat_natCast, hT1.2.2.1 _ (by omega)]
    apply s_isDigit
    refine ⟨fun q1 => absurd hd (bi_eq q1), fun q1 => ?_⟩
    rw [h13']
    apply s_at (by omega) (by omega)
    rw [Int.toNat_natCast, hT1.2.2.1 _ (by omega), mset_j (by decide), h13', w_1 (i := p + k) (by omega)]
    have hv := hN.1
    have hv2 := hN.2.1
    have hX : w32 (w32 (w32 (M1 2 16 * 10) + t (p + k)) - 48) = M1 2 16 * 10 + (t (p + k) - 48) := by
      rw [w32_id (z := M1 2 16 * 10) (by omega) (by omega), w32_id (z := M1 2 16 * 10 + t (p + k)) (by omega) (by omega), w32_id (by omega) (by omega)]; omega
    rw [hX]
    refine ih _ ⟨(hF.set ⟨rfl, Or.inr (Or.inr rfl)⟩).set ⟨rfl, Or.inl rfl⟩, ?_, ?_⟩
    · rw [mset_s]; rfl
    · rw [mset_j (by decide), mset_s]
      exact NRl_c hN (by omega)
def rsetS (k j : Nat) : Prop := k = 2 ∧ (j = 13 ∨ j = 15 ∨ j = 17)
theorem s_scanSign {t : Nat → Int} {n p : Nat} {M : Mem} {P : Mem → Prop} (hT : TCm M t n) (hp : p < n) (h13 : M 2 13 = (p : Int))
    (h : ∀ M', Fp rsetS M M' → M' 2 13 = ((if 256 ≤ sgV (t p) (nxb t n p) then p + 2 else p + 1 : Nat) : Int) → M' 2 15 = 3 → M' 2 17 = ksg (sgV (t p) (nxb t n p)) → P M') : CD m7_scanSign 2 [(17, ((2 : Nat) : Int)), (0, t p)] M P := by
  have a1 : ((aln 1 : Nat) : Int) = 700 := by decide
  have h700 := hT.2.1
  have hbx := hT.2.2.2.1 p hp
  apply q_7_scanSign
  rw [h13, w_1 (i := p) (by omega)]
  apply s_knotOfSign (by omega)
  have g12 : ∀ v, mset (mset M 2 13 ((p + 1 : Nat) : Int)) 2 17 v 2 12 = (n : Int) := fun v => by rw [mset_j (by decide), mset_j (by decide)]; exact hT.1
  have g13 : ∀ v, mset (mset M 2 13 ((p + 1 : Nat) : Int)) 2 17 v 2 13 = ((p + 1 : Nat) : Int) := fun v => by rw [mset_j (by decide), mset_s]
  have f0 : Fp rsetS M M := Fp.rf
  have f1 : Fp rsetS M (mset (mset M 2 13 ((p + 1 : Nat) : Int)) 2 17 (ksg (t p))) := (f0.set ⟨rfl, Or.inl rfl⟩).set ⟨rfl, Or.inr (Or.inr rfl)⟩
  have leaf1 : sgV (t p) (nxb t n p) = t p → P (mset (mset (mset M 2 13 ((p + 1 : Nat) : Int)) 2 17 (ksg (t p))) 2 15 3) := fun e => by
    refine h _ (f1.set ⟨rfl, Or.inr (Or.inl rfl)⟩) ?_ mset_s ?_
    · rw [e, if_neg (by omega), mset_j (by decide), g13]
    · rw [e, mset_j (by decide), mset_s]
  have leaf2 : ∀ v kv, sgV (t p) (nxb t n p) = v → 256 ≤ v → ksg v = kv → P (mset (mset (mset (mset (mset M 2 13 ((p + 1 : Nat) : Int)) 2 17 (ksg (t p))) 2 17 kv) 2 13 (w32 (mset (mset (mset M 2 13 ((p + 1 : Nat) : Int)) 2 17 (ksg (t p))) 2 17 kv 2 13 + 1))) 2 15 3) := fun v kv e hv ek => by
    refine h _ ((((f1.set ⟨rfl, Or.inr (Or.inr rfl)⟩)).set ⟨rfl, Or.inl rfl⟩).set ⟨rfl, Or.inr (Or.inl rfl)⟩) ?_ mset_s ?_
    · rw [e, if_pos hv, mset_j (by decide), mset_s, mset_j (show (13 : Nat) ≠ 17 by decide), g13, w_1 (i := p + 1) (by omega)]
    · rw [e, mset_j (by decide), mset_j (by decide), mset_s, ek]
  rw [g12, g13]
  refine ⟨fun q => ?_, fun q => ?_⟩
  · have e : nxb t n p = -1 := if_neg (by omega)
    have es : sgV (t p) (nxb t n p) = t p := by
      rw [e]; unfold sgV
      rw [if_neg (by omega), if_neg (by omega), if_neg (by omega)]
    have L := leaf1 es
    repeat' first | exact L | apply And.intro | intro _
  · have e : nxb t n p = t (p + 1) := if_pos (by omega)
    apply s_at (by omega) (by omega)
    have e1 : mset (mset M 2 13 ((p + 1 : Nat) : Int)) 2 17 (ksg (t p)) 1 ((p + 1 : Nat) : Int).toNat = t (p + 1) := by
      rw [mset_k (by decide), mset_k (by decide), Int.toNat_natCast]; exact hT.2.2.1 _ (by omega)
    rw [e1]
    rw [e] at leaf1 leaf2
    repeat' first | apply And.intro | intro _
    all_goals first
      | (refine leaf1 ?_; unfold sgV; rw [if_neg (by omega), if_neg (by omega), if_neg (by omega)])
      | (refine leaf2 256 10014 ?_ (by omega) (by decide); unfold sgV; rw [if_pos (by omega)])
      | (refine leaf2 257 10016 ?_ (by omega) (by decide); unfold sgV; rw [if_neg (by omega), if_pos (by omega)])
      | (refine leaf2 258 10017 ?_ (by omega) (by decide); unfold sgV; rw [if_neg (by omega), if_neg (by omega), if_pos (by omega)])
      | (exfalso; omega)
