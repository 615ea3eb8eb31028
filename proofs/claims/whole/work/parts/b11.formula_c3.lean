/-! the class's Reader: an E as a whole -/
/-- the knots that are laid, of all E -/
def FMc (M : Mem) (kn : Nat) (out : List Int) : Prop := M 9 5 = (kn : Int) ∧ M 9 4 = (out.length : Int) ∧ ∀ i, i < out.length → M 10 i = out.getD i 0
def exG (f k j : Nat) : Prop := exF k j ∨ (k = 11 ∧ j = f) ∨ (k = 12 ∧ j = f)
def z0E (c kn : Nat) (out : List Int) : Zs := Zmk c true [] 0 kn out
def outE (z : Zs) : List Int := z.2.2.2.2.2 ++ popd 1 z.2.2.1
theorem s_readFormula {c kn f : Nat} {out : List Int} {t : Nat → Int} {n : Nat} {M : Mem} {P : Int → Mem → Prop} (hT : TCm M t n) (hc : c ≤ n) (hK : KC M t n c) (h3 : M 2 3 = 0) (hF0 : FMc M kn out) (hk : kn ≤ 64) (hlen : out.length = kn) (hf : f < 6)
    (hok : ∀ z', EZ t n (z0E c kn out) = .inl z' → ZI n out z' → stepZ t n z' = .inl none → ∀ M', Fp (exG f) M M' → KC M' t n z'.1 → M' 2 3 = 0 → FMc M' z'.2.2.2.2.1 (outE z') → M' 11 f = (out.length : Int) → M' 12 f = ((outE z').length : Int) → P 1 M')
    (hbad : ∀ k pl, EZ t n (z0E c kn out) = .inr (k, pl) → k ≠ 0 → ∀ M', Fp (exG f) M M' → M' 2 3 = (k : Int) → M' 2 4 = (pl : Int) → P 0 M') : CI m7_readFormula 5 [(17, ((2 : Nat) : Int)), (0, (f : Int))] M P := by
  have a11 : ((aln (9 + 2) : Nat) : Int) = 6 := by decide
  have a12 : ((aln (9 + 3) : Nat) : Int) = 6 := by decide
  obtain ⟨f1, f2, f3⟩ := hF0
  apply q_7_readFormula
  apply q_3_begin
  have g94 : mset (mset (mset M 2 8 0) 2 9 0) 2 10 1 9 4 = (out.length : Int) := by rw [mset_k (by decide), mset_k (by decide), mset_k (by decide)]; exact f2
  rw [g94]
  apply s_put (by omega) (by omega)
  rw [Int.toNat_natCast]
  have fb : Fp (fun k j => (k = 2 ∧ (j = 8 ∨ j = 9 ∨ j = 10)) ∨ (k = 11 ∧ j = f)) M (mset (mset (mset (mset M 2 8 0) 2 9 0) 2 10 1) (9 + 2) f (out.length : Int)) :=
    (((Fp.rf.set (Or.inl ⟨rfl, Or.inl rfl⟩)).set (Or.inl ⟨rfl, Or.inr (Or.inl rfl)⟩)).set (Or.inl ⟨rfl, Or.inr (Or.inr rfl)⟩)).set (Or.inr ⟨rfl, rfl⟩)
  have c10 : mset (mset (mset (mset M 2 8 0) 2 9 0) 2 10 1) (9 + 2) f (out.length : Int) 2 10 = 1 := by rw [mset_k (by decide), mset_s]
  have c9 : mset (mset (mset (mset M 2 8 0) 2 9 0) 2 10 1) (9 + 2) f (out.length : Int) 2 9 = 0 := by rw [mset_k (by decide), mset_j (by decide), mset_s]
  have c8 : mset (mset (mset (mset M 2 8 0) 2 9 0) 2 10 1) (9 + 2) f (out.length : Int) 2 8 = 0 := by rw [mset_k (by decide), mset_j (by decide), mset_j (by decide), mset_s]
  have c11 : mset (mset (mset (mset M 2 8 0) 2 9 0) 2 10 1) (9 + 2) f (out.length : Int) 11 f = (out.length : Int) := mset_s
  generalize mset (mset (mset (mset M 2 8 0) 2 9 0) 2 10 1) (9 + 2) f (out.length : Int) = M1 at fb c10 c9 c8 c11
  have hT1 := hT.fp fb (fun k j q => by omega)
  have hK1 := hK.fp fb (fun j h1 h2 => by omega)
  have hC1 : CYz M1 (z0E c kn out) := by
    refine ⟨?_, c10, c8, fun i hi => absurd hi (Nat.not_lt_zero i), c9, ?_, ?_, ?_⟩
    · rw [fb 2 3 (by omega)]; exact h3
    · rw [fb 9 5 (by omega)]; exact f1
    · rw [fb 9 4 (by omega)]; exact f2
    · intro i hi; rw [fb 10 i (by omega)]; exact f3 i hi
  have hZ1 : ZI n out (z0E c kn out) := ⟨hc, hk, by show 0 ≤ 8; omega, rfl, fun x hx => (by cases hx), by show out.length + 0 = kn; omega, [], by show out = out ++ []; rw [List.append_nil], rfl⟩
  refine s_loopE (base := out) (z0 := z0E c kn out) hT1 ?_ ?_ 0 (z0E c kn out) M1 (Nat.zero_le _) ⟨Fp.rf, hK1, hC1, hZ1, rfl, Nat.zero_le _⟩
  · intro z' e hZ hs M2 hF2 hK2 hC2
    obtain ⟨e1, e2, e3, e4, seg, e5, e6⟩ := E_fin hZ hs
    obtain ⟨o1, o2, o3, o4, o5, o6, _⟩ := hZ
    have hlW := len_OP z'.2.2.1
    apply q_7_layWaiting
    refine s_layWaiting (Nat.le_refl 1) z'.2.2.1 z'.2.2.2.2.2 M2 _ hC2 (by omega) (by omega) ?_
    intro M3 hF3 hC3
    obtain ⟨d1, d2, d3, d4, d5, d6, d7, d8⟩ := hC3
    apply q_3_end
    rw [d7]
    apply s_put (by omega) (by omega)
    rw [Int.toNat_natCast]
    have hFx : Fp exF M1 M3 := hF2.tr (hF3.mono (fun k j q => Or.inl q))
    refine hok z' e ⟨o1, o2, o3, o4, o5, o6, ‹_›⟩ hs _ (((fb.mono (fun k j q => by unfold exG exF exC; omega) : Fp (exG f) M M1).tr (hFx.mono (fun k j q => Or.inl q))).set (Or.inr (Or.inr ⟨rfl, rfl⟩))) ?_ ?_ ⟨?_, ?_, ?_⟩ ?_ mset_s
    · exact (exC_kc hK2 hF3).fp (q := fun k _ => k = 12) (Fp.rf.set rfl) (fun j _ _ => by decide)
    · rw [mset_k (by decide)]; exact d1
    · rw [mset_k (by decide)]; exact d6
    · rw [mset_k (by decide)]; exact d7
    · intro i hi; rw [mset_k (by decide)]; exact d8 i hi
    · rw [mset_k (by decide), hFx 11 f (by unfold exF exC rdset; omega)]; exact c11
  · intro k pl e hk0 M2 hF2 h23 h24
    exact hbad k pl e hk0 M2 ((fb.mono (fun k j q => by unfold exG exF exC; omega) : Fp (exG f) M M1).tr (hF2.mono (fun k j q => Or.inl q))) h23 h24
