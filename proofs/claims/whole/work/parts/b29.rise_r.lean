/-! the reference: rise's line, a fact's line -/
theorem mset_self {M : Mem} {k j : Nat} {v : Int} (h : M k j = v) : mset M k j v = M := by
  funext k' j'
  unfold mset
  split
  · next q => rw [q.1, q.2]; exact h.symm
  · rfl
theorem s_risR (hWR : WordR) {t : Nat → Int} {n : Nat} {L : LnS} {M : Mem} {P : Mem → Prop} (hK : K0 M t n (L.1 0)) (hD : LRd M L) (hz : szL L) (h6 : L.1 6 = 0)
    (hok : ∀ L', risF t n L = .inl L' → ∀ M', Fp lnR M M' → K0 M' t n (L'.1 0) → LRd M' L' → P M') (hbad : ∀ f pl, risF t n L = .inr (f, pl) → f ≠ 0 → ∀ M', Fp lnR M M' → RB M' f pl → P M') : A m11_line 901 0 118 [(20, ((59 : Nat) : Int)), (0, ((5 : Nat) : Int)), (2, 0), (2, 0)] [] M (Kd P) := by
  obtain ⟨z1, z2, z3, z7, z8, zl⟩ := hz
  unfold risF at hok hbad
  rw [if_neg (by omega)] at hok hbad
  apply r_11_line_118
  refine ⟨fun _ => ?_, fun q => absurd hK.2.2.1 q⟩
  refine s_told hWR (w := 5) hK hD ⟨z1, z2, z3, z7, z8, zl⟩ (by omega) ?_
  intro M5 hF5 hK5 hD5 hT5
  generalize tkE t n (L.1 0) = c1 at hok hbad hK5
  refine ⟨fun z => absurd z (by decide), fun z => absurd z (by decide), fun z => absurd z (by decide), fun z => absurd z (by decide), fun z => absurd z (by decide), fun _ => ?_⟩
  have hT5' : TD M5 (L.1 4) 1 := by simpa using hT5
  have hDx := hD5
  obtain ⟨⟨r1, r2, r3, r4, r5⟩, d17, d61, d62, d63, d64, dn, dq, df, dr, dF⟩ := hD5
  refine s_fresherW (w := 4) (v := (L.2.2.2.length : Int)) (by omega) r4 ?_
  have fx : Fp (fun k j => k = 65 ∧ j = 11) M5 (mset M5 65 11 (L.2.2.2.length : Int)) := Fp.rf.set ⟨rfl, rfl⟩
  obtain ⟨k1, k2, k3, k4⟩ := hK5
  have hK7 : K0 (mset M5 65 11 (L.2.2.2.length : Int)) t n c1 := ⟨k1.fp fx (fun k j q => by omega), k2.fp fx (fun j _ _ => by omega), by rw [mset_k (by decide)]; exact k3, k4⟩
  have hF7 : Fp lnR M (mset M5 65 11 (L.2.2.2.length : Int)) := hF5.tr (fx.mono (fun k j q => by unfold lnR; omega))
  have g65 : mset M5 65 11 (L.2.2.2.length : Int) 65 (6 + 5) = (L.2.2.2.length : Int) := mset_s
  have h617 : mset M5 65 11 (L.2.2.2.length : Int) 61 7 = (L.1 3 : Int) := by rw [mset_k (by decide)]; exact d63
  have hT7 : TD (mset M5 65 11 (L.2.2.2.length : Int)) (L.1 4) 1 := hT5'.fp fx (by omega)
  have eR : ∀ k, k ≠ 65 → mset M5 65 11 (L.2.2.2.length : Int) k = M5 k := fun k q => fx.row (fun j => by omega)
  have e65 : ∀ j, j ≠ 11 → mset M5 65 11 (L.2.2.2.length : Int) 65 j = M5 65 j := fun j q => fx 65 j (by omega)
  generalize mset M5 65 11 (L.2.2.2.length : Int) = M7 at hK7 hF7 g65 h617 hT7 eR e65
  refine s_forR hWR (f := 5) (L := LSmk (udg L.1 6 1) L.2.1 L.2.2.1 L.2.2.2) (P := P) (by omega) hF7 hK7 ?_ hT7 ⟨z1, by show L.1 2 ≤ 24; omega, z3, z7, by show L.1 8 < 2000; omega, zl⟩ g65 (fun _ => by show (1 : Nat) ≠ 0; decide) ?_ hok hbad
  · show LRx (mset M7 61 7 (L.1 3 : Int)) _ _
    rw [mset_self h617]
    refine ⟨⟨?_, ?_, ?_, ?_, ?_⟩, ?_, ?_, ?_, h617, ?_, ?_, ?_, ?_, ?_, ?_⟩
    · rw [eR 59 (by decide)]; exact r1
    · rw [eR 59 (by decide)]; exact r2
    · rw [eR 59 (by decide)]; exact r3
    · rw [eR 61 (by decide)]; exact r4
    · rw [eR 67 (by decide), eR 68 (by decide)]; exact r5
    · rw [eR 59 (by decide)]; exact d17
    · rw [eR 61 (by decide)]; exact d61
    · rw [eR 61 (by decide)]; exact d62
    · rw [eR 61 (by decide)]; exact d64
    · rw [eR 62 (by decide), eR 63 (by decide)]; exact dn
    · rw [eR 64 (by decide)]; exact dq
    · rw [eR 66 (by decide)]
      intro i hi hne
      have hi : i < L.1 3 ∨ (i = 5 ∧ (1 : Nat) = 1) := hi
      have hi3 : i < L.1 3 := by rcases hi with y | y; exact y; exact absurd y.1 hne
      rw [e65 (6 + i) (by omega)]
      exact df i (Or.inl hi3) (by omega)
    · intro h0
      exact absurd h0 (by show (1 : Nat) ≠ 0; decide)
    · unfold FrT
      rw [eR 69 (by decide), eR 70 (by decide), eR 71 (by decide), eR 72 (by decide), eR 73 (by decide)]; exact dF
  · intro M8 ro hF8 _ hgo
    have h8 : M8 61 7 = (L.1 3 : Int) := by rw [hF8 61 7 (by unfold exR tkset; omega)]; exact h617
    refine s_fresherW (w := 4) (v := M8 61 9) (by omega) rfl ?_
    have this : A m11_line 901 0 353 [(20, ((59 : Nat) : Int)), (2, 0), (2, 0), (2, 0)] [] (mset (mset M8 66 (6 + 5) (M8 61 9)) 61 7 (L.1 3 : Int)) (Kd P) := hgo _ rfl
    rw [mset_self (show mset M8 66 (6 + 5) (M8 61 9) 61 7 = (L.1 3 : Int) by rw [mset_k (by decide)]; exact h8)] at this
    exact this
theorem s_isWord6 {t : Nat → Int} {n c : Nat} {w : Int} {M : Mem} {P : Int → Mem → Prop} (hK : K0 M t n c) (h : P (bi (tkS t n c = 0 ∧ tkV t n c = w)) M) : CI m11_isWord 1 [(20, ((59 : Nat) : Int)), (0, w)] M P := by
  have k := hK.2.1
  apply q_11_isWord
  refine ⟨fun q => absurd hK.2.2.1 q, fun _ => ⟨fun q => ?_, fun q => ⟨fun q1 => ?_, fun q1 => ?_⟩⟩⟩
  · rwa [bi_f (fun z => q (by rw [k.2.2.1, z.1]; rfl))] at h
  · have s0 : tkS t n c = 0 := by have := k.2.2.1; omega
    rw [k.2.2.2.1 (Or.inl s0)] at q1
    rwa [bi_f (fun z => q1 z.2)] at h
  · have s0 : tkS t n c = 0 := by have := k.2.2.1; omega
    rw [k.2.2.2.1 (Or.inl s0)] at q1
    rwa [bi_t ⟨s0, q1⟩] at h
theorem f_69 {x1 x2 x3 x4 x5 : Int} {M : Mem} {P : Mem → Prop} (h : M 59 23 ≠ 0) (hp : P M) : A m11_factLine 5 0 69 [(20, ((59 : Nat) : Int)), (0, x1), (0, x2), (0, x3), (0, x4), (0, x5)] [] M (Kd P) := by
  apply r_11_factLine_69
  exact ⟨fun q => absurd q h, fun _ => hp⟩
theorem f_37 {x1 x2 x3 x4 : Int} {M : Mem} {P : Mem → Prop} (h : M 59 23 ≠ 0) (hp : P M) : A m11_factLine 5 0 37 [(20, ((59 : Nat) : Int)), (0, x1), (0, x2), (0, x3), (0, x4), (2, 0)] [] M (Kd P) := by
  apply r_11_factLine_37
  apply f_goOn h
  exact ⟨fun _ => f_69 h hp, fun _ => f_isWord h ⟨fun _ => f_69 h hp, fun q => absurd rfl q⟩⟩
