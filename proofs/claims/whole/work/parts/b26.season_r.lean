/-! the reference: a season's line, an E in a line -/
theorem s_seaR (hWR : WordR) {t : Nat → Int} {n : Nat} {L : LnS} {M : Mem} {P : Mem → Prop} (hK : K0 M t n (L.1 0)) (hD : LRd M L) (hz : szL L) (h4 : L.1 4 = 0)
    (hok : ∀ L', seaF t n L = .inl L' → ∀ M', Fp lnR M M' → K0 M' t n (L'.1 0) → LRd M' L' → P M') (hbad : ∀ f pl, seaF t n L = .inr (f, pl) → f ≠ 0 → ∀ M', Fp lnR M M' → RB M' f pl → P M') : A m11_line 901 0 118 [(20, ((59 : Nat) : Int)), (0, ((4 : Nat) : Int)), (2, 0), (2, 0)] [] M (Kd P) := by
  obtain ⟨z1, z2, z3, z7, z8, zl⟩ := hz
  unfold seaF at hok hbad
  rw [if_neg (by omega)] at hok hbad
  apply r_11_line_118
  refine ⟨fun _ => ?_, fun q => absurd hK.2.2.1 q⟩
  refine s_told hWR (w := 4) hK hD ⟨z1, z2, z3, z7, z8, zl⟩ (by omega) ?_
  intro M5 hF5 hK5 hD5 hT5
  generalize tkE t n (L.1 0) = c1 at hok hbad hK5
  refine ⟨fun z => absurd z (by decide), fun z => absurd z (by decide), fun z => absurd z (by decide), fun z => absurd z (by decide), fun _ => ?_, fun z => absurd z (by decide)⟩
  apply s_numeral hWR hK5 (by omega)
  · intro e0 hv M6 hF6 hK6
    rw [if_neg (fun z => z e0)] at hok hbad
    generalize tkE t n c1 = c2 at hok hbad hK6
    have hD6 := hD5.fp hF6 (fun k j q => Or.inl q) (by omega) z1 (by omega) z3
    have hT6 := hT5.fp hF6 (by unfold tkset; omega)
    have fx : Fp (fun k j => k = 61 ∧ j = 8) M6 (mset M6 61 8 (tkV t n c1)) := Fp.rf.set ⟨rfl, rfl⟩
    obtain ⟨m1, m2, m3, m4⟩ := hK6
    have hKf : K0 (mset M6 61 8 (tkV t n c1)) t n c2 := ⟨m1.fp fx (fun k j q => by omega), m2.fp fx (fun j _ _ => by omega), by rw [mset_k (by decide)]; exact m3, m4⟩
    have hFf : Fp lnR M (mset M6 61 8 (tkV t n c1)) := (hF5.tr (hF6.mono (fun k j q => tk_lnR q))).tr (fx.mono (fun k j q => by unfold lnR; omega))
    have eR : ∀ k, k ≠ 61 → mset M6 61 8 (tkV t n c1) k = M6 k := fun k hk => fx.row (fun j => by omega)
    have e61 : ∀ j, j ≠ 8 → mset M6 61 8 (tkV t n c1) 61 j = M6 61 j := fun j hj => fx 61 j (by omega)
    obtain ⟨⟨r1, r2, r3, r4, r5⟩, d17, d61, d62, d63, d64, dn, dq, df, dr, dF⟩ := hD6
    refine s_endR hWR (L := LSmk (udg (udg L.1 4 1) 5 (tkV t n c1).toNat) L.2.1 L.2.2.1 L.2.2.2) hKf ⟨⟨⟨?_, ?_, ?_, ?_, ?_⟩, ?_, ?_, ?_, ?_, ?_, ?_, ?_, ?_, ?_, ?_⟩, ?_⟩ ⟨z1, by show L.1 2 ≤ 24; omega, z3, by show L.1 8 < 2000; omega, by show L.2.2.2.length ≤ 64; omega⟩ (fun L' e M' hF hK' hD' => hok L' e M' (hFf.tr hF) hK' hD') (fun f pl e hf M' hF hB => hbad f pl e hf M' (hFf.tr hF) hB)
    · rw [eR 59 (by decide)]; exact r1
    · rw [eR 59 (by decide)]; exact r2
    · rw [eR 59 (by decide)]; exact r3
    · rw [e61 9 (by decide)]; exact r4
    · rw [eR 67 (by decide), eR 68 (by decide)]; exact r5
    · rw [eR 59 (by decide)]; exact d17
    · rw [e61 5 (by decide)]; exact d61
    · rw [e61 6 (by decide)]; exact d62
    · rw [e61 7 (by decide)]; exact d63
    · rw [mset_s]
      show _ = ((udg (udg L.1 4 1) 5 (tkV t n c1).toNat 5 : Nat) : Int)
      rw [udg_s]; omega
    · rw [eR 62 (by decide), eR 63 (by decide)]; exact dn
    · rw [eR 64 (by decide)]; exact dq
    · rw [eR 65 (by decide), eR 66 (by decide)]; exact df
    · rw [eR 65 (by decide), eR 66 (by decide)]; exact dr
    · unfold FrT
      rw [eR 69 (by decide), eR 70 (by decide), eR 71 (by decide), eR 72 (by decide), eR 73 (by decide)]; exact dF
    · exact hT6.fp fx (by omega)
  · intro e0 M6 hF6 hB6
    rw [if_pos e0] at hbad
    have fx : Fp (fun k j => k = 61 ∧ j = 8) M6 (mset M6 61 8 0) := Fp.rf.set ⟨rfl, rfl⟩
    have hB7 := hB6.fp fx (by omega)
    exact f_353 (hB7.ne e0) (hbad _ _ rfl e0 _ ((hF5.tr (hF6.mono (fun k j q => wr_lnR q))).tr (fx.mono (fun k j q => by unfold lnR; omega))) hB7)
