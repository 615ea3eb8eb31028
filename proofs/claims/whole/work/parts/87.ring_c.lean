/-! ring, of the class -/
def rngV (pp nf : Nat) (s : Int) (F : FTab) (a b k : Int) : Int :=
  if isTwo pp a b ∧ -1 ≤ k then
    (if lys (ob F (lvl F nf) s nf) pp b.toNat (pp - 1) a.toNat = -1 then -2
     else if lys (ob F (lvl F nf) s nf) pp b.toNat (pp - 1) a.toNat < k then -2
     else if k = -1 then lys (ob F (lvl F nf) s nf) pp b.toNat (pp - 1) a.toNat + 1
     else (wlk (ob F (lvl F nf) s nf) (lys (ob F (lvl F nf) s nf) pp b.toNat (pp - 1)) pp k.toNat a.toNat : Int))
  else -1
theorem s_ring {pp n nf : Nat} {s : Int} {F : FTab} {ag C : Nat → Int} {Bg E : Nat → Nat} {M : Mem} {P : Int → Mem → Prop} {a b k : Int} (hS : SC M pp n s nf F ag C Bg E) (hf : SF pp s nf F)
    (h : ∀ M', Fp csp M M' → P (rngV pp nf s F a b k) M') : CI m10_ring 4 [(19, ((0 : Nat) : Int)), (0, a), (0, b), (0, k)] M P := by
  have h5 := hf.1
  unfold rngV at h
  have no : ¬ (isTwo pp a b ∧ -1 ≤ k) → P (-1) M := fun q => by have := h M Fp.rf; rwa [if_neg q] at this
  apply q_10_ring
  apply s_areTwo hS.1
  refine ⟨fun q => no (fun z => bi_eq q z.1), fun q => ⟨fun q1 => ?_, fun q1 => no (fun z => by omega)⟩⟩
  rw [if_pos ⟨bi_ne q, q1⟩] at h
  obtain ⟨a', b', rfl, rfl, ha, hb, _⟩ := two_nat (bi_ne q)
  simp only [Int.toNat_natCast] at h
  rw [hS.1, hS.2.1]
  apply s_buildS hS hf
  intro M1 hF1 hp1 _ hr _
  apply s_stepsDown isO34 h5 hp1 ha hb hr
  intro M2 hF2 hst
  have hF3 : Fp csp M M2 := hF1.tr (hF2.cs (fun k hk => by unfold cs; omega))
  have h2 := h M2 hF3
  have hbd := lys_bd (L := ob F (lvl F nf) s nf) (pp := pp) (b := b') (pp - 1) a'
  refine ⟨fun z => ?_, fun z => ⟨fun z1 => ⟨fun z2 => ?_, fun z2 => ?_⟩, fun z1 => ?_⟩⟩
  · rwa [if_pos z] at h2
  · rw [if_neg z, if_neg (by omega), if_neg z2] at h2
    obtain ⟨k', rfl⟩ : ∃ k' : Nat, k = (k' : Int) := ⟨k.toNat, by omega⟩
    rw [Int.toNat_natCast] at h2
    obtain ⟨d, hd⟩ : ∃ d : Nat, lys (ob F (lvl F nf) s nf) pp b' (pp - 1) a' = (d : Int) := ⟨(lys (ob F (lvl F nf) s nf) pp b' (pp - 1) a').toNat, by omega⟩
    exact s_onTheWay isO34 h5 (by rw [hF2 34 (by decide)]; exact hp1) ha hb (fun p hp => by rw [hF2 36 (by decide)]; exact hr p hp) hst hd (by omega) (by omega) h2
  · rw [if_neg z, if_neg (by omega), if_pos z2] at h2
    rw [w32_id (by omega) (by omega)]
    exact h2
  · rwa [if_neg z, if_pos z1] at h2
