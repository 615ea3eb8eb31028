/-! what holds between the class and the reference, before every call -/
def TI (M : Mem) : Prop := ∃ (t : Nat → Int) (T : Nat), TPc M t T ∧ TPr M t T
def FI (M : Mem) : Prop := M 2 3 = M 59 25 ∧ M 2 4 = M 59 26
def GI (M : Mem) : Prop := LGc M ∧ TB M
def NI (M : Mem) (pp n : Nat) : Prop := (∀ j, j < pp → M 22 j = M 62 j) ∧ ∀ j, j < n → M 24 j = M 64 j
def KI (M : Mem) : Prop := ∃ kn : Nat, M 25 5 = (kn : Int) ∧ M 61 4 = (kn : Int)
def RI (M : Mem) (C : Nat → Int) (Bg E : Nat → Nat) : Prop := ∃ rt : Bool, RTC M rt C Bg E ∧ RTR M rt C Bg E
def HI (M : Mem) (pp n : Nat) (ag C : Nat → Int) (Bg E : Nat → Nat) : Prop := ∃ (nh : Nat) (kb : Int) (H : FTab), MC M n ag C Bg E nh kb H ∧ MRf M nh kb H ∧ MH pp n nh kb H ∧ OI M pp n nh ag C Bg E H
def II (M : Mem) (pp : Nat) : Prop := ∃ (kp is : Int) (nif : Nat) (IF : FTab), ICl M kp is nif IF ∧ IRf M kp is nif IF ∧ (kp ≠ 0 → SF pp is nif IF)
def CX (M : Mem) (pp n nf : Nat) (s : Int) (F : FTab) (ag C : Nat → Int) (Bg E : Nat → Nat) : Prop :=
  SC M pp n s nf F ag C Bg E ∧ SR M pp n s nf F ag C Bg E ∧ SF pp s nf F ∧ NI M pp n ∧ KI M ∧ RI M C Bg E ∧ HI M pp n ag C Bg E ∧ II M pp
def CO (M : Mem) : Prop := GI M ∧ ∃ (pp n nf : Nat) (s : Int) (F : FTab) (ag C : Nat → Int) (Bg E : Nat → Nat), CX M pp n nf s F ag C Bg E
def INV (M : Mem) : Prop := TI M ∧ FI M ∧ CO M
/-! what each of them looks at -/
def vT (k j : Nat) : Prop := (k = 0 ∧ j = 1) ∨ k = 1 ∨ (k = 59 ∧ j = 2) ∨ k = 60
def vF (k j : Nat) : Prop := (k = 2 ∧ (j = 3 ∨ j = 4)) ∨ (k = 59 ∧ (j = 25 ∨ j = 26))
def vG (k _j : Nat) : Prop := k = 3 ∨ (94 ≤ k ∧ k ≤ 96)
def vC (k j : Nat) : Prop := (k = 0 ∧ j = 5) ∨ (21 ≤ k ∧ k ≤ 28) ∨ k = 30 ∨ k = 31
def vRf (k j : Nat) : Prop := (k = 59 ∧ (j = 31 ∨ j = 32)) ∨ (k = 61 ∧ j < 5) ∨ (62 ≤ k ∧ k ≤ 64 ∧ j < 5) ∨ ((k = 65 ∨ k = 66) ∧ j < 6) ∨ ((k = 67 ∨ k = 68) ∧ j < 64) ∨ (69 ≤ k ∧ k ≤ 73 ∧ j < 24)
def vB (k j : Nat) : Prop := (21 ≤ k ∧ k ≤ 28) ∨ (k = 61 ∧ j < 5) ∨ (62 ≤ k ∧ k ≤ 64 ∧ j < 5) ∨ ((k = 65 ∨ k = 66) ∧ j < 6) ∨ ((k = 67 ∨ k = 68) ∧ j < 64)
def vH (k j : Nat) : Prop := (43 ≤ k ∧ k ≤ 51) ∨ (k = 59 ∧ (j = 46 ∨ j = 47)) ∨ (82 ≤ k ∧ k ≤ 86)
def vI (k j : Nat) : Prop := (k = 0 ∧ (j = 7 ∨ j = 8)) ∨ k = 32 ∨ k = 33 ∨ (k = 59 ∧ 33 ≤ j ∧ j ≤ 35) ∨ (69 ≤ k ∧ k ≤ 73 ∧ 48 ≤ j)
section
variable {M M' : Mem} {t : Nat → Nat → Prop} {pp n nf : Nat} {s : Int} {F : FTab} {ag C : Nat → Int} {Bg E : Nat → Nat}
theorem TI.fp (h : TI M) (hF : Fp t M M') (ht : ∀ k j, t k j → ¬ vT k j) : TI M' := by
  obtain ⟨u, T, ⟨a1, a2, a3, a4⟩, b1, b2⟩ := h
  have e : ∀ k j, vT k j → M' k j = M k j := fun k j hk => hF k j (fun q => ht k j q hk)
  refine ⟨u, T, ⟨?_, a2, fun j hj => ?_, a4⟩, ?_, fun j hj => ?_⟩
  · rw [e 0 1 (by unfold vT; omega)]; exact a1
  · rw [e 1 j (by unfold vT; omega)]; exact a3 j hj
  · rw [e 59 2 (by unfold vT; omega)]; exact b1
  · rw [e 60 j (by unfold vT; omega)]; exact b2 j hj
theorem FI.fp (h : FI M) (hF : Fp t M M') (ht : ∀ k j, t k j → ¬ vF k j) : FI M' := by
  have e : ∀ k j, vF k j → M' k j = M k j := fun k j hk => hF k j (fun q => ht k j q hk)
  unfold FI
  rw [e 2 3 (by unfold vF; omega), e 2 4 (by unfold vF; omega), e 59 25 (by unfold vF; omega), e 59 26 (by unfold vF; omega)]
  exact h
theorem GI.fp (h : GI M) (hF : Fp t M M') (ht : ∀ k j, t k j → ¬ vG k j) : GI M' := by
  have e : ∀ k, (k = 3 ∨ (94 ≤ k ∧ k ≤ 96)) → M' k = M k := fun k hk => hF.row (fun j q => ht k j q hk)
  unfold GI LGc TB
  rw [e 3 (by omega), e 94 (by omega), e 95 (by omega), e 96 (by omega)]
  exact h
theorem SC.fv (h : SC M pp n s nf F ag C Bg E) (hF : Fp t M M') (ht : ∀ k j, t k j → ¬ vC k j) : SC M' pp n s nf F ag C Bg E :=
  h.fq hF (fun k j q => by have := ht k j q; unfold vC at this; omega)
theorem SR.fv (h : SR M pp n s nf F ag C Bg E) (hf : SF pp s nf F) (hF : Fp t M M') (ht : ∀ k j, t k j → ¬ vRf k j) : SR M' pp n s nf F ag C Bg E := by
  have e : ∀ k j, vRf k j → M' k j = M k j := fun k j hk => hF k j (fun q => ht k j q hk)
  obtain ⟨h1, h2, ⟨r1, r2, r3, r4, r5, r6⟩, h4, h5, h6⟩ := h
  have hpp := hf.1
  have hnf := hf.2.2.1
  refine ⟨?_, ?_, ⟨r1, ?_, fun j hj => ?_, fun j hj => ?_, fun j hj i hi1 hi2 => ?_, r6⟩, fun j hj => ?_, ?_, fun i hi c hc => ?_⟩
  · rw [e 61 0 (by unfold vRf; omega)]; exact h1
  · rw [e 59 32 (by unfold vRf; omega)]; exact h2
  · rw [e 61 2 (by unfold vRf; omega)]; exact r2
  · rw [e 65 j (by unfold vRf; omega)]; exact r3 j hj
  · rw [e 66 j (by unfold vRf; omega)]; exact r4 j hj
  · have := (r6 j hj).2.1
    rw [e 67 i (by unfold vRf; omega), e 68 i (by unfold vRf; omega)]; exact r5 j hj i hi1 hi2
  · rw [e 63 j (by unfold vRf; omega)]; exact h4 j hj
  · rw [e 59 31 (by unfold vRf; omega)]; exact h5
  · have : FrT M' 0 i c = FrT M 0 i c := by
      unfold FrT
      rw [e 69 (0 + i) (by unfold vRf; omega), e 70 (0 + i) (by unfold vRf; omega), e 71 (0 + i) (by unfold vRf; omega), e 72 (0 + i) (by unfold vRf; omega), e 73 (0 + i) (by unfold vRf; omega)]
    rw [this]; exact h6 i hi c hc
theorem NI.fp (h : NI M pp n) (h5 : pp ≤ 5) (hn : n < 6) (hF : Fp t M M') (ht : ∀ k j, t k j → ¬ vB k j) : NI M' pp n := by
  have e : ∀ k j, vB k j → M' k j = M k j := fun k j hk => hF k j (fun q => ht k j q hk)
  refine ⟨fun j hj => ?_, fun j hj => ?_⟩
  · rw [e 22 j (by unfold vB; omega), e 62 j (by unfold vB; omega)]; exact h.1 j hj
  · rw [e 24 j (by unfold vB; omega), e 64 j (by unfold vB; omega)]; exact h.2 j hj
theorem KI.fp (h : KI M) (hF : Fp t M M') (ht : ∀ k j, t k j → ¬ vB k j) : KI M' := by
  have e : ∀ k j, vB k j → M' k j = M k j := fun k j hk => hF k j (fun q => ht k j q hk)
  obtain ⟨kn, h1, h2⟩ := h
  exact ⟨kn, by rw [e 25 5 (by unfold vB; omega)]; exact h1, by rw [e 61 4 (by unfold vB; omega)]; exact h2⟩
theorem RI.fp (h : RI M C Bg E) (hF : Fp t M M') (ht : ∀ k j, t k j → ¬ vB k j) : RI M' C Bg E := by
  have e : ∀ k j, vB k j → M' k j = M k j := fun k j hk => hF k j (fun q => ht k j q hk)
  obtain ⟨rt, ⟨h1, h2⟩, h3, h4⟩ := h
  refine ⟨rt, ⟨?_, fun q => ?_⟩, fun q => ?_, fun q => ?_⟩
  · rw [e 21 8 (by unfold vB; omega)]; exact h1
  · rw [e 27 5 (by unfold vB; omega), e 28 5 (by unfold vB; omega)]; exact h2 q
  · rw [e 66 5 (by unfold vB; omega), e 65 5 (by unfold vB; omega)]; exact h3 q
  · obtain ⟨g1, g2, g3, g4⟩ := h4 q
    refine ⟨?_, ?_, g3, fun i hi1 hi2 => ?_⟩
    · rw [e 65 5 (by unfold vB; omega)]; exact g1
    · rw [e 66 5 (by unfold vB; omega)]; exact g2
    · have := g3.2.1
      rw [e 67 i (by unfold vB; omega), e 68 i (by unfold vB; omega)]; exact g4 i hi1 hi2
theorem HI.fp (h : HI M pp n ag C Bg E) (hF : Fp t M M') (ht : ∀ k j, t k j → ¬ vH k j) : HI M' pp n ag C Bg E := by
  obtain ⟨nh, kb, H, h1, h2, h3, h4⟩ := h
  have g : ∀ k j, t k j → ¬ ((43 ≤ k ∧ k ≤ 51) ∨ (k = 59 ∧ (j = 46 ∨ j = 47)) ∨ (82 ≤ k ∧ k ≤ 86)) := ht
  exact ⟨nh, kb, H, h1.fp hF (fun k j q => by have := g k j q; omega), h2.fp hF (fun k j q => by have := g k j q; omega), h3, h4.fp hF (fun k j q => by have := g k j q; omega)⟩
theorem II.fp (h : II M pp) (hF : Fp t M M') (ht : ∀ k j, t k j → ¬ vI k j) : II M' pp := by
  obtain ⟨kp, is, nif, IF, ⟨h1, h2⟩, ⟨h3, h4⟩, h5⟩ := h
  have e : ∀ k j, vI k j → M' k j = M k j := fun k j hk => hF k j (fun q => ht k j q hk)
  refine ⟨kp, is, nif, IF, ⟨?_, fun q => ?_⟩, ⟨?_, fun q => ?_⟩, h5⟩
  · rw [e 0 8 (by unfold vI; omega)]; exact h1
  · have : FcT M' 32 = FcT M 32 := by
      funext i c; unfold FcT; rw [e 33 _ (by unfold vI; omega)]
    rw [e 0 7 (by unfold vI; omega), e 32 1 (by unfold vI; omega), this]; exact h2 q
  · rw [e 59 33 (by unfold vI; omega)]; exact h3
  · have : FrT M' 48 = FrT M 48 := by
      funext i c
      unfold FrT
      rw [e 69 (48 + i) (by unfold vI; omega), e 70 (48 + i) (by unfold vI; omega), e 71 (48 + i) (by unfold vI; omega), e 72 (48 + i) (by unfold vI; omega), e 73 (48 + i) (by unfold vI; omega)]
    rw [e 59 35 (by unfold vI; omega), e 59 34 (by unfold vI; omega), this]; exact h4 q
theorem CX.fp (h : CX M pp n nf s F ag C Bg E) (hF : Fp t M M') (ht : ∀ k j, t k j → ¬ vC k j ∧ ¬ vRf k j ∧ ¬ vH k j ∧ ¬ vI k j) : CX M' pp n nf s F ag C Bg E := by
  obtain ⟨h1, h2, h3, h4, h5, h6, h7, h8⟩ := h
  have hb : ∀ k j, t k j → ¬ vB k j := fun k j q => by
    have := ht k j q
    unfold vC vRf at this
    unfold vB
    omega
  exact ⟨h1.fv hF (fun k j q => (ht k j q).1), h2.fv h3 hF (fun k j q => (ht k j q).2.1), h3, h4.fp h3.1 h1.2.2.1.2.1 hF hb, h5.fp hF hb, h6.fp hF hb, h7.fp hF (fun k j q => (ht k j q).2.2.1), h8.fp hF (fun k j q => (ht k j q).2.2.2)⟩
/-- the places in which both only work -/
def qs (k j : Nat) : Prop := csp k j ∨ rs k j ∨ k = 87 ∨ (k = 59 ∧ j = 0) ∨ k = 93
theorem CX.q (h : CX M pp n nf s F ag C Bg E) (hF : Fp qs M M') : CX M' pp n nf s F ag C Bg E := h.fp hF (fun k j q => by
  unfold qs csp cs rs at q; unfold vC vRf vH vI; omega)
theorem GI.q (h : GI M) (hF : Fp qs M M') : GI M' := h.fp hF (fun k j q => by unfold qs csp cs rs at q; unfold vG; omega)
theorem TI.q (h : TI M) (hF : Fp qs M M') : TI M' := h.fp hF (fun k j q => by unfold qs csp cs rs at q; unfold vT; omega)
theorem FI.q (h : FI M) (hF : Fp qs M M') : FI M' := h.fp hF (fun k j q => by unfold qs csp cs rs at q; unfold vF; omega)
theorem INV.q (h : INV M) (hF : Fp qs M M') : INV M' := by
  obtain ⟨h1, h2, h3, pp, n, nf, s, F, ag, C, Bg, E, h4⟩ := h
  exact ⟨h1.q hF, h2.q hF, h3.q hF, pp, n, nf, s, F, ag, C, Bg, E, h4.q hF⟩
theorem csp_q (hF : Fp csp M M') : Fp qs M M' := hF.mono (fun k j q => Or.inl q)
theorem th_q {v : Int} : Fp qs M (mset M 59 0 v) := Fp.rf.set (Or.inr (Or.inr (Or.inr (Or.inl ⟨rfl, rfl⟩))))
theorem rs_q {v : Int} (hF : Fp rs (mset M 59 0 v) M') : Fp qs M M' := th_q.tr (hF.mono (fun k j q => Or.inr (Or.inl q)))
theorem rs7_q {v : Int} (hF : Fp rs7 (mset M 59 0 v) M') : Fp qs M M' := th_q.tr (hF.mono (fun k j q => q.elim (fun z => Or.inr (Or.inl z)) (fun z => Or.inr (Or.inr (Or.inl z)))))
end
