/-! a TEXT's lines, once for both -/
/-- numbers (0 the cursor, 1 people, 2 facts, 3 parts, 4 season told, 5 the season, 6 rise told, 7 knots, 8 lines), rows (0 names, 1 ages, 2 names of parts, 3 and 4 where each E begins and ends), facts, knots -/
def LnS : Type := (Nat → Nat) × (Nat → Nat → Int) × FTab × List Int
def LSmk (v : Nat → Nat) (T : Nat → Nat → Int) (F : FTab) (o : List Int) : LnS := (v, T, F, o)
def ud2 (T : Nat → Nat → Int) (a j : Nat) (x : Int) : Nat → Nat → Int := fun a' j' => if a' = a ∧ j' = j then x else T a' j'
theorem ud2_s {T : Nat → Nat → Int} {a j : Nat} {x : Int} : ud2 T a j x a j = x := if_pos ⟨rfl, rfl⟩
theorem ud2_o {T : Nat → Nat → Int} {a j a' j' : Nat} {x : Int} (h : ¬ (a' = a ∧ j' = j)) : ud2 T a j x a' j' = T a' j' := if_neg h
def noRb (F : FTab) (n pp : Nat) : Bool := (List.range 4).all fun s => (List.range pp).all fun a => !abv F n pp (s : Int) a a
theorem noRb_iff {F : FTab} {n pp : Nat} (hF : Fin5 F n pp) : noRb F n pp = true ↔ noR F n pp := by
  unfold noRb
  rw [List.all_eq_true]
  constructor
  · intro h
    refine noR_of hF (fun s hs a ha => ?_)
    have h1 := List.all_eq_true.mp (h s (List.mem_range.mpr hs)) a (List.mem_range.mpr ha)
    cases z : abv F n pp (s : Int) a a with
    | false => rfl
    | true => rw [z] at h1; cases h1
  · intro h s hs
    rw [List.all_eq_true]
    intro a _
    rw [h (s : Int) (by omega) (by have := List.mem_range.mp hs; omega) a]; rfl
section LN
variable (t : Nat → Int) (n : Nat)
def endF (L : LnS) (c : Nat) : Sum LnS (Nat × Nat) := if kz t n c = 10032 then .inl (LSmk (udg (udg L.1 0 (tkE t n c)) 8 (L.1 8 + 1)) L.2.1 L.2.2.1 L.2.2.2) else .inr (1, tkP t n c)
def perF (L : LnS) : Sum LnS (Nat × Nat) :=
  if L.1 1 = 5 then .inr (2, tkP t n (L.1 0))
  else if tkS t n (tkE t n (L.1 0)) ≠ 1 then .inr (1, tkP t n (tkE t n (L.1 0)))
  else if fndN (L.2.1 0) (tkV t n (tkE t n (L.1 0))) (L.1 1) 0 ≠ -1 then .inr (3, tkP t n (tkE t n (L.1 0)))
  else if numF t n (tkE t n (tkE t n (L.1 0))) 99 ≠ 0 then .inr (numF t n (tkE t n (tkE t n (L.1 0))) 99, tkP t n (tkE t n (tkE t n (L.1 0))))
  else endF t n (LSmk (udg L.1 1 (L.1 1 + 1)) (ud2 (ud2 L.2.1 0 (L.1 1) (tkV t n (tkE t n (L.1 0)))) 1 (L.1 1) (tkV t n (tkE t n (tkE t n (L.1 0))))) L.2.2.1 L.2.2.2) (tkE t n (tkE t n (tkE t n (L.1 0))))
/-- a person who is named: the fault, if it isn't one -/
def pnF (L : LnS) (c : Nat) : Nat := if tkS t n c ≠ 1 then 1 else if fndN (L.2.1 0) (tkV t n c) (L.1 1) 0 = -1 then 4 else 0
def pnV (L : LnS) (c : Nat) : Int := fndN (L.2.1 0) (tkV t n c) (L.1 1) 0
def facE (L : LnS) (how sea a b : Int) (pl c : Nat) : Sum LnS (Nat × Nat) :=
  if hasF L.2.2.1 a b how sea (L.1 2) = true then .inr (3, pl)
  else if noRb (hadd L.2.2.1 (L.1 2) a b how sea 0) (L.1 2 + 1) (L.1 1) = true then endF t n (LSmk (udg L.1 2 (L.1 2 + 1)) L.2.1 (hadd L.2.2.1 (L.1 2) a b how sea 0) L.2.2.2) c
  else .inr (5, pl)
def facF (L : LnS) (how : Int) : Sum LnS (Nat × Nat) :=
  if L.1 2 = 16 then .inr (2, tkP t n (L.1 0))
  else if pnF t n L (tkE t n (L.1 0)) ≠ 0 then .inr (pnF t n L (tkE t n (L.1 0)), tkP t n (tkE t n (L.1 0)))
  else if pnF t n L (tkE t n (tkE t n (L.1 0))) ≠ 0 then .inr (pnF t n L (tkE t n (tkE t n (L.1 0))), tkP t n (tkE t n (tkE t n (L.1 0))))
  else if pnV t n L (tkE t n (L.1 0)) = pnV t n L (tkE t n (tkE t n (L.1 0))) then .inr (5, tkP t n (tkE t n (tkE t n (L.1 0))))
  else if how = 0 ∧ (tkS t n (tkE t n (tkE t n (tkE t n (L.1 0)))) = 0 ∧ tkV t n (tkE t n (tkE t n (tkE t n (L.1 0)))) = 6) then
    (if numF t n (tkE t n (tkE t n (tkE t n (tkE t n (L.1 0))))) 3 ≠ 0 then .inr (numF t n (tkE t n (tkE t n (tkE t n (tkE t n (L.1 0))))) 3, tkP t n (tkE t n (tkE t n (tkE t n (tkE t n (L.1 0))))))
     else facE t n L how (tkV t n (tkE t n (tkE t n (tkE t n (tkE t n (L.1 0)))))) (pnV t n L (tkE t n (L.1 0))) (pnV t n L (tkE t n (tkE t n (L.1 0)))) (tkP t n (tkE t n (tkE t n (L.1 0)))) (tkE t n (tkE t n (tkE t n (tkE t n (tkE t n (L.1 0)))))))
  else facE t n L how (-1) (pnV t n L (tkE t n (L.1 0))) (pnV t n L (tkE t n (tkE t n (L.1 0)))) (tkP t n (tkE t n (tkE t n (L.1 0)))) (tkE t n (tkE t n (tkE t n (L.1 0))))
/-- an E for the formula f behind c -/
def forF (L : LnS) (f c : Nat) : Sum LnS (Nat × Nat) := match EZ t n (z0E c (L.1 7) L.2.2.2) with
  | .inr q => .inr q
  | .inl z => endF t n (LSmk (udg L.1 7 z.2.2.2.2.1) (ud2 (ud2 L.2.1 3 f (L.2.2.2.length : Int)) 4 f ((outE z).length : Int)) L.2.2.1 (outE z)) z.1
def parF (L : LnS) : Sum LnS (Nat × Nat) :=
  if L.1 3 = 5 then .inr (2, tkP t n (L.1 0))
  else if tkS t n (tkE t n (L.1 0)) ≠ 1 then .inr (1, tkP t n (tkE t n (L.1 0)))
  else if fndN (L.2.1 2) (tkV t n (tkE t n (L.1 0))) (L.1 3) 0 ≠ -1 then .inr (3, tkP t n (tkE t n (L.1 0)))
  else forF t n (LSmk (udg L.1 3 (L.1 3 + 1)) (ud2 L.2.1 2 (L.1 3) (tkV t n (tkE t n (L.1 0)))) L.2.2.1 L.2.2.2) (L.1 3) (tkE t n (tkE t n (L.1 0)))
def seaF (L : LnS) : Sum LnS (Nat × Nat) :=
  if L.1 4 ≠ 0 then .inr (3, tkP t n (L.1 0))
  else if numF t n (tkE t n (L.1 0)) 3 ≠ 0 then .inr (numF t n (tkE t n (L.1 0)) 3, tkP t n (tkE t n (L.1 0)))
  else endF t n (LSmk (udg (udg L.1 4 1) 5 (tkV t n (tkE t n (L.1 0))).toNat) L.2.1 L.2.2.1 L.2.2.2) (tkE t n (tkE t n (L.1 0)))
def risF (L : LnS) : Sum LnS (Nat × Nat) :=
  if L.1 6 ≠ 0 then .inr (3, tkP t n (L.1 0))
  else forF t n (LSmk (udg L.1 6 1) L.2.1 L.2.2.1 L.2.2.2) 5 (tkE t n (L.1 0))
/-- one line -/
def lnF (L : LnS) : Sum LnS (Nat × Nat) :=
  if tkS t n (L.1 0) = 0 then
    (if tkV t n (L.1 0) = 0 then perF t n L else if tkV t n (L.1 0) = 1 then facF t n L 0 else if tkV t n (L.1 0) = 2 then facF t n L 1 else if tkV t n (L.1 0) = 3 then parF t n L else if tkV t n (L.1 0) = 4 then seaF t n L else if tkV t n (L.1 0) = 5 then risF t n L else .inr (1, tkP t n (L.1 0)))
  else .inr (1, tkP t n (L.1 0))
end LN
/-- what the class holds of the draft, its TOKEN and fault aside -/
def LD (M : Mem) (L : LnS) : Prop :=
  M 2 2 = (L.1 8 : Int) ∧ M 5 2 = (L.1 1 : Int) ∧ M 5 4 = (L.1 3 : Int) ∧ M 5 6 = (L.1 5 : Int) ∧ M 5 7 = (L.1 4 : Int) ∧ M 5 8 = (L.1 6 : Int) ∧ FMc M (L.1 7) L.2.2.2 ∧ (∀ i, i < L.1 1 → M 6 i = L.2.1 0 i ∧ M 7 i = L.2.1 1 i) ∧ (∀ i, i < L.1 3 → M 8 i = L.2.1 2 i) ∧ (∀ i, i < L.1 3 ∨ (i = 5 ∧ L.1 6 = 1) → M 11 i = L.2.1 3 i ∧ M 12 i = L.2.1 4 i) ∧ M 14 1 = (L.1 2 : Int) ∧ SameF (FcT M 14) L.2.2.1 (L.1 2)
def ldset (k j : Nat) : Prop := (k = 2 ∧ 3 ≤ j ∧ j ≠ 12) ∨ k = 4 ∨ (16 ≤ k ∧ k ≤ 20)
theorem LD.fp {M M' : Mem} {L : LnS} {q : Nat → Nat → Prop} (h : LD M L) (hF : Fp q M M') (hq : ∀ k j, q k j → ldset k j) : LD M' L := by
  obtain ⟨h1, h2, h3, h4, h5, h6, ⟨f1, f2, f3⟩, h7, h8, h9, h10, h11⟩ := h
  have e : ∀ k, 5 ≤ k → k ≤ 15 → M' k = M k := fun k z1 z2 => hF.row (fun j hc => by have := hq k j hc; unfold ldset at this; omega)
  have e22 : M' 2 2 = M 2 2 := hF 2 2 (fun hc => by have := hq 2 2 hc; unfold ldset at this; omega)
  unfold LD FMc FcT
  rw [e22, e 5 (by omega) (by omega), e 6 (by omega) (by omega), e 7 (by omega) (by omega), e 8 (by omega) (by omega), e 9 (by omega) (by omega), e 10 (by omega) (by omega), e 11 (by omega) (by omega), e 12 (by omega) (by omega), e 14 (by omega) (by omega), e 15 (by omega) (by omega)]
  exact ⟨h1, h2, h3, h4, h5, h6, ⟨f1, f2, f3⟩, h7, h8, h9, h10, h11⟩
def lnC (k j : Nat) : Prop := (k = 2 ∧ 2 ≤ j ∧ j ≠ 12) ∨ (4 ≤ k ∧ k ≤ 20)
theorem lnC_T {M M' : Mem} {t : Nat → Int} {n : Nat} (h : TCm M t n) (hF : Fp lnC M M') : TCm M' t n := h.fp hF (fun k j q => by unfold lnC at q; omega)
theorem s_endLine {t : Nat → Int} {n c : Nat} {L : LnS} {M : Mem} {P : Mem → Prop} (hT : TCm M t n) (hc : c ≤ n) (hK : KC M t n c) (h3 : M 2 3 = 0) (hD : LD M L) (hl : L.1 8 < 2000)
    (hok : ∀ L', endF t n L c = .inl L' → ∀ M', Fp lnC M M' → KC M' t n (L'.1 0) → M' 2 3 = 0 → LD M' L' → P M') (hbad : ∀ f pl, endF t n L c = .inr (f, pl) → f ≠ 0 → ∀ M', Fp lnC M M' → M' 2 3 = (f : Int) → M' 2 4 = (pl : Int) → P M') : CD m7_endLine 4 [(17, ((2 : Nat) : Int))] M P := by
  have hb := hT.2.2.2.1
  unfold endF at hok hbad
  apply q_7_endLine
  rw [(KC_k hK).1, hD.1]
  refine ⟨fun q => ?_, fun q => ?_⟩
  · rw [if_pos q] at hok
    rw [w_1 (i := L.1 8) (by omega)]
    have f1 : Fp (fun k j => k = 2 ∧ j = 2) M (mset M 2 2 ((L.1 8 + 1 : Nat) : Int)) := Fp.rf.set ⟨rfl, rfl⟩
    apply s_next (c := tkE t n c) (hT.fp f1 (fun k j q => by omega)) (tkE_p hb hc).2.1 (by rw [mset_j (by decide)]; exact hK.1) (by rw [mset_j (by decide)]; exact hK.p)
    intro M1 hF1 hK1
    have hFx : Fp lnC M M1 := (f1.mono (fun k j q => by unfold lnC; omega)).tr (hF1.mono (fun k j q => by unfold rdset at q; unfold lnC; omega))
    refine hok _ rfl M1 hFx hK1 ?_ ?_
    · rw [hF1 2 3 (by unfold rdset; omega), mset_j (by decide)]; exact h3
    · obtain ⟨h1, h2, h4, h5, h6, h7, h8⟩ := hD
      have d1 : LD (mset M 2 2 ((L.1 8 + 1 : Nat) : Int)) (LSmk (udg (udg L.1 0 (tkE t n c)) 8 (L.1 8 + 1)) L.2.1 L.2.2.1 L.2.2.2) := by
        refine ⟨mset_s, ?_⟩
        have e : ∀ k, k ≠ 2 → mset M 2 2 ((L.1 8 + 1 : Nat) : Int) k = M k := fun k z => funext fun j => mset_k z
        unfold FMc FcT at *
        rw [e 5 (by decide), e 6 (by decide), e 7 (by decide), e 8 (by decide), e 9 (by decide), e 10 (by decide), e 11 (by decide), e 12 (by decide), e 14 (by decide), e (14 + 1) (by decide)]
        exact ⟨h2, h4, h5, h6, h7, h8⟩
      exact d1.fp hF1 (fun k j q => by unfold rdset at q; unfold ldset; omega)
  · rw [if_neg q] at hbad
    exact s_failC (k := 1) hK (fun M' hF h3 h4 => hbad 1 _ rfl (by decide) M' (hF.mono (fun k j q => by unfold flset at q; unfold lnC; omega)) h3 h4)
