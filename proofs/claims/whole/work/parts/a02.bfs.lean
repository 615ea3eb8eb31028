/-! RISE: the search, once for both -/
theorem pigeon : ∀ (N m : Nat) (f : Nat → Nat), (∀ i, i < m → f i < N) → (∀ i j, i < m → j < m → f i = f j → i = j) → m ≤ N
  | 0, m, f, h, _ => by
    by_cases q : m = 0
    · omega
    · have := h 0 (by omega); omega
  | N + 1, m, f, h, inj => by
    by_cases q : ∃ i, i < m ∧ f i = N
    · obtain ⟨i0, hi0, e0⟩ := q
      have := pigeon N (m - 1) (fun i => f (if i = i0 then m - 1 else i)) (fun i hi => by
        show f (if i = i0 then m - 1 else i) < N
        by_cases z : i = i0
        · rw [if_pos z]
          have h1 := h (m - 1) (by omega)
          have h2 : f (m - 1) ≠ N := fun e => by have := inj (m - 1) i0 (by omega) hi0 (e.trans e0.symm); omega
          omega
        · rw [if_neg z]
          have h1 := h i (by omega)
          have h2 : f i ≠ N := fun e => by have := inj i i0 (by omega) hi0 (e.trans e0.symm); omega
          omega) (fun i j hi hj e => by
        have e : f (if i = i0 then m - 1 else i) = f (if j = i0 then m - 1 else j) := e
        by_cases z1 : i = i0
        · by_cases z2 : j = i0
          · omega
          · rw [if_pos z1, if_neg z2] at e
            have := inj _ _ (by omega) (by omega) e; omega
        · by_cases z2 : j = i0
          · rw [if_neg z1, if_pos z2] at e
            have := inj _ _ (by omega) (by omega) e; omega
          · rw [if_neg z1, if_neg z2] at e
            exact inj _ _ (by omega) (by omega) e)
      omega
    · have := pigeon N m f (fun i hi => by
        have h1 := h i hi
        have h2 : f i ≠ N := fun e => q ⟨i, hi, e⟩
        omega) inj
      omega
/-- the states met so far: how many, each, whence it came, and by whom -/
def Xs : Type := Nat × (Nat → Nat) × (Nat → Nat) × (Nat → Nat)
def inX (k : Nat → Nat) : Nat → Nat → Bool
  | 0, _ => false
  | m + 1, r => inX k m r || decide (k m = r)
theorem inX_iff {k : Nat → Nat} {r : Nat} : ∀ m, inX k m r = true ↔ ∃ i, i < m ∧ k i = r
  | 0 => by
    constructor
    · intro h; cases h
    · rintro ⟨i, hi, _⟩; omega
  | m + 1 => by
    show (inX k m r || decide (k m = r)) = true ↔ _
    rw [Bool.or_eq_true, decide_eq_true_eq, inX_iff m]
    constructor
    · rintro (⟨i, hi, e⟩ | e)
      · exact ⟨i, by omega, e⟩
      · exact ⟨m, by omega, e⟩
    · rintro ⟨i, hi, e⟩
      by_cases q : i = m
      · subst q; exact Or.inr e
      · exact Or.inl ⟨i, by omega, e⟩
def adX (X : Xs) (r o h : Nat) : Xs := if inX X.2.1 X.1 r = true then X else (X.1 + 1, udg X.2.1 X.1 r, udg X.2.2.1 X.1 o, udg X.2.2.2 X.1 h)
theorem adX_in {X : Xs} {r o h : Nat} (q : inX X.2.1 X.1 r = true) : adX X r o h = X := if_pos q
theorem adX_new {X : Xs} {r o h : Nat} (q : ¬ inX X.2.1 X.1 r = true) : adX X r o h = (X.1 + 1, udg X.2.1 X.1 r, udg X.2.2.1 X.1 o, udg X.2.2.2 X.1 h) := if_neg q
def may0 (may : Nat → Nat → Bool) (c r h : Nat) : Bool := decide (h ≠ c) && may r h
def spX (may : Nat → Nat → Bool) (c i : Nat) (X : Xs) : Nat → Xs
  | 0 => X
  | h + 1 => if may0 may c ((spX may c i X h).2.1 i) h = true then adX (spX may c i X h) (chg ((spX may c i X h).2.1 i) c h) i h else spX may c i X h
theorem spX_step {may : Nat → Nat → Bool} {c i h : Nat} {X : Xs} : spX may c i X (h + 1) = if may0 may c ((spX may c i X h).2.1 i) h = true then adX (spX may c i X h) (chg ((spX may c i X h).2.1 i) c h) i h else spX may c i X h := rfl
def bfs (may : Nat → Nat → Bool) (ovr : Nat → Bool) (pp c : Nat) : Nat → Nat → Xs → Option (Xs × Nat)
  | 0, _, _ => none
  | f + 1, i, X => if X.1 ≤ i then none else if ovr (X.2.1 i) = true then some (X, i) else bfs may ovr pp c f (i + 1) (spX may c i X pp)
def okX (X : Xs) : Prop := 1 ≤ X.1 ∧ (∀ i, i < X.1 → vR (X.2.1 i)) ∧ (∀ i j, i < X.1 → j < X.1 → X.2.1 i = X.2.1 j → i = j) ∧ ∀ i, 0 < i → i < X.1 → X.2.2.1 i < i ∧ X.2.2.2 i < 5
theorem okX_le {X : Xs} (h : okX X) : X.1 ≤ 480 := by
  obtain ⟨_, h2, h3, _⟩ := h
  exact pigeon 480 X.1 (fun i => lhm (X.2.1 i)) (fun i _ => lhm_lt _) (fun i j hi hj e => h3 i j hi hj (lhm_inj (h2 i hi) (h2 j hj) e))
theorem okX_ad {X : Xs} {r o h : Nat} (hX : okX X) (hr : vR r) (ho : o < X.1) (hh : h < 5) : okX (adX X r o h) := by
  by_cases q : inX X.2.1 X.1 r = true
  · rw [adX_in q]; exact hX
  · rw [adX_new q]
    obtain ⟨h1, h2, h3, h4⟩ := hX
    have hno : ∀ i, i < X.1 → X.2.1 i ≠ r := fun i hi e => q ((inX_iff _).mpr ⟨i, hi, e⟩)
    refine ⟨by show 1 ≤ X.1 + 1; omega, fun i hi => ?_, fun i j hi hj e => ?_, fun i h0 hi => ?_⟩
    · have hi : i < X.1 + 1 := hi
      show vR (udg X.2.1 X.1 r i)
      by_cases z : i = X.1
      · subst z; rw [udg_s]; exact hr
      · rw [udg_o z]; exact h2 i (by omega)
    · have hi : i < X.1 + 1 := hi
      have hj : j < X.1 + 1 := hj
      have e : udg X.2.1 X.1 r i = udg X.2.1 X.1 r j := e
      by_cases z1 : i = X.1
      · by_cases z2 : j = X.1
        · omega
        · subst z1
          rw [udg_s, udg_o z2] at e
          exact absurd e.symm (hno j (by omega))
      · by_cases z2 : j = X.1
        · subst z2
          rw [udg_s, udg_o z1] at e
          exact absurd e (hno i (by omega))
        · rw [udg_o z1, udg_o z2] at e
          exact h3 i j (by omega) (by omega) e
    · have hi : i < X.1 + 1 := hi
      show udg X.2.2.1 X.1 o i < i ∧ udg X.2.2.2 X.1 h i < 5
      by_cases z : i = X.1
      · subst z; rw [udg_s, udg_s]; exact ⟨ho, hh⟩
      · rw [udg_o z, udg_o z]; exact h4 i h0 (by omega)
theorem adX_lt {X : Xs} {r o h : Nat} : X.1 ≤ (adX X r o h).1 ∧ ∀ i, i < X.1 → (adX X r o h).2.1 i = X.2.1 i := by
  by_cases q : inX X.2.1 X.1 r = true
  · rw [adX_in q]; exact ⟨Nat.le_refl _, fun _ _ => rfl⟩
  · rw [adX_new q]; exact ⟨by show X.1 ≤ X.1 + 1; omega, fun i hi => udg_o (by omega)⟩
theorem okX_sp {may : Nat → Nat → Bool} {c i : Nat} {X : Xs} (hX : okX X) (hc : c < 5) (hi : i < X.1) : ∀ h, h ≤ 5 → okX (spX may c i X h) ∧ X.1 ≤ (spX may c i X h).1 ∧ (spX may c i X h).2.1 i = X.2.1 i
  | 0, _ => ⟨hX, Nat.le_refl _, rfl⟩
  | h + 1, hh => by
    obtain ⟨g1, g2, g3⟩ := okX_sp (may := may) hX hc hi h (by omega)
    rw [spX_step]
    split
    · obtain ⟨a1, a2⟩ := adX_lt (X := spX may c i X h) (r := chg ((spX may c i X h).2.1 i) c h) (o := i) (h := h)
      refine ⟨okX_ad g1 (vR_chg (g1.2.1 i (by omega)) hc (by omega)) (by omega) (by omega), by omega, ?_⟩
      rw [a2 i (by omega)]; exact g3
    · exact ⟨g1, g2, g3⟩
/-- the way back from a state -/
def itr (o : Nat → Nat) (g : Nat) : Nat → Nat
  | 0 => g
  | j + 1 => o (itr o g j)
theorem itr_step {o : Nat → Nat} {g j : Nat} : itr o g (j + 1) = o (itr o g j) := rfl
/-- how many STEPS lead to a state: the first j at which the way back is at its start -/
def dpt (o : Nat → Nat) : Nat → Nat → Nat
  | 0, _ => 0
  | f + 1, i => if i = 0 then 0 else dpt o f (o i) + 1
theorem itr_sh {o : Nat → Nat} {g : Nat} : ∀ j, itr o (o g) j = itr o g (j + 1)
  | 0 => rfl
  | j + 1 => by
    show o (itr o (o g) j) = o (itr o g (j + 1))
    rw [itr_sh j]
theorem dpt_of {o : Nat → Nat} {m : Nat} (ho : ∀ i, 0 < i → i < m → o i < i) : ∀ f g, g < m → g ≤ f → itr o g (dpt o f g) = 0 ∧ (∀ j, j < dpt o f g → 0 < itr o g j) ∧ dpt o f g ≤ g ∧ ∀ j, j ≤ dpt o f g → itr o g j < m
  | 0, g, hg, hf => by
    have : g = 0 := by omega
    subst this
    refine ⟨rfl, fun j hj => by exact absurd hj (by show ¬ j < 0; omega), Nat.le_refl _, fun j hj => ?_⟩
    have : j = 0 := by have : j ≤ 0 := hj; omega
    subst this; exact hg
  | f + 1, g, hg, hf => by
    unfold dpt
    by_cases q : g = 0
    · rw [if_pos q]
      refine ⟨q, fun j hj => by omega, Nat.zero_le _, fun j hj => ?_⟩
      have : j = 0 := by omega
      subst this; exact hg
    · rw [if_neg q]
      have hlt := ho g (by omega) hg
      obtain ⟨a1, a2, a3, a4⟩ := dpt_of ho f (o g) (by omega) (by omega)
      refine ⟨by rw [← itr_sh]; exact a1, fun j hj => ?_, by omega, fun j hj => ?_⟩
      · rcases j with _ | j
        · show 0 < g; omega
        · rw [← itr_sh]; exact a2 j (by omega)
      · rcases j with _ | j
        · exact hg
        · rw [← itr_sh]; exact a4 j (by omega)
/-- what rise answers -/
def rsV (res : Option (Xs × Nat)) (k : Int) : Int := match res with
  | none => -2
  | some (X, g) => if k = -1 then (dpt X.2.2.1 g g : Int) else if (dpt X.2.2.1 g g : Int) ≤ k then -2 else (X.2.2.2 (itr X.2.2.1 g (dpt X.2.2.1 g g - 1 - k.toNat)) : Int)
