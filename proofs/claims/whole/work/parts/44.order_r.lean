/-! the reference: THE ORDER -/
theorem loop_upS {σ : Type} {Inv G : Nat → σ → Mem → Prop} (n : Nat) (hend : ∀ s M, Inv n s M → G n s M) (hstep : ∀ i s M, i < n → Inv i s M → (∀ s' M', Inv (i + 1) s' M' → G (i + 1) s' M') → G i s M) : ∀ i s M, i ≤ n → Inv i s M → G i s M := by
  intro i
  generalize hk : n - i = k
  induction k generalizing i with
  | zero =>
    intro s M hi h
    have : i = n := by omega
    subst this
    exact hend s M h
  | succ k ih =>
    intro s M hi h
    exact hstep i s M (by omega) h (fun s' M' h' => ih (i + 1) (by omega) s' M' (by omega) h')
def FrT (M : Mem) (b : Nat) : FTab := fun i c => match c with
  | 0 => M 69 (b + i)
  | 1 => M 70 (b + i)
  | 2 => M 71 (b + i)
  | 3 => M 72 (b + i)
  | _ => M 73 (b + i)
/-- FACTS that are told as they may be -/
def Fgood (F : FTab) (n people : Nat) : Prop := Fin5 F n people ∧ ∀ i, i < n → (F i 2 = 0 ∨ F i 2 = 1) ∧ (F i 2 = 1 → F i 3 = -1) ∧ (F i 4 = 0 ∨ F i 4 = 1)
def mat (M : Mem) (r : Nat) (L : Nat → Nat → Bool) : Prop := ∀ a b, a < 5 → b < 5 → M r (5 * a + b) = ((L a b).toNat : Int)
theorem mat_congr {M : Mem} {r : Nat} {L L' : Nat → Nat → Bool} (h : mat M r L) (he : ∀ a b, a < 5 → b < 5 → L' a b = L a b) : mat M r L' := fun a b ha hb => by rw [h a b ha hb, he a b ha hb]
theorem mat_set {M : Mem} {r a b : Nat} {L L' : Nat → Nat → Bool} {v : Bool} {x : Int} (h : mat M r L) (hb : b < 5) (hx : x = (v.toNat : Int)) (h1 : L' a b = v) (h2 : ∀ a' b', a' < 5 → b' < 5 → ¬ (a' = a ∧ b' = b) → L' a' b' = L a' b') : mat (mset M r (5 * a + b) x) r L' := fun a' b' ha' hb' => by
  by_cases e : a' = a ∧ b' = b
  · obtain ⟨rfl, rfl⟩ := e
    rw [mset_s, hx, h1]
  · rw [mset_j (by omega), h a' b' ha' hb', h2 a' b' ha' hb' e]
theorem mat_fr {M M' : Mem} {r : Nat} {L : Nat → Nat → Bool} {s : Nat → Prop} (h : mat M r L) (hF : Fr s M M') (hr : ¬ s r) : mat M' r L := fun a b ha hb => by rw [hF r hr]; exact h a b ha hb
theorem s_pair {a b : Nat} {M : Mem} {P : Int → Mem → Prop} (ha : a < 100) (hb : b < 100) (h : P ((5 * a + b : Nat) : Int) M) : CI m11_pair 1 [(0, (a : Int)), (0, (b : Int))] M P := by
  apply q_11_pair
  rw [show w32 (w32 (5 * (a : Int)) + (b : Int)) = ((5 * a + b : Nat) : Int) by unfold w32; omega]
  exact h
theorem s_risOf {k : Nat} {s : Int} {M : Mem} {P : Int → Mem → Prop} (hk : k < 72) (h : P (bi (M 73 k = 0 ∧ (M 72 k = -1 ∨ M 72 k = s))) M) : CI m11_isOf 1 [(20, ((59 : Nat) : Int)), (0, (k : Int)), (0, s)] M P := by
  apply q_11_isOf
  rw [Int.toNat_natCast]
  refine ⟨by omega, fun q => by rwa [bi_f (fun z => q z.1)] at h, fun q => ⟨by omega, fun q2 => by rwa [bi_t ⟨q, Or.inl q2⟩] at h, fun q2 => ⟨by omega, fun q3 => by rwa [bi_f (fun z => z.2.elim q2 q3)] at h, fun q3 => by rwa [bi_t ⟨q, Or.inr q3⟩] at h⟩⟩⟩
/-- level by one of the first k facts, or the same -/
def lb (F : FTab) : Nat → Nat → Nat → Bool
  | 0, a, b => decide (a = b)
  | k + 1, a, b => lb F k a b || (decide (F k 4 = 0 ∧ F k 2 = 1) && (decide (a = (F k 0).toNat ∧ b = (F k 1).toNat) || decide (a = (F k 1).toNat ∧ b = (F k 0).toNat)))
theorem lb_step (F : FTab) (k a b : Nat) : lb F (k + 1) a b = (lb F k a b || (decide (F k 4 = 0 ∧ F k 2 = 1) && (decide (a = (F k 0).toNat ∧ b = (F k 1).toNat) || decide (a = (F k 1).toNat ∧ b = (F k 0).toNat)))) := rfl
def ar (F : FTab) (s : Int) : Nat → Nat → Nat → Bool
  | 0, _, _ => false
  | k + 1, a, b => ar F s k a b || (isAb F s k && decide (a = (F k 0).toNat ∧ b = (F k 1).toNat))
theorem ar_step (F : FTab) (s : Int) (k a b : Nat) : ar F s (k + 1) a b = (ar F s k a b || (isAb F s k && decide (a = (F k 0).toNat ∧ b = (F k 1).toNat))) := rfl
theorem ar_iff {F : FTab} {s : Int} {a b : Nat} : ∀ {k : Nat}, ar F s k a b = true ↔ ∃ i, i < k ∧ isAb F s i = true ∧ a = (F i 0).toNat ∧ b = (F i 1).toNat
  | 0 => by simp [ar]
  | k + 1 => by
    have ih := @ar_iff F s a b k
    rw [ar_step, Bool.or_eq_true, ih]
    constructor
    · rintro (⟨i, h1, h2⟩ | h)
      · exact ⟨i, by omega, h2⟩
      · simp at h; exact ⟨k, by omega, h.1, h.2.1, h.2.2⟩
    · rintro ⟨i, h1, h2, h3, h4⟩
      by_cases hi : i < k
      · exact Or.inl ⟨i, hi, h2, h3, h4⟩
      · have : i = k := by omega
        subst this
        exact Or.inr (by simp [h2, h3, h4])
theorem lb_refl (F : FTab) : ∀ k a, lb F k a a = true
  | 0, a => by simp [lb]
  | k + 1, a => by rw [lb_step, lb_refl F k a]; rfl
theorem lb_symm (F : FTab) : ∀ k a b, lb F k a b = lb F k b a
  | 0, a, b => by simp [lb, eq_comm]
  | k + 1, a, b => by
    rw [lb_step, lb_step, lb_symm F k a b]
    congr 2
    rw [Bool.or_comm]
    congr 1 <;> (apply decide_eq_decide.mpr; exact And.comm)
theorem pth_symm {R : Nat → Nat → Bool} (h : ∀ a b, R a b = R b a) : ∀ m a b, pth R m a b = pth R m b a
  | 0, a, b => h a b
  | m + 1, a, b => by
    have ih := pth_symm h m
    show (pth R m a b || (pth R m a m && pth R m m b)) = (pth R m b a || (pth R m b m && pth R m m a))
    rw [ih a b, ih a m, ih m b, Bool.and_comm]
theorem lb_lvl {F : FTab} : ∀ {k : Nat} (a b : Nat), lb F k a b = true → lvl F k a b = true
  | 0, a, b, h => by simp [lb] at h; rw [h]; exact lvl_refl F 0 b
  | k + 1, a, b, h => by
    rw [lb_step, Bool.or_eq_true] at h
    rcases h with h | h
    · exact lvl_mono F k a b (lb_lvl a b h)
    · simp only [Bool.and_eq_true, Bool.or_eq_true, decide_eq_true_eq] at h
      obtain ⟨⟨h4, h2⟩, ⟨rfl, rfl⟩ | ⟨rfl, rfl⟩⟩ := h
      · exact lvl_has (by omega) h4 h2
      · exact (lvl_eqv F (k + 1)).1 _ _ (lvl_has (by omega) h4 h2)
theorem lb_in {F : FTab} {people : Nat} : ∀ {k : Nat}, Fin5 F k people → ∀ a b, people ≤ a → lb F k a b = true → a = b
  | 0, _, a, b, _, h => by simpa [lb] using h
  | k + 1, hF, a, b, ha, h => by
    have := hF k (by omega)
    rw [lb_step, Bool.or_eq_true] at h
    rcases h with h | h
    · exact lb_in (fun i hi => hF i (by omega)) a b ha h
    · simp only [Bool.and_eq_true, Bool.or_eq_true, decide_eq_true_eq] at h
      omega
theorem pth_lb {F : FTab} {n people : Nat} (hF : Fin5 F n people) (a b : Nat) : pth (lb F n) people a b = lvl F n a b := by
  have hsym := pth_symm (lb_symm F n)
  have hout : ∀ m a b, people ≤ a → m ≤ people → pth (lb F n) m a b = true → a = b := by
    intro m
    induction m with
    | zero => intro a b ha _ h; exact lb_in hF a b ha h
    | succ m ih =>
      intro a b ha hm h
      unfold pth at h
      simp only [Bool.or_eq_true, Bool.and_eq_true] at h
      rcases h with h | ⟨h, -⟩
      · exact ih a b ha (by omega) h
      · have := ih a m ha (by omega) h; omega
  apply Bool.eq_iff_iff.mpr
  constructor
  · exact pth_least (T := fun a b => lvl F n a b = true) (fun a b h => lb_lvl a b h) (fun a c b h1 h2 => (lvl_eqv F n).2 a c b h1 h2) people a b
  · refine lvl_least (R := fun a b => pth (lb F n) people a b = true) (fun p => pth_mono (Nat.zero_le _) (lb_refl F n p)) (fun p q h => by rw [hsym]; exact h) (fun p q r h1 h2 => ?_) (fun i hi h4 h2 => ?_) a b
    · by_cases hq : q < people
      · exact pth_tr p q r hq h1 h2
      · have := hout people q p (by omega) (Nat.le_refl _) (by rw [hsym]; exact h1)
        rw [← this]; exact h2
    · refine pth_mono (Nat.zero_le _) ?_
      have key : ∀ k, i < k → lb F k (F i 0).toNat (F i 1).toNat = true := by
        intro k hk
        induction k with
        | zero => omega
        | succ k ih =>
          rw [lb_step]
          by_cases e : i < k
          · rw [ih e]; rfl
          · have : i = k := by omega
            subst this
            simp [h4, h2]
      exact key n hi
/-- one round of the middles in a matrix: as far as row a, place b -/
def wmt (R : Nat → Nat → Bool) (m i j : Nat) (a b : Nat) : Bool := if a < i ∨ (a = i ∧ b < j) then R a b || (R a m && R m b) else R a b
def m45 : Nat → Prop := fun k => k = 74 ∨ k = 75
/-- all is said of what follows from level and above -/
def cls (L X : Nat → Nat → Bool) (people : Nat) : Prop := ∀ a y b, a < people → y < people → b < people → (L a y = true ∧ X y b = true) ∨ (X a y = true ∧ (L y b = true ∨ X y b = true)) → X a b = true
theorem abv_cls {F : FTab} {n people : Nat} {s : Int} {X : Nat → Nat → Bool} (hF : Fin5 F n people) (h1 : ∀ a b, ar F s n a b = true → X a b = true) (h2 : ∀ a b, X a b = true → abv F n people s a b = true) (hc : cls (lvl F n) X people) (a b : Nat) : X a b = abv F n people s a b := by
  apply Bool.eq_iff_iff.mpr
  refine ⟨h2 a b, fun h => ?_⟩
  refine (pth_least (R := ob F (lvl F n) s n) (T := fun a b => a < people ∧ b < people ∧ X a b = true) (fun p q hq => ?_) (fun a c b g1 g2 => ⟨g1.1, g2.2.1, hc a c b g1.1 g1.2.1 g2.2.1 (Or.inr ⟨g1.2.2, Or.inr g2.2.2⟩)⟩) people a b h).2.2
  obtain ⟨i, hi, hab, hp, hq⟩ := ob_iff.mp hq
  have hFi := hF i hi
  have hpl := lvl_in hF _ p (by omega) hp
  have hql := lvl_in hF _ q (by omega) hq
  have hx := h1 _ _ (ar_iff.mpr ⟨i, hi, hab, rfl, rfl⟩)
  have hx2 := hc p (F i 0).toNat (F i 1).toNat hpl (by omega) (by omega) (Or.inl ⟨(lvl_eqv F n).1 _ _ hp, hx⟩)
  exact ⟨hpl, hql, hc p (F i 1).toNat q hpl (by omega) hql (Or.inr ⟨hx2, Or.inl hq⟩)⟩
/-- what follows is above -/
theorem abv_step {F : FTab} {n people : Nat} {s : Int} (hF : Fin5 F n people) {a y b : Nat} (ha : a < people) (hy : y < people) (hb : b < people) (h : (lvl F n a y = true ∧ abv F n people s y b = true) ∨ (abv F n people s a y = true ∧ (lvl F n y b = true ∨ abv F n people s y b = true))) : abv F n people s a b = true := by
  have hl := lvl_eqv F n
  have left : ∀ a y b, lvl F n a y = true → abv F n people s y b = true → abv F n people s a b = true := by
    intro a y b h1 h2
    have h3 := pth_least (R := ob F (lvl F n) s n) (T := fun u v => ∀ w, lvl F n w u = true → abv F n people s w v = true) (fun p q hq w hw => ?_) (fun a c b g1 g2 w hw => ?_) people y b h2
    · exact h3 a h1
    · obtain ⟨i, hi, hab, hp, hq⟩ := ob_iff.mp hq
      refine pth_mono (Nat.zero_le _) (ob_iff.mpr ⟨i, hi, hab, hl.2 _ _ _ hp (hl.1 _ _ hw), hq⟩)
    · have g3 := g1 w hw
      have g4 := g2 c (lvl_refl F n c)
      by_cases hcp : c < people
      · exact pth_tr w c b hcp g3 g4
      · exfalso
        have := pth_least (R := ob F (lvl F n) s n) (T := fun u v => u < people) (fun p q hq => by
          obtain ⟨i, hi, hab, hp, hq⟩ := ob_iff.mp hq
          have := hF i hi
          exact lvl_in hF _ p (by omega) hp) (fun a c b g1 _ => g1) people c b g4
        exact hcp this
  have right : ∀ a y b, abv F n people s a y = true → lvl F n y b = true → abv F n people s a b = true := by
    intro a y b h2 h1
    have h3 := pth_least (R := ob F (lvl F n) s n) (T := fun u v => u < people ∧ ∀ w, lvl F n v w = true → abv F n people s u w = true) (fun p q hq => ?_) (fun a c b g1 g2 => ?_) people a y h2
    · exact h3.2 b h1
    · obtain ⟨i, hi, hab, hp, hq⟩ := ob_iff.mp hq
      have := hF i hi
      exact ⟨lvl_in hF _ p (by omega) hp, fun w hw => pth_mono (Nat.zero_le _) (ob_iff.mpr ⟨i, hi, hab, hp, hl.2 _ _ _ hq hw⟩)⟩
    · exact ⟨g1.1, fun w hw => pth_tr a c w g2.1 (g1.2 c (lvl_refl F n c)) (g2.2 w hw)⟩
  rcases h with ⟨h1, h2⟩ | ⟨h1, h2 | h2⟩
  · exact left a y b h1 h2
  · exact right a y b h1 h2
  · exact pth_tr a y b hy h1 h2
theorem cnt_lt {p q : Nat → Bool} : ∀ {n k : Nat}, k < n → p k = false → q k = true → (∀ j, j < n → p j = true → q j = true) → cnt p n < cnt q n
  | 0, k, hk, _, _, _ => by omega
  | n + 1, k, hk, h1, h2, h3 => by
    have le : ∀ m, (∀ j, j < m → p j = true → q j = true) → cnt p m ≤ cnt q m := by
      intro m
      induction m with
      | zero => intro _; exact Nat.le_refl 0
      | succ m ih =>
        intro h
        have := ih (fun j hj => h j (by omega))
        have hm := h m (by omega)
        show cnt p m + (p m).toNat ≤ cnt q m + (q m).toNat
        cases hp : p m <;> cases hq : q m <;> simp_all <;> omega
    show cnt p n + (p n).toNat < cnt q n + (q n).toNat
    by_cases e : k = n
    · subst e
      have := le k (fun j hj => h3 j (by omega))
      rw [h1, h2]; simp; omega
    · have ih := cnt_lt (n := n) (k := k) (by omega) h1 h2 (fun j hj => h3 j (by omega))
      have hm := h3 n (by omega)
      cases hp : p n <;> cases hq : q n <;> simp_all <;> omega
def msr (X : Nat → Nat → Bool) : Nat := cnt (fun k => !X (k / 5) (k % 5)) 25
theorem msr_lt {X X' : Nat → Nat → Bool} {a b : Nat} (ha : a < 5) (hb : b < 5) (h1 : X a b = false) (h2 : X' a b = true) (h3 : ∀ a' b', X a' b' = true → X' a' b' = true) : msr X' < msr X := by
  refine cnt_lt (k := 5 * a + b) (by omega) ?_ ?_ ?_
  · simp only [show (5 * a + b) / 5 = a by omega, show (5 * a + b) % 5 = b by omega, h2]; rfl
  · simp only [show (5 * a + b) / 5 = a by omega, show (5 * a + b) % 5 = b by omega, h1]; rfl
  · intro j _ hj
    cases hx : X (j / 5) (j % 5) with
    | false => rfl
    | true => rw [h3 _ _ hx] at hj; exact hj
