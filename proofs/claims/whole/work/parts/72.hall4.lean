/-! who clashes; hall -/
def clb (hs : Nat) (R : Nat → Nat) (i j : Nat) : Bool := hs.testBit i && hs.testBit j && decide (R i ≠ R j)
def clN (hs : Nat) (R : Nat → Nat) : Prop := ∀ i j, i < j → clb hs R i j = false
def clP (hs : Nat) (R : Nat → Nat) (i j : Nat) : Prop := i < j ∧ clb hs R i j = true ∧ ∀ i' j', i' < j' → (i' < i ∨ (i' = i ∧ j' < j)) → clb hs R i' j' = false
def clV (hs : Nat) (R : Nat → Nat) (x v : Int) : Prop := (clN hs R ∧ v = -1) ∨ ∃ i j, clP hs R i j ∧ v = if x = 2 then (i : Int) else (j : Int)
theorem clP_u {hs : Nat} {R : Nat → Nat} {i j i' j' : Nat} (h : clP hs R i j) (h' : clP hs R i' j') : i = i' ∧ j = j' := by
  obtain ⟨a1, a2, a3⟩ := h
  obtain ⟨b1, b2, b3⟩ := h'
  by_cases c1 : i' < i ∨ (i' = i ∧ j' < j)
  · rw [a3 i' j' b1 c1] at b2; cases b2
  · by_cases c2 : i < i' ∨ (i = i' ∧ j < j')
    · rw [b3 i j a1 c2] at a2; cases a2
    · omega
theorem clV_u {hs : Nat} {R : Nat → Nat} {x v v' : Int} (h : clV hs R x v) (h' : clV hs R x v') : v = v' := by
  rcases h with ⟨a, rfl⟩ | ⟨i, j, a, rfl⟩ <;> rcases h' with ⟨b, rfl⟩ | ⟨i', j', b, rfl⟩
  · rfl
  · have := a i' j' b.1; rw [b.2.1] at this; cases this
  · have := b i j a.1; rw [a.2.1] at this; cases this
  · obtain ⟨rfl, rfl⟩ := clP_u a b; rfl
theorem clb_lt {hs : Nat} {R : Nat → Nat} (hh : hs < 32) {i j : Nat} (h : 5 ≤ i ∨ 5 ≤ j) : clb hs R i j = false := by
  unfold clb
  rcases h with z | z <;> rw [bit_hi hh z] <;> simp
theorem s_clash {hs : Nat} {R : Nat → Nat} {M : Mem} {P : Int → Mem → Prop} (hh : hs < 32) (hR : ∀ j, hs.testBit j = true → M 42 j = (R j : Int))
    (hno : clN hs R → P (-1) M) (hyes : ∀ i j, i < 8 → j < 8 → clP hs R i j → P ((i + 8 * j : Nat) : Int) M) : CI m9_clash 2 [(18, ((39 : Nat) : Int)), (0, (hs : Int))] M P := by
  have a42 : ((aln 42 : Nat) : Int) = 8 := by decide
  apply q_9_clash
  refine loop_up (Inv := fun i M1 => M1 = M ∧ ∀ i' j', i' < j' → i' < i → clb hs R i' j' = false) (G := fun i M1 => A m9_clash 2 0 2 [(18, ((39 : Nat) : Int)), (0, (hs : Int)), (0, (i : Int)), (2, 0), (2, 0)] [] M1 (Ki P)) 8 ?_ ?_ 0 M (Nat.zero_le _) ⟨rfl, fun i' j' _ h => by omega⟩
  · rintro M1 ⟨rfl, hc⟩
    apply r_9_clash_2
    refine ⟨fun _ => hno (fun i j hij => ?_), fun q => by omega⟩
    by_cases z : i < 8
    · exact hc i j hij z
    · exact clb_lt hh (by omega)
  · rintro i M1 hi ⟨rfl, hc⟩ ih
    apply r_9_clash_2
    refine ⟨fun q => by omega, fun _ => ?_⟩
    rw [w_1 (by omega)]
    have inner : ∀ k j : Nat, j + k = 8 → i < j → (∀ j', i < j' → j' < j → clb hs R i j' = false) → A m9_clash 2 0 12 [(18, ((39 : Nat) : Int)), (0, (hs : Int)), (0, (i : Int)), (0, (j : Int)), (2, 0)] [] M1 (Ki P) := by
      intro k
      induction k with
      | zero =>
        intro j hj hij hc2
        apply r_9_clash_12
        refine ⟨fun _ => ?_, fun q => by omega⟩
        rw [w_1 (by omega)]
        refine ih M1 ⟨rfl, fun i' j' h1 h2 => ?_⟩
        by_cases e : i' = i
        · subst e
          by_cases z : j' < j
          · exact hc2 j' h1 z
          · exact clb_lt hh (by omega)
        · exact hc i' j' h1 (by omega)
      | succ k ihk =>
        intro j hj hij hc2
        have nx : clb hs R i j = false → A m9_clash 2 0 12 [(18, ((39 : Nat) : Int)), (0, (hs : Int)), (0, (i : Int)), (0, ((j + 1 : Nat) : Int)), (2, 0)] [] M1 (Ki P) := fun q => ihk (j + 1) (by omega) (by omega) (fun j' h1 h2 => by
          by_cases e : j' = j
          · subst e; exact q
          · exact hc2 j' h1 (by omega))
        apply r_9_clash_12
        rw [w_1 (i := i) (by omega), w_1 (i := j) (by omega)]
        refine ⟨fun q => by omega, fun _ => ⟨fun q1 => nx ?_, fun q1 => ⟨fun q2 => nx ?_, fun q2 => ?_⟩⟩⟩
        · unfold clb; rw [bit_q1 (by omega) (by omega) q1]; rfl
        · unfold clb; rw [bit_q1 (by omega) (by omega) q2]; simp
        · have b1 := (bit_1 (by omega) (by omega)).mp q1
          have b2 := (bit_1 (by omega) (by omega)).mp q2
          apply s_at (by omega) (by omega)
          apply s_at (by omega) (by omega)
          rw [Int.toNat_natCast, Int.toNat_natCast, hR i b1, hR j b2]
          refine ⟨fun q3 => nx ?_, fun q3 => ?_⟩
          · unfold clb; rw [decide_eq_false (by omega)]; simp
          · have e : w32 ((i : Int) + w32 (8 * (j : Int))) = ((i + 8 * j : Nat) : Int) := by unfold w32; omega
            rw [e]
            refine hyes i j hi (by omega) ⟨hij, ?_, fun i' j' h1 h2 => ?_⟩
            · unfold clb; rw [b1, b2, decide_eq_true (by omega)]; rfl
            · rcases h2 with z | ⟨rfl, z⟩
              · exact hc i' j' h1 z
              · exact hc2 j' h1 z
    exact inner (8 - (i + 1)) (i + 1) (by omega) (by omega) (fun j' h1 h2 => by omega)
theorem s_clash_r {hs : Nat} {R : Nat → Nat} {w : Int} {M : Mem} {P : Int → Mem → Prop} (hh : hs < 32) (hR : ∀ j, hs.testBit j = true → M 81 j = (R j : Int))
    (hno : clN hs R → P (-1) M) (hyes : ∀ i j : Nat, clP hs R i j → P (if w = 0 then (j : Int) else (i : Int)) M) : CI m11_clash 1 [(20, ((59 : Nat) : Int)), (0, (hs : Int)), (0, w)] M P := by
  apply q_11_clash
  refine loop_up (Inv := fun i M1 => M1 = M ∧ ∀ i' j', i' < j' → i' < i → clb hs R i' j' = false) (G := fun i M1 => A m11_clash 1 0 2 [(20, ((59 : Nat) : Int)), (0, (hs : Int)), (0, w), (0, (i : Int)), (2, 0)] [] M1 (Ki P)) 5 ?_ ?_ 0 M (Nat.zero_le _) ⟨rfl, fun i' j' _ h => by omega⟩
  · rintro M1 ⟨rfl, hc⟩
    apply r_11_clash_2
    refine ⟨fun _ => hno (fun i j hij => ?_), fun q => by omega⟩
    by_cases z : i < 5
    · exact hc i j hij z
    · exact clb_lt hh (by omega)
  · rintro i M1 hi ⟨rfl, hc⟩ ih
    apply r_11_clash_2
    refine ⟨fun q => by omega, fun _ => ?_⟩
    rw [w_1 (by omega)]
    have inner : ∀ k j : Nat, j + k = 5 → i < j → (∀ j', i < j' → j' < j → clb hs R i j' = false) → A m11_clash 1 0 12 [(20, ((59 : Nat) : Int)), (0, (hs : Int)), (0, w), (0, (i : Int)), (0, (j : Int))] [] M1 (Ki P) := by
      intro k
      induction k with
      | zero =>
        intro j hj hij hc2
        apply r_11_clash_12
        refine ⟨fun _ => ?_, fun q => by omega⟩
        rw [w_1 (by omega)]
        refine ih M1 ⟨rfl, fun i' j' h1 h2 => ?_⟩
        by_cases e : i' = i
        · subst e
          by_cases z : j' < j
          · exact hc2 j' h1 z
          · exact clb_lt hh (by omega)
        · exact hc i' j' h1 (by omega)
      | succ k ihk =>
        intro j hj hij hc2
        have nx : clb hs R i j = false → A m11_clash 1 0 12 [(20, ((59 : Nat) : Int)), (0, (hs : Int)), (0, w), (0, (i : Int)), (0, ((j + 1 : Nat) : Int))] [] M1 (Ki P) := fun q => ihk (j + 1) (by omega) (by omega) (fun j' h1 h2 => by
          by_cases e : j' = j
          · subst e; exact q
          · exact hc2 j' h1 (by omega))
        apply r_11_clash_12
        rw [w_1 (i := i) (by omega), w_1 (i := j) (by omega)]
        refine ⟨fun q => by omega, fun _ => ⟨fun q1 => nx ?_, fun q1 => ⟨fun q2 => nx ?_, fun q2 => ?_⟩⟩⟩
        · unfold clb; rw [bit_q1 (by omega) (by omega) q1]; rfl
        · unfold clb; rw [bit_q1 (by omega) (by omega) q2]; simp
        · have b1 := (bit_1 (by omega) (by omega)).mp q1
          have b2 := (bit_1 (by omega) (by omega)).mp q2
          rw [Int.toNat_natCast, Int.toNat_natCast, hR i b1, hR j b2]
          refine ⟨by omega, by omega, fun q3 => nx ?_, fun q3 => ?_⟩
          · unfold clb; rw [decide_eq_false (by omega)]; simp
          · have hP : clP hs R i j := by
              refine ⟨hij, ?_, fun i' j' h1 h2 => ?_⟩
              · unfold clb; rw [b1, b2, decide_eq_true (by omega)]; rfl
              · rcases h2 with z | ⟨rfl, z⟩
                · exact hc i' j' h1 z
                · exact hc2 j' h1 z
            have := hyes i j hP
            refine ⟨fun z => ?_, fun z => ?_⟩
            · rwa [if_pos z] at this
            · rwa [if_neg z] at this
    exact inner (5 - (i + 1)) (i + 1) (by omega) (by omega) (fun j' h1 h2 => by omega)
abbrev isHal (pp : Nat) (a hs c : Int) : Prop := isTwo pp a c ∧ (0 < hs ∧ hs < (2 ^ pp : Nat)) ∧ hs.toNat.testBit a.toNat = false
def rwS (pp n : Nat) (s : Int) (nf : Nat) (F : FTab) (ag C : Nat → Int) (Bg E : Nat → Nat) (a c : Nat) (j : Nat) : Nat := rgt C Bg E n (nmS pp nf s F ag a j c)
def halV (pp n : Nat) (s : Int) (nf : Nat) (F : FTab) (ag C : Nat → Int) (Bg E : Nat → Nat) (a hs c x v : Int) : Prop :=
  (¬ (isHal pp a hs c ∧ 0 ≤ x ∧ x ≤ 3) ∧ v = -1) ∨ ((isHal pp a hs c ∧ 0 ≤ x ∧ x ≤ 3) ∧
    ((x < 2 ∧ ∃ b l, lst (fun r => hof n hs.toNat (rwS pp n s nf F ag C Bg E a.toNat c.toNat) r 5) (PL n) = some (b, l) ∧ v = if x = 1 then (b : Int) else (l : Int)) ∨ (2 ≤ x ∧ clV hs.toNat (rwS pp n s nf F ag C Bg E a.toNat c.toNat) x v)))
theorem halV_u {pp n : Nat} {s : Int} {nf : Nat} {F : FTab} {ag C : Nat → Int} {Bg E : Nat → Nat} {a hs c x v v' : Int} (h : halV pp n s nf F ag C Bg E a hs c x v) (h' : halV pp n s nf F ag C Bg E a hs c x v') : v = v' := by
  unfold halV at h h'
  rcases h with ⟨h1, rfl⟩ | ⟨h1, h2⟩ <;> rcases h' with ⟨h3, rfl⟩ | ⟨h3, h4⟩
  · rfl
  · exact absurd h3 h1
  · exact absurd h1 h3
  · rcases h2 with ⟨y1, b, l, y2, rfl⟩ | ⟨y1, y2⟩ <;> rcases h4 with ⟨z1, b', l', z2, rfl⟩ | ⟨z1, z2⟩
    · rw [y2] at z2; cases z2; rfl
    · omega
    · omega
    · exact clV_u y2 z2
theorem lst_val {g : Nat → Nat} : ∀ (L : List Nat) (o : Option (Nat × Nat)), (∀ b l, o = some (b, l) → l = g b) → ∀ b l, L.foldl (lstp g) o = some (b, l) → l = g b
  | [], o, ho, b, l, h => ho b l h
  | r :: L, o, ho, b, l, h => by
    refine lst_val L (lstp g o r) (fun b l hb => ?_) b l h
    match o, ho with
    | none, _ => have hb : some (r, g r) = some (b, l) := hb
                 cases hb; rfl
    | some (b0, l0), ho =>
      have hb : (if g r < l0 then some (r, g r) else some (b0, l0)) = some (b, l) := hb
      split at hb
      · cases hb; rfl
      · exact ho b l hb
theorem two_pow_le : ∀ pp, pp ≤ 5 → 2 ^ pp ≤ 32 := by decide
theorem s_isHall {pp : Nat} {a hs c : Int} {M : Mem} {P : Int → Mem → Prop} (h5 : pp ≤ 5) (hp : M 21 2 = (pp : Int)) (h : P (bi (isHal pp a hs c)) M) : CI m10_isHall 3 [(19, ((0 : Nat) : Int)), (0, a), (0, hs), (0, c)] M P := by
  apply CI_know
  intro _ _ hv
  have hin : in32 hs := vok_0.mp (hv (0, hs) (by simp))
  have hpw := two_pow_le pp h5
  have no : ¬ isHal pp a hs c → P 0 M := fun q => by rwa [bi_f q] at h
  apply q_10_isHall
  apply s_areTwo hp
  rw [hp]
  refine ⟨fun q => no (fun z => bi_eq q z.1), fun q => ⟨fun q1 => ?_, fun q1 => no (fun z => by omega)⟩⟩
  have h2 := bi_ne q
  obtain ⟨a', c', rfl, rfl, ha, hc, _⟩ := two_nat h2
  obtain ⟨m, rfl⟩ : ∃ m : Nat, hs = (m : Int) := ⟨hs.toNat, by omega⟩
  have hm : m < 2147483648 := by have := hin.2; omega
  rw [ishr_n hm (by omega), bit_ask hm (by omega)]
  have hsh : m >>> pp = m / 2 ^ pp := Nat.shiftRight_eq_div_pow m pp
  have hpos : 0 < 2 ^ pp := Nat.pow_pos (by decide)
  refine ⟨fun q2 => no (fun z => ?_), fun q2 => ⟨fun q3 => no (fun z => ?_), fun q3 => ?_⟩⟩
  · have : m / 2 ^ pp = 0 := Nat.div_eq_of_lt (by omega)
    rw [hsh, this] at q2
    exact q2 rfl
  · have z3 := z.2.2
    rw [Int.toNat_natCast, Int.toNat_natCast] at z3
    rw [z3] at q3
    exact q3 rfl
  · have hlt : m < 2 ^ pp := by
      have e : m / 2 ^ pp = 0 := by rw [← hsh]; omega
      rcases (Nat.div_eq_zero_iff).mp e with z | z
      · omega
      · exact z
    have hb : m.testBit a' = false := by
      cases hb : m.testBit a' with
      | false => rfl
      | true => rw [hb] at q3; cases q3
    rwa [bi_t ⟨h2, ⟨by omega, by omega⟩, by rw [Int.toNat_natCast, Int.toNat_natCast]; exact hb⟩] at h
