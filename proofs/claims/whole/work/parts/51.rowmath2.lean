/-! ROWS: what follows of them -/
theorem w8_lt (r k : Nat) : w8 r k < 8 := by
  unfold w8
  have : (r >>> (3 * k)) &&& 7 ≤ 7 := Nat.and_le_right
  omega
theorem chk_all {n r : Nat} (hn : n < 6) (hr : r < 8 ^ n) : (met r n = (1 <<< n) - 1 ↔ pmB n r = true) ∧ (pmB n r = true → r ∈ PL n) := by
  have key : ∀ (pl : List Nat), all8 (fun r => (met r n == (1 <<< n) - 1) == pmB n r && (!pmB n r || pl.contains r)) n 0 = true → (met r n = (1 <<< n) - 1 ↔ pmB n r = true) ∧ (pmB n r = true → r ∈ pl) := by
    intro pl h
    have h1 := all8_spec n 0 h r hr
    simp only [Nat.mul_zero, Nat.zero_add, Bool.and_eq_true, beq_iff_eq, Bool.or_eq_true, Bool.not_eq_true'] at h1
    constructor
    · rw [← h1.1]; simp
    · intro hp
      rcases h1.2 with h2 | h2
      · rw [hp] at h2; cases h2
      · simpa using h2
  rcases (show n = 0 ∨ n = 1 ∨ n = 2 ∨ n = 3 ∨ n = 4 ∨ n = 5 by omega) with rfl | rfl | rfl | rfl | rfl | rfl
  · exact key _ chk0
  · exact key _ chk1
  · exact key _ chk2
  · exact key _ chk3
  · exact key _ chk4
  · exact key _ chk5
theorem PL_ok {n r : Nat} (hn : n < 6) (h : r ∈ PL n) : pmB n r = true ∧ r < 8 ^ n := by
  have key : ∀ (pl : List Nat), pl.all (fun r => pmB n r && decide (r < 8 ^ n)) = true → r ∈ pl → pmB n r = true ∧ r < 8 ^ n := by
    intro pl h1 h2
    have := List.all_eq_true.mp h1 r h2
    simpa using this
  rcases (show n = 0 ∨ n = 1 ∨ n = 2 ∨ n = 3 ∨ n = 4 ∨ n = 5 by omega) with rfl | rfl | rfl | rfl | rfl | rfl
  · exact key _ chp0 h
  · exact key _ chp1 h
  · exact key _ chp2 h
  · exact key _ chp3 h
  · exact key _ chp4 h
  · exact key _ chp5 h
/-- a row of n parts -/
def pm (n r : Nat) : Prop := pmB n r = true ∧ r < 8 ^ n ∧ n < 6
theorem pm_lt {n r k : Nat} (h : pm n r) (hk : k < n) : w8 r k < n := by
  have h1 := List.all_eq_true.mp h.1 k (List.mem_range.mpr hk)
  simp only [Bool.and_eq_true, decide_eq_true_eq] at h1
  exact h1.1
theorem pm_inj {n r j k : Nat} (h : pm n r) (hj : j < n) (hk : k < n) (e : w8 r j = w8 r k) : j = k := by
  have key : ∀ j k, j < k → k < n → w8 r j = w8 r k → False := by
    intro j k hjk hk e
    have h1 := List.all_eq_true.mp h.1 k (List.mem_range.mpr hk)
    simp only [Bool.and_eq_true, decide_eq_true_eq] at h1
    have h2 := List.all_eq_true.mp h1.2 j (List.mem_range.mpr hjk)
    simp [e] at h2
  rcases Nat.lt_trichotomy j k with q | q | q
  · exact absurd e (fun e => key j k q hk e)
  · exact q
  · exact absurd e.symm (fun e => key k j q hj e)
theorem met_bit {r q : Nat} : ∀ {n : Nat}, (met r n).testBit q = true ↔ ∃ k, k < n ∧ w8 r k = q
  | 0 => by simp [met]
  | n + 1 => by
    have ih := @met_bit r q n
    unfold met
    rw [Nat.testBit_or, Bool.or_eq_true, ih, Nat.testBit_shiftLeft]
    constructor
    · rintro (⟨k, h1, h2⟩ | h)
      · exact ⟨k, by omega, h2⟩
      · simp only [Bool.and_eq_true, decide_eq_true_eq] at h
        refine ⟨n, by omega, ?_⟩
        by_cases e : q = w8 r n
        · exact e.symm
        · have : Nat.testBit 1 (q - w8 r n) = false := by
            apply Nat.testBit_lt_two_pow
            have : 2 ^ 1 ≤ 2 ^ (q - w8 r n) := Nat.pow_le_pow_right (by decide) (by omega)
            omega
          rw [this] at h; exact absurd h.2 (by decide)
    · rintro ⟨k, h1, h2⟩
      by_cases e : k < n
      · exact Or.inl ⟨k, e, h2⟩
      · have : k = n := by omega
        subst this
        exact Or.inr (by simp [h2])
theorem pm_sur {n r p : Nat} (h : pm n r) (hp : p < n) : ∃ k, k < n ∧ w8 r k = p := by
  have h1 := (chk_all h.2.2 h.2.1).1.mpr h.1
  apply met_bit.mp
  rw [h1]
  have : ∀ n, n < 6 → ∀ p, p < n → ((1 <<< n) - 1).testBit p = true := by decide
  exact this n h.2.2 p hp
theorem spt_find {r p j : Nat} : ∀ (m k : Nat), k ≤ j → j < k + m → w8 r j = p → (∀ i, k ≤ i → i < j → w8 r i ≠ p) → spt r p m k = j
  | 0, k, h1, h2, _, _ => by omega
  | m + 1, k, h1, h2, h3, h4 => by
    unfold spt
    by_cases e : w8 r k = p
    · rw [if_pos e]
      by_cases e2 : k = j
      · exact e2
      · exact absurd e (h4 k (Nat.le_refl k) (by omega))
    · rw [if_neg e]
      have : k ≠ j := fun z => e (by rw [z]; exact h3)
      exact spt_find m (k + 1) (by omega) (by omega) h3 (fun i hi hj => h4 i (by omega) hj)
theorem spot_w {n r k : Nat} (h : pm n r) (hk : k < n) : spot n r (w8 r k) = k :=
  spt_find n 0 (Nat.zero_le _) (by omega) rfl (fun i _ hi e => by have := pm_inj h (by omega) hk e; omega)
theorem spot_lt {n r p : Nat} (h : pm n r) (hp : p < n) : spot n r p < n ∧ w8 r (spot n r p) = p := by
  obtain ⟨k, hk, e⟩ := pm_sur h hp
  rw [← e, spot_w h hk]
  exact ⟨hk, rfl⟩
theorem spot_inj {n r p q : Nat} (h : pm n r) (hp : p < n) (hq : q < n) (e : spot n r p = spot n r q) : p = q := by
  rw [← (spot_lt h hp).2, ← (spot_lt h hq).2, e]
theorem sm_congr {f g : Nat → Nat} : ∀ {n : Nat}, (∀ i, i < n → f i = g i) → sm f n = sm g n
  | 0, _ => rfl
  | n + 1, h => by unfold sm; rw [sm_congr (fun i hi => h i (by omega)), h n (by omega)]
theorem sm_add (f g : Nat → Nat) : ∀ n, sm (fun i => f i + g i) n = sm f n + sm g n
  | 0 => rfl
  | n + 1 => by unfold sm; rw [sm_add f g n]; omega
theorem sm_list (f : Nat → Nat) : ∀ n, sm f n = ((List.range n).map f).sum
  | 0 => rfl
  | n + 1 => by
    rw [List.range_succ, List.map_append, List.sum_append_nat, ← sm_list f n]
    simp [sm]
theorem cnt_sm (p : Nat → Bool) : ∀ n, cnt p n = sm (fun i => (p i).toNat) n
  | 0 => rfl
  | n + 1 => by unfold cnt sm; rw [cnt_sm p n]
/-- the words of a row are all parts -/
theorem words_perm {n r : Nat} (h : pm n r) : ((List.range n).map (w8 r)).Perm (List.range n) := by
  apply (List.perm_ext_iff_of_nodup ?_ List.nodup_range).mpr
  · intro a
    rw [List.mem_map, List.mem_range]
    constructor
    · rintro ⟨k, hk, rfl⟩
      exact pm_lt h (List.mem_range.mp hk)
    · intro ha
      obtain ⟨k, hk, e⟩ := pm_sur h ha
      exact ⟨k, List.mem_range.mpr hk, e⟩
  · rw [List.nodup_iff_pairwise_ne, List.pairwise_map]
    have hr : (List.range n).Pairwise (· ≠ ·) := List.nodup_iff_pairwise_ne.mp List.nodup_range
    exact hr.imp_of_mem (fun ha hb hne e => hne (pm_inj h (List.mem_range.mp ha) (List.mem_range.mp hb) e))
theorem sm_perm {n r : Nat} (h : pm n r) (g : Nat → Nat) : sm (fun k => g (w8 r k)) n = sm g n := by
  rw [sm_list, sm_list, show (fun k => g (w8 r k)) = g ∘ w8 r from rfl, ← List.map_map]
  exact ((words_perm h).map g).sum_nat
theorem sm_sym {f : Nat → Nat → Nat} (hs : ∀ a b, f a b = f b a) (h0 : ∀ a, f a a = 0) : ∀ n, sm (fun a => sm (f a) n) n = 2 * sm (fun a => sm (f a) a) n
  | 0 => rfl
  | n + 1 => by
    have ih := sm_sym hs h0 n
    have e1 : sm (fun a => sm (f a) (n + 1)) n = sm (fun a => sm (f a) n) n + sm (fun a => f a n) n := by
      rw [← sm_add]; exact sm_congr (fun i _ => rfl)
    have e2 : sm (fun a => f a n) n = sm (f n) n := sm_congr (fun i _ => hs i n)
    show sm (fun a => sm (f a) (n + 1)) n + sm (f n) (n + 1) = 2 * (sm (fun a => sm (f a) a) n + sm (f n) n)
    rw [e1, e2, ih, show sm (f n) (n + 1) = sm (f n) n + f n n from rfl, h0 n]
    omega
theorem tcl_trn {n right row : Nat} (h1 : pm n right) (h2 : pm n row) : tcl n right row = trn n row right := by
  let D : Nat → Nat → Nat := fun a b => if a < n ∧ b < n then (decide (spot n row a < spot n row b) != decide (spot n right a < spot n right b)).toNat else 0
  have hs : ∀ a b, D a b = D b a := by
    intro a b
    show (if a < n ∧ b < n then _ else _) = (if b < n ∧ a < n then _ else _)
    by_cases hab : a < n ∧ b < n
    · rw [if_pos hab, if_pos ⟨hab.2, hab.1⟩]
      by_cases e : a = b
      · subst e; rfl
      · have q1 : spot n row a ≠ spot n row b := fun z => e (spot_inj h2 hab.1 hab.2 z)
        have q2 : spot n right a ≠ spot n right b := fun z => e (spot_inj h1 hab.1 hab.2 z)
        have r1 : decide (spot n row b < spot n row a) = !decide (spot n row a < spot n row b) := by
          rcases Nat.lt_or_gt_of_ne q1 with z | z
          · simp [z, show ¬ spot n row b < spot n row a by omega]
          · simp [z, show ¬ spot n row a < spot n row b by omega]
        have r2 : decide (spot n right b < spot n right a) = !decide (spot n right a < spot n right b) := by
          rcases Nat.lt_or_gt_of_ne q2 with z | z
          · simp [z, show ¬ spot n right b < spot n right a by omega]
          · simp [z, show ¬ spot n right a < spot n right b by omega]
        rw [r1, r2]
        cases decide (spot n row a < spot n row b) <;> cases decide (spot n right a < spot n right b) <;> rfl
    · rw [if_neg hab, if_neg (fun z => hab ⟨z.2, z.1⟩)]
  have h0 : ∀ a, D a a = 0 := by
    intro a
    show (if a < n ∧ a < n then _ else _) = 0
    split <;> simp
  have e1 : tcl n right row = sm (fun s => sm (fun t => D (w8 row s) (w8 row t)) s) n := by
    refine sm_congr (fun s hsn => ?_)
    rw [cnt_sm]
    refine sm_congr (fun t ht => ?_)
    show _ = (if w8 row s < n ∧ w8 row t < n then _ else _)
    rw [if_pos ⟨pm_lt h2 hsn, pm_lt h2 (by omega)⟩, spot_w h2 hsn, spot_w h2 (show t < n by omega), decide_eq_false (show ¬ s < t by omega)]
    cases decide (spot n right (w8 row s) < spot n right (w8 row t)) <;> rfl
  have e2 : trn n row right = sm (fun a => sm (D a) a) n := by
    refine sm_congr (fun a ha => ?_)
    rw [cnt_sm]
    refine sm_congr (fun b hb => ?_)
    show _ = (if a < n ∧ b < n then _ else _)
    rw [if_pos ⟨ha, by omega⟩]
  have e3 := sm_sym hs h0 n
  have e4 := sm_sym (f := fun s t => D (w8 row s) (w8 row t)) (fun a b => hs _ _) (fun a => h0 _) n
  have e5 : sm (fun s => sm (fun t => D (w8 row s) (w8 row t)) n) n = sm (fun a => sm (D a) n) n := by
    rw [← sm_perm h2 (fun a => sm (D a) n)]
    exact sm_congr (fun s _ => sm_perm h2 (D (w8 row s)))
  rw [e1, e2]
  omega
/-! words that are left -/
def encL : List Nat → Nat
  | [] => 0
  | x :: l => x + 8 * encL l
theorem encL_inj : ∀ {l l' : List Nat}, l.length = l'.length → (∀ x ∈ l, x < 8) → (∀ x ∈ l', x < 8) → encL l = encL l' → l = l'
  | [], [], _, _, _, _ => rfl
  | [], y :: l', h, _, _, _ => by simp at h
  | x :: l, [], h, _, _, _ => by simp at h
  | x :: l, y :: l', h, h1, h2, e => by
    have a := h1 x List.mem_cons_self
    have b := h2 y List.mem_cons_self
    have e : x + 8 * encL l = y + 8 * encL l' := e
    have e1 : x = y := by omega
    have e2 : encL l = encL l' := by omega
    rw [e1, encL_inj (by simpa using h) (fun z hz => h1 z (List.mem_cons_of_mem _ hz)) (fun z hz => h2 z (List.mem_cons_of_mem _ hz)) e2]
theorem encL_app : ∀ (l : List Nat) (x : Nat), encL (l ++ [x]) = encL l + 8 ^ l.length * x
  | [], x => by simp [encL]
  | y :: l, x => by
    show y + 8 * encL (l ++ [x]) = y + 8 * encL l + 8 ^ (l.length + 1) * x
    rw [encL_app l x, Nat.mul_add, Nat.pow_succ, Nat.mul_comm (8 ^ l.length) 8, Nat.mul_assoc]; omega
theorem encL_lt : ∀ {l : List Nat}, (∀ x ∈ l, x < 8) → encL l < 8 ^ l.length
  | [], _ => by simp [encL]
  | x :: l, h => by
    have := encL_lt (fun z hz => h z (List.mem_cons_of_mem _ hz))
    have a := h x List.mem_cons_self
    show x + 8 * encL l < 8 ^ (l.length + 1)
    rw [Nat.pow_succ]; omega
/-- the words of the parts of a mask, in their row -/
def fl (n r mask : Nat) : List Nat := ((List.range n).map (w8 r)).filter (fun p => mask.testBit p)
/-- whether places go up -/
def stl (ky : Nat → Nat) : List Nat → Int → Bool
  | [], _ => true
  | x :: l, last => if (ky x : Int) < last then false else stl ky l (ky x)
theorem stl_pw {ky : Nat → Nat} : ∀ {l : List Nat} {last : Int}, stl ky l last = true ↔ (∀ x ∈ l, last ≤ (ky x : Int)) ∧ l.Pairwise (fun a b => ky a ≤ ky b)
  | [], last => by simp [stl]
  | x :: l, last => by
    have ih := @stl_pw ky l (ky x)
    unfold stl
    split
    · rename_i h
      constructor
      · intro q; cases q
      · intro q; have := q.1 x List.mem_cons_self; omega
    · rename_i h
      rw [ih, List.pairwise_cons]
      constructor
      · rintro ⟨q1, q2⟩
        refine ⟨fun y hy => ?_, fun y hy => ?_, q2⟩
        · rcases List.mem_cons.mp hy with e | e
          · subst e; omega
          · have := q1 y e; omega
        · have := q1 y hy; omega
      · rintro ⟨q1, q2, q3⟩
        exact ⟨fun y hy => by have := q2 y hy; omega, q3⟩
theorem fl_perm {n r r' mask : Nat} (h : pm n r) (h' : pm n r') : (fl n r mask).Perm (fl n r' mask) := ((words_perm h).trans (words_perm h').symm).filter _
theorem fl_mem {n r mask x : Nat} (h : pm n r) (hx : x ∈ fl n r mask) : x < n ∧ mask.testBit x = true := by
  obtain ⟨h1, h2⟩ := List.mem_filter.mp hx
  obtain ⟨k, hk, rfl⟩ := List.mem_map.mp h1
  exact ⟨pm_lt h (List.mem_range.mp hk), h2⟩
theorem fl_up {n r mask : Nat} (h : pm n r) : (fl n r mask).Pairwise (fun a b => spot n r a ≤ spot n r b) := by
  unfold fl
  refine List.Pairwise.filter _ (List.pairwise_map.mpr ?_)
  refine List.pairwise_lt_range.imp_of_mem (fun {a b} ha hb hlt => ?_)
  rw [spot_w h (List.mem_range.mp ha), spot_w h (List.mem_range.mp hb)]
  omega
/-- what is left stands alike just where its places go up -/
theorem left_stays {n row right mask : Nat} (h1 : pm n row) (h2 : pm n right) : encL (fl n row mask) = encL (fl n right mask) ↔ stl (spot n right) (fl n row mask) (-1) = true := by
  have hp := fl_perm (mask := mask) h1 h2
  rw [stl_pw]
  constructor
  · intro e
    have e2 := encL_inj hp.length_eq (fun x hx => by have := (fl_mem h1 hx).1; have := h1.2.2; omega) (fun x hx => by have := (fl_mem h2 hx).1; have := h2.2.2; omega) e
    rw [e2]
    exact ⟨fun x _ => by omega, fl_up h2⟩
  · rintro ⟨-, q⟩
    congr 1
    refine List.Perm.eq_of_pairwise (le := fun a b => spot n right a ≤ spot n right b) (fun a b ha hb u v => ?_) q (fl_up h2) hp
    exact spot_inj h2 (fl_mem h1 ha).1 (fl_mem h2 hb).1 (by omega)
