/-! the class: FACTS and THE ORDER drawn from them -/
theorem loop_up {Inv G : Nat → Mem → Prop} (n : Nat) (hend : ∀ M, Inv n M → G n M) (hstep : ∀ i M, i < n → Inv i M → (∀ M', Inv (i + 1) M' → G (i + 1) M') → G i M) : ∀ i M, i ≤ n → Inv i M → G i M := by
  intro i
  generalize hk : n - i = k
  induction k generalizing i with
  | zero =>
    intro M hi h
    have : i = n := by omega
    subst this
    exact hend M h
  | succ k ih =>
    intro M hi h
    exact hstep i M (by omega) h (fun M' h' => ih (i + 1) (by omega) M' (by omega) h')
theorem w_1 {i : Nat} (h : i < 2147483647) : w32 ((i : Int) + 1) = ((i + 1 : Nat) : Int) := by unfold w32; omega
theorem w_n {x : Int} {n : Nat} (h : x = (n : Int)) (hn : n < 2147483648) : w32 x = (n : Int) := by rw [h, w32_id (by omega) (by omega)]
def FcT (M : Mem) (f : Nat) : FTab := fun i c => M (f + 1) (5 * i + c)
theorem w5 {i c : Nat} (hi : i < 100) (hc : c < 5) : w32 (w32 ((i : Int) * 5) + (c : Int)) = ((5 * i + c : Nat) : Int) := by unfold w32; omega
theorem s_cell {o i c : Nat} {M : Mem} {P : Int → Mem → Prop} (ho : aln (o + 1) = 120) (hi : i < 24) (hc : c < 5) (h : P (FcT M o i c) M) : CI m2_cell 2 [(12, (o : Int)), (0, (i : Int)), (0, (c : Int))] M P := by
  apply q_2_cell
  rw [w5 (by omega) hc]
  apply s_at (by omega) (by rw [ho]; omega)
  rw [Int.toNat_natCast]
  exact h
theorem s_lives {o i : Nat} {M : Mem} {P : Int → Mem → Prop} (ho : aln (o + 1) = 120) (hi : i < 24) (hs : (i : Int) < M o 1) (h : P (bi (FcT M o i 4 = 0)) M) : CI m2_lives 2 [(12, (o : Int)), (0, (i : Int))] M P := by
  apply q_2_lives
  refine ⟨fun q => by omega, fun _ => ⟨fun q => by omega, fun _ => ?_⟩⟩
  rw [show w32 (w32 ((i : Int) * 5) + 4) = ((5 * i + 4 : Nat) : Int) from w5 (c := 4) (by omega) (by omega)]
  apply s_at (by omega) (by rw [ho]; omega)
  rw [Int.toNat_natCast]
  exact ⟨fun q => by rwa [bi_f (show ¬ FcT M o i 4 = 0 from q)] at h, fun q => by rwa [bi_t (show FcT M o i 4 = 0 from q)] at h⟩
theorem s_lives_o {o : Nat} {x : Int} {M : Mem} {P : Int → Mem → Prop} (hs : x < 0 ∨ M o 1 ≤ x) (h : P 0 M) : CI m2_lives 2 [(12, (o : Int)), (0, x)] M P := by
  apply q_2_lives
  exact ⟨fun q => h, fun _ => ⟨fun q => h, fun _ => by omega⟩⟩
theorem s_isLevel {o i : Nat} {M : Mem} {P : Int → Mem → Prop} (ho : aln (o + 1) = 120) (hi : i < 24) (h : P (bi (FcT M o i 2 = 1)) M) : CI m2_isLevel 2 [(12, (o : Int)), (0, (i : Int))] M P := by
  apply q_2_isLevel
  rw [show w32 (w32 ((i : Int) * 5) + 2) = ((5 * i + 2 : Nat) : Int) from w5 (c := 2) (by omega) (by omega)]
  apply s_at (by omega) (by rw [ho]; omega)
  rw [Int.toNat_natCast]
  exact ⟨fun q => by rwa [bi_f (show ¬ FcT M o i 2 = 1 from q)] at h, fun q => by rwa [bi_t (show FcT M o i 2 = 1 from q)] at h⟩
theorem s_isOf {o i : Nat} {s : Int} {M : Mem} {P : Int → Mem → Prop} (ho : aln (o + 1) = 120) (hi : i < 24) (h : P (bi (FcT M o i 3 = -1 ∨ FcT M o i 3 = s)) M) : CI m2_isOf 2 [(12, (o : Int)), (0, (i : Int)), (0, s)] M P := by
  apply q_2_isOf
  rw [show w32 (w32 ((i : Int) * 5) + 3) = ((5 * i + 3 : Nat) : Int) from w5 (c := 3) (by omega) (by omega)]
  apply s_at (by omega) (by rw [ho]; omega)
  rw [Int.toNat_natCast]
  exact ⟨fun q => by rwa [bi_t (show FcT M o i 3 = -1 ∨ FcT M o i 3 = s from Or.inl q)] at h, fun q => ⟨fun q2 => by rwa [bi_f (show ¬ (FcT M o i 3 = -1 ∨ FcT M o i 3 = s) from fun z => z.elim q q2)] at h, fun q2 => by rwa [bi_t (show FcT M o i 3 = -1 ∨ FcT M o i 3 = s from Or.inr q2)] at h⟩⟩
/-- a row of masks -/
def rows (M : Mem) (r : Nat) (L : Nat → Nat → Bool) : Prop := ∀ p, p < 8 → M r p = ((mk (L p) : Nat) : Int)
theorem mk_lt31 (f : Nat → Bool) : mk f < 2147483648 := by have := mk_lt f; omega
theorem rows_put {M : Mem} {r p : Nat} {L : Nat → Nat → Bool} {v : Nat → Bool} {x : Int} (h : rows M r L) (hp : p < 8) (hx : x = ((mk v : Nat) : Int)) {L' : Nat → Nat → Bool} (h1 : ∀ q, q < 8 → L' p q = v q) (h2 : ∀ p', p' < 8 → p' ≠ p → ∀ q, q < 8 → L' p' q = L p' q) : rows (mset M r p x) r L' := by
  intro p' hp'
  by_cases e : p' = p
  · subst e
    rw [mset_s, hx, mk_congr h1]
  · rw [mset_j e, h p' hp', mk_congr (h2 p' hp' e)]
theorem rows_congr {M : Mem} {r : Nat} {L L' : Nat → Nat → Bool} (h : rows M r L) (he : ∀ p, p < 8 → ∀ q, q < 8 → L' p q = L p q) : rows M r L' := fun p hp => by rw [h p hp, mk_congr (he p hp)]
theorem s_makeLevel {o a b people : Nat} {M : Mem} {P : Mem → Prop} {L : Nat → Nat → Bool} (ho : aln (o + 1) = 8) (hp5 : people ≤ 5) (hpe : M o 4 = (people : Int)) (hr : rows M (o + 1) L) (ha : a < people) (hb : b < people)
    (h : ∀ M', Fr (· = o + 1) M M' → rows M' (o + 1) (fun p q => if (L a p || L b p) && decide (p < people) then L a q || L b q else L p q) → P M') : CD m5_makeLevel 2 [(15, (o : Int)), (0, (a : Int)), (0, (b : Int))] M P := by
  apply q_5_makeLevel
  apply s_at (by omega) (by rw [ho]; omega)
  apply s_at (by omega) (by rw [ho]; omega)
  rw [Int.toNat_natCast, Int.toNat_natCast, hr a (by omega), hr b (by omega), ior_n (mk_lt31 _) (mk_lt31 _), mk_or]
  generalize hU : (fun q => L a q || L b q) = U
  have hU' : ∀ q, (L a q || L b q) = U q := fun q => by rw [← hU]
  refine loop_up (Inv := fun i M1 => Fr (· = o + 1) M M1 ∧ rows M1 (o + 1) (fun p q => if U p && decide (p < i) then U q else L p q)) (G := fun i M1 => A m5_makeLevel 2 0 21 [(15, (o : Int)), (2, 0), (2, 0), (0, ((mk U : Nat) : Int)), (0, (i : Int))] [] M1 (Kd P)) people ?_ ?_ 0 M (by omega) ⟨Fr.rf, rows_congr hr (fun p _ q _ => by simp)⟩
  · rintro M1 ⟨hF, hR⟩
    apply r_5_makeLevel_21
    rw [hF o (by omega), hpe]
    refine ⟨fun _ => h M1 hF (rows_congr hR (fun p _ q _ => by simp only [hU'])), fun q => by omega⟩
  · rintro i M1 hi ⟨hF, hR⟩ ih
    apply r_5_makeLevel_21
    rw [hF o (by omega), hpe]
    refine ⟨fun _ => by omega, fun _ => ⟨fun q => ?_, fun q => ?_⟩⟩
    · have hf : ¬ U i = true := fun z => q ((bit_1 (mk_lt31 _) (by omega)).mpr (by rw [mk_test (by omega)]; exact z))
      rw [w_1 (by omega)]
      refine ih M1 ⟨hF, rows_congr hR (fun p _ q _ => ?_)⟩
      by_cases e : p = i
      · subst e; simp [hf]
      · simp [show p < i + 1 ↔ p < i by omega]
    · have ht : U i = true := by
        have := (bit_1 (mk_lt31 _) (by omega)).mp q
        rwa [mk_test (by omega)] at this
      apply s_put (by omega) (by rw [ho]; omega)
      rw [w_1 (by omega), Int.toNat_natCast]
      refine ih _ ⟨hF.set rfl, rows_put hR (by omega) rfl (fun q _ => by simp [ht]) (fun p' _ e q _ => by simp [show p' < i + 1 ↔ p' < i by omega])⟩
theorem s_putAbove {o a b people : Nat} {M : Mem} {P : Mem → Prop} {L B : Nat → Nat → Bool} (ho : aln (o + 1) = 8) (ho2 : aln (o + 2) = 8) (hp5 : people ≤ 5) (hpe : M o 4 = (people : Int)) (hr : rows M (o + 1) L) (hB : rows M (o + 2) B) (ha : a < people) (hb : b < people)
    (h : ∀ M', Fr (· = o + 2) M M' → rows M' (o + 2) (fun p q => B p q || (L a p && decide (p < people) && L b q)) → P M') : CD m5_putAbove 2 [(15, (o : Int)), (0, (a : Int)), (0, (b : Int))] M P := by
  apply q_5_putAbove
  apply s_at (by omega) (by rw [ho]; omega)
  rw [Int.toNat_natCast, hr a (by omega)]
  refine loop_up (Inv := fun i M1 => Fr (· = o + 2) M M1 ∧ rows M1 (o + 2) (fun p q => B p q || (L a p && decide (p < i) && L b q))) (G := fun i M1 => A m5_putAbove 2 0 12 [(15, (o : Int)), (2, 0), (0, (b : Int)), (0, ((mk (L a) : Nat) : Int)), (0, (i : Int))] [] M1 (Kd P)) people ?_ ?_ 0 M (by omega) ⟨Fr.rf, rows_congr hB (fun p _ q _ => by simp)⟩
  · rintro M1 ⟨hF, hR⟩
    apply r_5_putAbove_12
    rw [hF o (by omega), hpe]
    exact ⟨fun _ => h M1 hF hR, fun q => by omega⟩
  · rintro i M1 hi ⟨hF, hR⟩ ih
    apply r_5_putAbove_12
    rw [hF o (by omega), hpe]
    refine ⟨fun _ => by omega, fun _ => ⟨fun q => ?_, fun q => ?_⟩⟩
    · have hf : ¬ L a i = true := fun z => q ((bit_1 (mk_lt31 _) (by omega)).mpr (by rw [mk_test (by omega)]; exact z))
      rw [w_1 (by omega)]
      refine ih M1 ⟨hF, rows_congr hR (fun p _ q _ => ?_)⟩
      by_cases e : p = i
      · subst e; simp [hf]
      · simp [show p < i + 1 ↔ p < i by omega]
    · have ht : L a i = true := by
        have := (bit_1 (mk_lt31 _) (by omega)).mp q
        rwa [mk_test (by omega)] at this
      apply s_at (by omega) (by rw [ho2]; omega)
      apply s_at (by omega) (by rw [ho]; omega)
      apply s_put (by omega) (by rw [ho2]; omega)
      rw [w_1 (by omega), Int.toNat_natCast, Int.toNat_natCast, hR i (by omega), hF (o + 1) (by omega), hr b (by omega), ior_n (mk_lt31 _) (mk_lt31 _), mk_or]
      refine ih _ ⟨hF.set rfl, rows_put hR (by omega) rfl (fun q _ => by simp [ht]) (fun p' _ e q _ => by simp [show p' < i + 1 ↔ p' < i by omega])⟩
/-- one round of the middles: as far as person i -/
def wst (R : Nat → Nat → Bool) (m i : Nat) (p q : Nat) : Bool := if p < i then R p q || (R p m && R m q) else R p q
theorem s_goOn {o people : Nat} {M : Mem} {P : Mem → Prop} {B : Nat → Nat → Bool} (ho2 : aln (o + 2) = 8) (ho3 : aln (o + 3) = 8) (hp5 : people ≤ 5) (hpe : M o 4 = (people : Int)) (hB : rows M (o + 2) B) (hz : ∀ p q, people ≤ p → B p q = false)
    (h : ∀ M', Fr (· = o + 3) M M' → rows M' (o + 3) (pth B people) → P M') : CD m5_goOn 2 [(15, (o : Int))] M P := by
  apply q_5_goOn
  refine ⟨by rw [ho2, ho3]; omega, ?_⟩
  have hz2 : ∀ m p q, people ≤ p → pth B m p q = false := by
    intro m
    induction m with
    | zero => exact hz
    | succ m ih => intro p q hp; unfold pth; rw [ih p q hp, ih p m hp]; rfl
  refine loop_up (Inv := fun m M1 => Fr (· = o + 3) M M1 ∧ rows M1 (o + 3) (pth B m)) (G := fun m M1 => A m5_goOn 2 0 17 [(15, (o : Int)), (0, (m : Int)), (2, 0)] [] M1 (Kd P)) people ?_ ?_ 0 _ (by omega) ⟨?_, ?_⟩
  · rintro M1 ⟨hF, hR⟩
    apply r_5_goOn_17
    rw [hF o (by omega), hpe]
    exact ⟨fun _ => h M1 hF hR, fun q => by omega⟩
  · rintro m M1 hm ⟨hF, hR⟩ ih
    apply r_5_goOn_17
    rw [hF o (by omega), hpe]
    refine ⟨fun _ => by omega, fun _ => ?_⟩
    refine loop_up (Inv := fun i M2 => Fr (· = o + 3) M M2 ∧ rows M2 (o + 3) (wst (pth B m) m i)) (G := fun i M2 => A m5_goOn 2 0 27 [(15, (o : Int)), (0, (m : Int)), (0, (i : Int))] [] M2 (Kd P)) people ?_ ?_ 0 M1 (by omega) ⟨hF, rows_congr hR (fun p _ q _ => by simp [wst])⟩
    · rintro M2 ⟨hF2, hR2⟩
      apply r_5_goOn_27
      rw [hF2 o (by omega), hpe]
      refine ⟨fun _ => ?_, fun q => by omega⟩
      rw [w_1 (by omega)]
      refine ih M2 ⟨hF2, rows_congr hR2 (fun p _ q _ => ?_)⟩
      unfold wst
      by_cases hpp : p < people
      · rw [if_pos hpp]; rfl
      · rw [if_neg hpp, hz2 _ p q (by omega), hz2 _ p q (by omega)]
    · rintro i M2 hi ⟨hF2, hR2⟩ ih2
      apply r_5_goOn_27
      rw [hF2 o (by omega), hpe]
      refine ⟨fun _ => by omega, fun _ => ?_⟩
      apply s_at (by omega) (by rw [ho3]; omega)
      rw [Int.toNat_natCast, hR2 i (by omega)]
      have hii : wst (pth B m) m i i m = pth B m i m := by simp [wst]
      have hmm : ∀ q, wst (pth B m) m i m q = pth B m m q := by
        intro q
        unfold wst
        split
        · cases h1 : pth B m m m <;> cases h2 : pth B m m q <;> rfl
        · rfl
      refine ⟨fun q => ?_, fun q => ?_⟩
      · have hf : ¬ pth B m i m = true := fun z => q ((bit_1 (mk_lt31 _) (by omega)).mpr (by rw [mk_test (by omega), hii]; exact z))
        rw [w_1 (by omega)]
        refine ih2 M2 ⟨hF2, rows_congr hR2 (fun p _ q _ => ?_)⟩
        unfold wst
        by_cases e : p = i
        · subst e; simp [hf]
        · simp [show p < i + 1 ↔ p < i by omega]
      · have ht : pth B m i m = true := by
          have := (bit_1 (mk_lt31 _) (by omega)).mp q
          rwa [mk_test (by omega), hii] at this
        apply s_at (by omega) (by rw [ho3]; omega)
        apply s_at (by omega) (by rw [ho3]; omega)
        apply s_put (by omega) (by rw [ho3]; omega)
        rw [w_1 (by omega), Int.toNat_natCast, Int.toNat_natCast, hR2 i (by omega), hR2 m (by omega), ior_n (mk_lt31 _) (mk_lt31 _), mk_or]
        refine ih2 _ ⟨hF2.set rfl, rows_put hR2 (by omega) rfl (fun q _ => ?_) (fun p' _ e q _ => ?_)⟩
        · rw [hmm]; simp [wst, ht]
        · simp [wst, show p' < i + 1 ↔ p' < i by omega]
  · intro k hk
    funext j
    unfold mcpy
    rw [if_neg (fun z => hk z.1)]
  · intro p hp
    unfold mcpy
    rw [if_pos ⟨rfl, by omega⟩, hB p hp]
    rfl
