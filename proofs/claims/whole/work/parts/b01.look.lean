/-! look: the values, the reference, and the roads of the class's switch -/
theorem cnt_congr {p q : Nat → Bool} : ∀ n, (∀ i, i < n → p i = q i) → cnt p n = cnt q n
  | 0, _ => rfl
  | n + 1, h => by
    show cnt p n + (p n).toNat = cnt q n + (q n).toNat
    rw [cnt_congr n (fun i hi => h i (by omega)), h n (by omega)]
theorem cnt_cut {p : Nat → Bool} {a b : Nat} (hab : a ≤ b) (h : ∀ i, a ≤ i → i < b → p i = false) : cnt p b = cnt p a := by
  have := cnt_skip (p := p) (v := a) (b - a) (fun c h1 h2 => h c h1 (by omega))
  rwa [show a + (b - a) = b by omega] at this
theorem pcn_mk (f : Nat → Bool) : pcn (mk f) = cnt f 8 := by
  unfold pcn
  rw [cnt_cut (a := 8) (b := 31) (by omega) (fun i h1 _ => lt256_bit (mk_lt f) h1)]
  exact cnt_congr 8 (fun i hi => mk_test hi)
theorem cnt_rm {f : Nat → Bool} {x : Nat} : ∀ n, x < n → f x = true → cnt f n = cnt (fun o => decide (o ≠ x) && f o) n + 1
  | 0, h, _ => by omega
  | n + 1, h, hx => by
    show cnt f n + (f n).toNat = cnt (fun o => decide (o ≠ x) && f o) n + (decide (n ≠ x) && f n).toNat + 1
    by_cases q : n = x
    · subst q
      rw [hx, decide_eq_false (by omega)]
      have : cnt f n = cnt (fun o => decide (o ≠ n) && f o) n := cnt_congr n (fun i hi => by rw [decide_eq_true (show i ≠ n by omega), Bool.true_and])
      rw [this]
      rfl
    · rw [cnt_rm n (by omega) hx, decide_eq_true q, Bool.true_and]
      omega
theorem abv_rng {F : FTab} {n pp : Nat} {s : Int} (hf : Fin5 F n pp) {a b : Nat} (h : abv F n pp s a b = true) : b < pp := by
  unfold abv at h
  refine pth_least (T := fun _ b => b < pp) (fun a b hab => ?_) (fun a c b _ h2 => h2) pp a b h
  obtain ⟨i, hi, _, _, h3⟩ := ob_iff.mp hab
  have := hf i hi
  exact lvl_in hf _ b (by omega) h3
def lkT (pp : Nat) (x w : Int) : Int := if 0 ≤ x ∧ x < pp then (if w < 0 ∨ 3 < w then 2 else 0) else 1
def lkN (pp nf : Nat) (s : Int) (F : FTab) (x : Nat) (w : Int) : Nat :=
  if w = 1 then cnt (fun o => abv F nf pp s o x) pp else if w = 2 then cnt (fun o => abv F nf pp s x o) pp else cnt (fun o => decide (o ≠ x) && lvl F nf o x) pp
def lkV (pp nf : Nat) (s : Int) (F : FTab) (ag : Nat → Int) (x w : Int) : Int := if w = 0 then ag x.toNat else (lkN pp nf s F x.toNat w : Int)
theorem cnt_i {p : Nat → Bool} {k : Nat} (hk : k < 100) : (p k = true → w32 ((cnt p k : Int) + 1) = (cnt p (k + 1) : Int)) ∧ (p k = false → w32 ((cnt p k : Int) + 0) = (cnt p (k + 1) : Int)) := by
  have := cnt_le p k
  constructor
  · intro h
    rw [cnt_y h, w_1 (i := cnt p k) (by omega)]
  · intro h
    rw [cnt_n h, w32_id (by omega) (by omega)]; omega
theorem s_look_r {pp n nf : Nat} {s : Int} {F : FTab} {ag C : Nat → Int} {Bg E : Nat → Nat} {M : Mem} {P : Int → Mem → Prop} {x w : Int} (hS : SR M pp n s nf F ag C Bg E) (hf : SF pp s nf F)
    (h : ∀ M', Fp rs (mset M 59 0 (lkT pp x w)) M' → P (if lkT pp x w = 0 then lkV pp nf s F ag x w else 0) M') : CI m11_look 4 [(20, ((59 : Nat) : Int)), (0, x), (0, w)] M P := by
  have h5 := hf.1
  have bad : ∀ v : Int, v ≠ 0 → lkT pp x w = v → P 0 (mset M 59 0 v) := fun v hv e => by
    have := h (mset M 59 0 (lkT pp x w)) Fp.rf
    rw [e, if_neg hv] at this
    exact this
  apply q_11_look
  apply s_isPerson_r hS.1
  refine ⟨fun q => ⟨fun q1 => ⟨fun q2 => ?_, fun _ => bad 2 (by decide) ?_⟩, fun q1 => ⟨fun q2 => ⟨fun _ => ?_, fun q3 => ?_⟩, fun q2 => ⟨fun q3 => ?_, fun _ => bad 2 (by decide) ?_⟩⟩⟩, fun q => ⟨fun q3 => ?_, fun _ => bad 1 (by decide) ?_⟩⟩
  · rw [mset_s] at q2; cases q2
  · unfold lkT; rw [if_pos (bi_ne q), if_pos (by omega)]
  · have hx := bi_ne q
    have hT : lkT pp x w = 0 := by unfold lkT; rw [if_pos hx, if_neg (by omega)]
    have hS0 := hS.th (v := 0)
    rw [hT, if_pos rfl] at h
    obtain ⟨x', rfl⟩ : ∃ x' : Nat, x = (x' : Int) := ⟨x.toNat, by omega⟩
    unfold lkV at h
    rw [Int.toNat_natCast] at h ⊢
    generalize mset M 59 0 0 = M0 at h hS0 ⊢
    refine ⟨fun q4 => ?_, fun q4 => ?_⟩
    · rw [hS0.2.1]
      apply s_layNow hS0 hf
      intro M1 hF1 hm hl
      have h' := h M1 hF1
      rw [if_neg q4] at h'
      unfold lkN at h'
      generalize hp : (fun o => if w = 1 then abv F nf pp s o x' else if w = 2 then abv F nf pp s x' o else (decide (o ≠ x') && lvl F nf o x')) = p
      have e : P (cnt p pp : Int) M1 := by
        rw [← hp]
        by_cases z1 : w = 1
        · simp only [z1, if_true] at h' ⊢; exact h'
        · by_cases z2 : w = 2
          · rw [if_neg z1, if_pos z2] at h'
            have : cnt (fun o => if w = 1 then abv F nf pp s o x' else if w = 2 then abv F nf pp s x' o else (decide (o ≠ x') && lvl F nf o x')) pp = cnt (fun o => abv F nf pp s x' o) pp := cnt_congr pp (fun i _ => by rw [if_neg z1, if_pos z2])
            rw [this]; exact h'
          · rw [if_neg z1, if_neg z2] at h'
            have : cnt (fun o => if w = 1 then abv F nf pp s o x' else if w = 2 then abv F nf pp s x' o else (decide (o ≠ x') && lvl F nf o x')) pp = cnt (fun o => decide (o ≠ x') && lvl F nf o x') pp := cnt_congr pp (fun i _ => by rw [if_neg z1, if_neg z2])
            rw [this]; exact h'
      have hS1 := hS0.rs hF1
      refine loop_up (Inv := fun k M2 => M2 = M1) (G := fun k M2 => A m11_look 4 0 63 [(20, ((59 : Nat) : Int)), (0, (x' : Int)), (0, w), (0, (cnt p k : Int)), (0, (k : Int)), (2, 0)] [] M2 (Ki P)) pp ?_ ?_ 0 M1 (by omega) rfl
      · rintro M2 rfl
        apply r_11_look_63
        rw [hS1.1]
        exact ⟨fun _ => e, fun q => by omega⟩
      · rintro k M2 hk rfl ih
        have ih := ih M2 rfl
        obtain ⟨c1, c2⟩ := cnt_i (p := p) (k := k) (by omega)
        have pk : p k = (if w = 1 then abv F nf pp s k x' else if w = 2 then abv F nf pp s x' k else (decide (k ≠ x') && lvl F nf k x')) := by rw [← hp]
        apply r_11_look_63
        rw [hS1.1, w_1 (i := k) (by omega)]
        refine ⟨fun q => by omega, fun _ => ⟨fun q5 => ⟨fun q6 => ⟨fun q7 => ?_, fun q7 => ?_⟩, fun q6 => ?_⟩, fun q5 => ?_⟩⟩
        · rw [if_neg q5, if_neg q6, decide_eq_false (by omega), Bool.false_and] at pk
          rw [c2 pk]; exact ih
        · rw [if_neg q5, if_neg q6, decide_eq_true (by omega), Bool.true_and] at pk
          apply s_pair (by omega) (by omega)
          rw [Int.toNat_natCast, hl k x' (by omega) (by omega), ← pk]
          refine ⟨by omega, fun q8 => ?_, fun q8 => ?_⟩
          · rw [c2 (tn0 q8)]; exact ih
          · rw [c1 (tn1 q8)]; exact ih
        · rw [if_neg q5, if_pos q6] at pk
          apply s_pair (by omega) (by omega)
          rw [Int.toNat_natCast, hm x' k (by omega) (by omega), ← pk]
          refine ⟨by omega, fun q8 => ?_, fun q8 => ?_⟩
          · rw [c2 (tn0 q8)]; exact ih
          · rw [c1 (tn1 q8)]; exact ih
        · rw [if_pos q5] at pk
          apply s_pair (by omega) (by omega)
          rw [Int.toNat_natCast, hm k x' (by omega) (by omega), ← pk]
          refine ⟨by omega, fun q8 => ?_, fun q8 => ?_⟩
          · rw [c2 (tn0 q8)]; exact ih
          · rw [c1 (tn1 q8)]; exact ih
    · rw [if_pos q4] at h
      rw [hS0.2.2.2.1 x' (by omega)]
      exact ⟨by omega, h M0 Fp.rf⟩
  · rw [mset_s] at q3; exact absurd rfl q3
  · rw [mset_s] at q3; cases q3
  · unfold lkT; rw [if_pos (bi_ne q), if_pos (by omega)]
  · rw [mset_s] at q3; cases q3
  · unfold lkT; rw [if_neg (bi_eq q)]
/-- the roads of the class's switch, once the ORDER for now is built -/
theorem s_look1 {pp nf : Nat} {s : Int} {F : FTab} {x : Nat} {M : Mem} {P : Int → Mem → Prop} (hp : pp ≤ 5) (hx : x < pp) (h4 : M 34 4 = (pp : Int)) (hr : rows M 37 (abv F nf pp s)) (h : P (lkN pp nf s F x 1 : Int) M) : CI m5_countAbove 3 [(15, ((34 : Nat) : Int)), (0, (x : Int))] M P :=
  s_countAbove isO34 hp h4 (by omega) hr h
theorem s_look2 {pp nf : Nat} {s : Int} {F : FTab} {x : Nat} {M : Mem} {P : Int → Mem → Prop} (hp : pp ≤ 5) (hx : x < pp) (hf : Fin5 F nf pp) (hr : rows M 37 (abv F nf pp s)) (h : P (lkN pp nf s F x 2 : Int) M) : CI m5_belowOf 2 [(15, ((34 : Nat) : Int)), (0, (x : Int))] M (fun r M1 => CI mJ_bitCount 1 [(0, r)] M1 P) := by
  have a37 : ((aln (34 + 3) : Nat) : Int) = 8 := by decide
  apply q_5_belowOf
  apply s_at (by omega) (by omega)
  have e37 : M (34 + 3) (x : Int).toNat = (mk (abv F nf pp s x) : Int) := by rw [Int.toNat_natCast]; exact hr x (by omega)
  rw [e37]
  apply s_bitCount (mk_lt _)
  rw [pcn_mk, cnt_cut (a := pp) (b := 8) (by omega) (fun i h1 _ => by
    cases z : abv F nf pp s x i with
    | false => rfl
    | true => have := abv_rng hf z; omega)]
  exact h
theorem s_look3 {pp nf : Nat} {s : Int} {F : FTab} {x : Nat} {M : Mem} {P : Int → Mem → Prop} (hp : pp ≤ 5) (hx : x < pp) (hf : Fin5 F nf pp) (hr : rows M 35 (lvl F nf)) (h : P (lkN pp nf s F x 3 : Int) M) : CI m5_levelWith 2 [(15, ((34 : Nat) : Int)), (0, (x : Int))] M (fun r M1 => CI mJ_bitCount 1 [(0, r)] M1 (fun r2 M2 => P (w32 (r2 - 1)) M2)) := by
  have a35 : ((aln (34 + 1) : Nat) : Int) = 8 := by decide
  apply q_5_levelWith
  apply s_at (by omega) (by omega)
  have e35 : M (34 + 1) (x : Int).toNat = (mk (lvl F nf x) : Int) := by rw [Int.toNat_natCast]; exact hr x (by omega)
  rw [e35]
  apply s_bitCount (mk_lt _)
  rw [pcn_mk, cnt_cut (a := pp) (b := 8) (by omega) (fun i h1 _ => by
    cases z : lvl F nf x i with
    | false => rfl
    | true => have := lvl_in hf x i hx z; omega), cnt_rm pp hx (lvl_refl F nf x)]
  have hle := cnt_le (fun o => decide (o ≠ x) && lvl F nf x o) pp
  have e : cnt (fun o => decide (o ≠ x) && lvl F nf x o) pp = lkN pp nf s F x 3 := by
    refine cnt_congr pp (fun i _ => ?_)
    have hs := (lvl_eqv F nf).1
    congr 1
    rw [Bool.eq_iff_iff]
    exact ⟨hs x i, hs i x⟩
  rw [e] at hle ⊢
  rw [w32_id (by omega) (by omega), show ((lkN pp nf s F x 3 + 1 : Nat) : Int) - 1 = (lkN pp nf s F x 3 : Int) by omega]
  exact h
