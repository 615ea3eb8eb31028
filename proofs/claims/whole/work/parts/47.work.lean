/-! E: worked out by the class and by the reference -/
def rv (o : Option (List Int)) : Option Int := o.bind List.head?
def nov (o : Option Int) : Int := match o with | some v => v | none => -9223372036854775808
theorem evl_none {C N : Nat → Int} {i n : Nat} {st : List Int} (h : sk N (C i) st = none) : evl C N i (n + 1) st = none := by
  show (sk N (C i) st).bind _ = none
  rw [h]; rfl
theorem evl_some {C N : Nat → Int} {i n : Nat} {st st' : List Int} (h : sk N (C i) st = some st') : evl C N i (n + 1) st = evl C N (i + 1) n st' := by
  show (sk N (C i) st).bind _ = _
  rw [h]; rfl
theorem wfc_s {C : Nat → Int} {i n d e : Nat} (h : wfc C i (n + 1) d = some e) : ∃ d', wd (C i) d = some d' ∧ wfc C (i + 1) n d' = some e := by
  have h : (wd (C i) d).bind (wfc C (i + 1) n) = some e := h
  cases hw : wd (C i) d with
  | none => rw [hw] at h; cases h
  | some d' => rw [hw] at h; exact ⟨d', rfl, h⟩
theorem sk_wd {N : Nat → Int} {k : Int} {st : List Int} {d' : Nat} (hw : wd k st.length = some d') (hn : sk N k st = none) : ∃ x y st'', st = y :: x :: st'' ∧ 10010 ≤ k ∧ k ≤ 10022 ∧ k ≠ 10012 ∧ jnv k x y = none := by
  unfold sk at hn
  unfold wd at hw
  split at hw
  · split at hn
    · cases hn
    · split at hn
      · cases hn
      · omega
  · split at hw
    · rename_i h1 h2
      rw [if_neg (by omega), if_neg (by omega)] at hn
      split at hn
      · simp at h2
      · rw [if_pos h2.1] at hn; cases hn
    · split at hw
      · rename_i h1 h2 h3
        rw [if_neg (by omega), if_neg (by omega)] at hn
        split at hn
        · simp at h3
        · rw [if_neg (by omega)] at hn
          split at hn
          · simp at h3
          · rename_i y st' x st''
            refine ⟨x, y, st'', rfl, h3.1, h3.2.1, h3.2.2.1, ?_⟩
            cases hj : jnv k x y with
            | none => rfl
            | some v => rw [hj] at hn; cases hn
      · cases hw
/-- the formula's code in an object at o -/
theorem s_work {o p j b e : Nat} {M : Mem} {P : Int → Mem → Prop} (ho : aln (o + 1) = 64 ∧ aln (o + 2) = 6 ∧ aln (o + 3) = 6 ∧ aln (o + 4) = 64) (hp : aln p = 8) (hj : j < 6) (hpo : p ≠ o + 4)
    (hb : M (o + 2) j = (b : Int)) (he : M (o + 3) j = (e : Int)) (hbe : b ≤ e) (he64 : e ≤ 64) (hw : wfc (M (o + 1)) b (e - b) 0 = some 1) (hN : ∀ i, i < 8 → -1000000000000 ≤ M p i ∧ M p i ≤ 1000000000000)
    (h : ∀ M', Fr (· = o + 4) M M' → P (nov (rv (evl (M (o + 1)) (M p) b (e - b) []))) M') : CL m3_work 4 [(13, (o : Int)), (0, (j : Int)), (30, (p : Int))] M P := by
  obtain ⟨ho1, ho2, ho3, ho4⟩ := ho
  apply q_3_work
  apply s_at (by omega) (by rw [ho3]; omega)
  apply s_at (by omega) (by rw [ho2]; omega)
  rw [Int.toNat_natCast, hb, he]
  generalize hC : M (o + 1) = C at hw h
  generalize hNe : M p = N at hN h
  have key : ∀ (n i : Nat) (st : List Int) (M1 : Mem), i + n = e → b ≤ i → st.length ≤ i - b → wfc C i n st.length = some 1 → bdd st → onst M1 (o + 4) st → Fr (· = o + 4) M M1 → (∀ M', Fr (· = o + 4) M M' → P (nov (rv (evl C N i n st))) M') → A m3_work 4 0 22 [(13, (o : Int)), (2, 0), (30, (p : Int)), (0, (e : Int)), (0, (st.length : Int)), (0, (i : Int)), (2, 0), (2, 0), (2, 0)] [] M1 (Kl P) := by
    intro n
    induction n with
    | zero =>
      intro i st M1 hi hbi hlen hwf hbd hst hF hk
      apply r_3_work_22
      refine ⟨fun _ => ?_, fun q => by omega⟩
      apply s_lat (by omega) (by rw [ho4]; omega)
      have hl : st.length = 1 := by
        have hwf : some st.length = some 1 := hwf
        exact Option.some.inj hwf
      match st, hl, hst with
      | [x], _, hst =>
        have := hk M1 hF
        rw [show nov (rv (evl C N i 0 [x])) = x from rfl] at this
        rw [show M1 (o + 4) (0 : Int).toNat = x from hst.1]
        exact this
    | succ n ih =>
      intro i st M1 hi hbi hlen hwf hbd hst hF hk
      obtain ⟨d', hwd, hwf'⟩ := wfc_s hwf
      have hC1 : M1 (o + 1) = C := by rw [hF (o + 1) (by omega)]; exact hC
      have hN1 : M1 p = N := by rw [hF p hpo]; exact hNe
      have hst4 : ((aln (o + 4) : Nat) : Int) = 64 := by rw [ho4]; rfl
      apply r_3_work_22
      refine ⟨fun q => by omega, fun _ => ?_⟩
      apply s_at (by omega) (by rw [ho1]; omega)
      rw [Int.toNat_natCast, hC1, w_1 (by omega)]
      -- a knot that puts one more
      have push : ∀ v : Int, sk N (C i) st = some (v :: st) → ∀ v', v' = v → CD m10_putLong 1 [(32, ((o + 4 : Nat) : Int)), (0, (st.length : Int)), (1, v')] M1 (fun M50 => A m3_work 4 0 22 [(13, (o : Int)), (2, 0), (30, (p : Int)), (0, (e : Int)), (0, (w32 ((st.length : Int) + 1))), (0, ((i + 1 : Nat) : Int)), (2, 0), (2, 0), (2, 0)] [] M50 (Kl P)) := by
        rintro v hv v' rfl
        have hl := sk_len hwd hv
        apply s_lput (by omega) (by rw [hst4]; omega)
        rw [w_1 (by omega), Int.toNat_natCast]
        refine ih (i + 1) (v' :: st) _ (by omega) (by omega) (by simp; omega) (by rw [hl]; exact hwf') (sk_bd hN hwd hbd hv) ⟨by rw [mset_s], onst_set hst (Nat.le_refl _)⟩ (hF.set rfl) (fun M' hM' => ?_)
        rw [← evl_some hv]; exact hk M' hM'
      by_cases h1 : C i < 10000
      · refine ⟨fun q => by omega, fun _ => push (C i) (by unfold sk; rw [if_pos h1]) _ rfl⟩
      · refine ⟨fun _ => ?_, fun q => by omega⟩
        by_cases h2 : C i < 10010
        · refine ⟨fun q => by omega, fun _ => ?_⟩
          have hr : 10000 ≤ C i ∧ C i < 10008 := by
            unfold wd at hwd
            split at hwd
            · omega
            · split at hwd
              · omega
              · split at hwd
                · omega
                · cases hwd
          rw [w32_id (by omega) (by omega)]
          apply s_at (by omega) (by rw [hp]; omega)
          rw [hN1]
          exact push _ (by unfold sk; rw [if_neg h1, if_pos h2]) _ rfl
        · refine ⟨fun _ => ?_, fun q => by omega⟩
          by_cases h3 : C i = 10012
          · refine ⟨fun q => absurd h3 q, fun _ => ?_⟩
            have hd1 : 1 ≤ st.length := by
              unfold wd at hwd
              rw [if_neg (by omega)] at hwd
              split at hwd
              · omega
              · rw [if_neg (by omega)] at hwd; cases hwd
            match st, hd1, hst, hbd, hlen, hwd, hwf', hk with
            | x :: st', _, hst, hbd, hlen, hwd, hwf', hk =>
              have hv : sk N (C i) (x :: st') = some (bi (x = 0) :: st') := by
                unfold sk; rw [if_neg h1, if_neg h2]; dsimp only; rw [if_pos h3]
              have hl := sk_len hwd hv
              have hx : (((x :: st').length : Nat) : Int) - 1 = (st'.length : Int) := by simp
              simp only [List.length_cons] at hlen
              rw [hx, w32_id (by omega) (by omega)]
              apply s_lat (by omega) (by rw [hst4]; omega)
              rw [Int.toNat_natCast, hst.1]
              have put : ∀ v, v = bi (x = 0) → CD m10_putLong 1 [(32, ((o + 4 : Nat) : Int)), (0, (st'.length : Int)), (1, v)] M1 (fun M50 => A m3_work 4 0 22 [(13, (o : Int)), (2, 0), (30, (p : Int)), (0, (e : Int)), (0, (((x :: st').length : Nat) : Int)), (0, ((i + 1 : Nat) : Int)), (2, 0), (2, 0), (2, 0)] [] M50 (Kl P)) := by
                rintro v rfl
                apply s_lput (by omega) (by rw [hst4]; omega)
                rw [Int.toNat_natCast]
                refine ih (i + 1) (bi (x = 0) :: st') _ (by omega) (by omega) (by simp; omega) (by rw [hl]; exact hwf') (sk_bd hN hwd hbd hv) ⟨by rw [mset_s], onst_set hst.2 (Nat.le_refl _)⟩ (hF.set rfl) (fun M' hM' => ?_)
                rw [← evl_some hv]; exact hk M' hM'
              exact ⟨fun q => put 0 (bi_f q).symm, fun q => put 1 (bi_t q).symm⟩
          · refine ⟨fun _ => ?_, fun q => absurd q h3⟩
            have hd2 : 2 ≤ st.length ∧ C i ≤ 10022 := by
              unfold wd at hwd
              rw [if_neg (by omega), if_neg (by omega)] at hwd
              split at hwd
              · omega
              · cases hwd
            match st, hd2.1, hst, hbd, hlen, hwd, hwf', hk with
            | y :: x :: st', _, hst, hbd, hlen, hwd, hwf', hk =>
              simp only [List.length_cons] at hlen
              have e1 : w32 (((y :: x :: st').length : Int) + (-1)) = ((st'.length + 1 : Nat) : Int) := by simp only [List.length_cons]; unfold w32; omega
              have e2 : w32 (((st'.length + 1 : Nat) : Int) - 1) = (st'.length : Int) := by unfold w32; omega
              rw [e1, e2]
              apply s_lat (by omega) (by rw [hst4]; omega)
              apply s_lat (by omega) (by rw [hst4]; omega)
              rw [Int.toNat_natCast, Int.toNat_natCast, show M1 (o + 4) (st'.length + 1) = y from hst.1, show M1 (o + 4) st'.length = x from hst.2.1]
              apply s_joined ⟨by omega, hd2.2, h3⟩ (bdd_h (bdd_t hbd)) (bdd_h hbd)
              cases hjv : jnv (C i) x y with
              | none =>
                refine ⟨fun q => absurd rfl q, fun _ => ?_⟩
                have hv : sk N (C i) (y :: x :: st') = none := by
                  unfold sk; rw [if_neg h1, if_neg h2]; dsimp only; rw [if_neg h3, hjv]; rfl
                have := hk M1 hF
                rw [evl_none hv] at this
                exact this
              | some v =>
                have hv : sk N (C i) (y :: x :: st') = some (v :: st') := by
                  unfold sk; rw [if_neg h1, if_neg h2]; dsimp only; rw [if_neg h3, hjv]; rfl
                have hl := sk_len hwd hv
                have hb2 := jnv_bd (bdd_h (bdd_t hbd)) hjv
                refine ⟨fun _ => ?_, fun q => by have q : v = -9223372036854775808 := q; omega⟩
                apply s_lput (by omega) (by rw [hst4]; omega)
                rw [Int.toNat_natCast]
                have := ih (i + 1) (v :: st') (mset M1 (o + 4) st'.length v) (by omega) (by omega) (by simp; omega) (by rw [hl]; exact hwf') (sk_bd hN hwd hbd hv) ⟨by rw [mset_s], onst_set hst.2.2 (Nat.le_refl _)⟩ (hF.set rfl) (fun M' hM' => by rw [← evl_some hv]; exact hk M' hM')
                exact this
  exact key (e - b) b [] M (by omega) (Nat.le_refl b) (by simp) hw (fun x hx => by cases hx) trivial Fr.rf h
