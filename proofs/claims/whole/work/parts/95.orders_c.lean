/-! the class: possible, sure, cannot, order -/
theorem loop_cnt {σ : Type} {T : Nat → Bool} {G Inv : Nat → σ → Mem → Prop} (N : Nat) (hend : ∀ s M, Inv N s M → G (cnt T N) s M)
    (hskip : ∀ c s M, c < N → T c = false → Inv c s M → Inv (c + 1) s M)
    (hstep : ∀ c s M, c < N → T c = true → Inv c s M → (∀ s' M', Inv (c + 1) s' M' → G (cnt T c + 1) s' M') → G (cnt T c) s M) : ∀ s M, Inv 0 s M → G 0 s M := by
  intro s M h
  refine loop_upS (Inv := Inv) (G := fun c s M => G (cnt T c) s M) N hend ?_ 0 s M (Nat.zero_le _) h
  intro c s1 M1 hc hI ih
  have hst := cnt_stp T c
  by_cases q : T c = true
  · refine hstep c s1 M1 hc q hI (fun s' M' hI' => ?_)
    have := ih s' M' hI'
    rwa [hst, if_pos q] at this
  · have q : T c = false := by
      cases z : T c with
      | false => rfl
      | true => exact absurd z q
    have := ih s1 M1 (hskip c s1 M1 hc q hI)
    rwa [hst, if_neg (by rw [q]; decide)] at this
/-- how many orders in which all is RIGHT -/
def okW (T : Nat → Bool) (W : Nat → Int) (c : Nat) : Bool := T c && decide (W c = -1)
theorem okW_n {T : Nat → Bool} {W : Nat → Int} {c : Nat} (h : T c = false) : okW T W c = false := by unfold okW; rw [h]; rfl
theorem okW_w {T : Nat → Bool} {W : Nat → Int} {c : Nat} (h : W c ≠ -1) : okW T W c = false := by unfold okW; rw [decide_eq_false h, Bool.and_false]
theorem okW_y {T : Nat → Bool} {W : Nat → Int} {c : Nat} (h : T c = true) (hw : W c = -1) : okW T W c = true := by unfold okW; rw [h, decide_eq_true hw]; rfl
theorem cnt_n {p : Nat → Bool} {c : Nat} (h : p c = false) : cnt p (c + 1) = cnt p c := by rw [cnt_stp, if_neg (by rw [h]; decide)]
theorem cnt_y {p : Nat → Bool} {c : Nat} (h : p c = true) : cnt p (c + 1) = cnt p c + 1 := by rw [cnt_stp, if_pos h]
def WcF (pp n nh t : Nat) (ag C : Nat → Int) (Bg E : Nat → Nat) (H : FTab) (c : Nat) : Int := fwV n ag C Bg E H nh t (bB (dgt pp c))
theorem s_fwk {pp n nh t c : Nat} {H : FTab} {ag C : Nat → Int} {Bg E : Nat → Nat} {M : Mem} {P : Int → Mem → Prop} (hp : pp ≤ 5) (hw : OW M pp n nh t ag C Bg E H) (hc : c < tot pp) (ht : trb pp c = true) (h : P (WcF pp n nh t ag C Bg E H c) M) : CI m6_firstWrong 2 [(16, ((49 : Nat) : Int)), (0, (cnt (trb pp) c : Int))] M P := by
  have a5 : ((aln 51 : Nat) : Int) = 4231 := by decide
  have h1 := trb_most hp
  have h2 := cnt_lt2 hc ht
  apply q_6_firstWrong
  apply s_at (by omega) (by omega)
  rw [Int.toNat_natCast, hw c hc ht]
  exact h
def anV (v : Int) : Int := if v < 0 then 2 else v
theorem s_answer {pp c a b : Nat} {M : Mem} {P : Int → Mem → Prop} (hp : pp ≤ 5) (hT : TB M) (hw : OM M pp) (hc : c < tot pp) (ht : trb pp c = true) (ha : a < 5) (hb : b < 5) (h : P (anV (btw (bB (dgt pp c)) a b)) M) : CI m6_answer 3 [(16, ((49 : Nat) : Int)), (0, (cnt (trb pp) c : Int)), (0, (a : Int)), (0, (b : Int))] M P := by
  have a5 : ((aln 50 : Nat) : Int) = 4231 := by decide
  have h1 := trb_most hp
  have h2 := cnt_lt2 hc ht
  apply q_6_answer
  apply s_at (by omega) (by omega)
  rw [Int.toNat_natCast, hw.2 c hc ht]
  apply s_betC hT ha hb
  unfold anV at h
  refine ⟨fun q => ?_, fun q => ?_⟩
  · rwa [if_neg (by omega)] at h
  · rwa [if_pos q] at h
def possV (pp n nh t : Nat) (ag C : Nat → Int) (Bg E : Nat → Nat) (H : FTab) : Int := (cnt (okW (trb pp) (WcF pp n nh t ag C Bg E H)) (tot pp) : Int)
theorem tot_le {pp : Nat} (h : pp ≤ 5) : tot pp ≤ 59049 := by
  have h2 : ∀ m, m < 6 → tot m ≤ 59049 := by decide
  exact h2 pp (by omega)
theorem s_possible {pp n nf nh : Nat} {s kb : Int} {F H : FTab} {ag C : Nat → Int} {Bg E : Nat → Nat} {M : Mem} {P : Int → Mem → Prop} (hS : SC M pp n s nf F ag C Bg E) (hf : SF pp s nf F) (hT : TB M) (hM : MC M n ag C Bg E nh kb H) (hH : MH pp n nh kb H) (hO : OI M pp n nh ag C Bg E H)
    (h : ∀ M', Fp stset M M' → OI M' pp n nh ag C Bg E H → P (possV pp n nh (told H nh kb) ag C Bg E H) M') : CI m10_possible 6 [(19, ((0 : Nat) : Int))] M P := by
  have hp := hf.1
  have htot := tot_le hp
  apply q_10_possible
  rw [hS.1]
  apply s_settle hp hT hM hH hO
  intro M1 hF hO1 hom how
  have h' := h M1 hF hO1
  unfold possV at h'
  generalize told H nh kb = t at how h'
  refine loop_cnt (σ := Nat) (T := trb pp) (Inv := fun c z M2 => M2 = M1 ∧ z = cnt (okW (trb pp) (WcF pp n nh t ag C Bg E H)) c) (G := fun k z M2 => A m10_possible 6 0 22 [(19, ((0 : Nat) : Int)), (0, (z : Int)), (0, (k : Int))] [] M2 (Ki P)) (tot pp) ?_ ?_ ?_ 0 M1 ⟨rfl, rfl⟩
  · rintro z M2 ⟨rfl, rfl⟩
    apply r_10_possible_22
    rw [hom.1]
    exact ⟨fun _ => h', fun q => by omega⟩
  · rintro c z M2 hc hf ⟨rfl, rfl⟩
    exact ⟨rfl, by rw [cnt_n (okW_n hf)]⟩
  · rintro c z M2 hc ht ⟨rfl, rfl⟩ ih
    have h2 := cnt_lt2 hc ht
    have h3 := cnt_le (okW (trb pp) (WcF pp n nh t ag C Bg E H)) c
    have h4 := cnt_le (trb pp) c
    apply r_10_possible_22
    rw [hom.1, w_1 (i := cnt (trb pp) c) (by omega), w_1 (i := cnt (okW (trb pp) (WcF pp n nh t ag C Bg E H)) c) (by omega)]
    refine ⟨fun q => by omega, fun _ => ?_⟩
    apply s_fwk hp how hc ht
    refine ⟨fun q => ?_, fun q => ?_⟩
    · exact ih _ M2 ⟨rfl, (cnt_n (okW_w q)).symm⟩
    · exact ih _ M2 ⟨rfl, (cnt_y (okW_y ht q)).symm⟩
/-- cannot: the greatest first wrong, if every order has one -/
def scn (T : Nat → Bool) (W : Nat → Int) : Nat → Nat → Int → Int
  | 0, _, l => l
  | m + 1, c, l => if T c = true then (if W c = -1 then -1 else scn T W m (c + 1) (if l < W c then W c else l)) else scn T W m (c + 1) l
theorem scn_n {T : Nat → Bool} {W : Nat → Int} {m c : Nat} {l : Int} (h : T c = false) : scn T W (m + 1) c l = scn T W m (c + 1) l := if_neg (by rw [h]; decide)
theorem scn_e {T : Nat → Bool} {W : Nat → Int} {m c : Nat} {l : Int} (h : T c = true) (hw : W c = -1) : scn T W (m + 1) c l = -1 := by
  show (if T c = true then _ else _) = _
  rw [if_pos h, if_pos hw]
theorem scn_y {T : Nat → Bool} {W : Nat → Int} {m c : Nat} {l : Int} (h : T c = true) (hw : W c ≠ -1) : scn T W (m + 1) c l = scn T W m (c + 1) (if l < W c then W c else l) := by
  show (if T c = true then _ else _) = _
  rw [if_pos h, if_neg hw]
def canV (pp n nh t : Nat) (ag C : Nat → Int) (Bg E : Nat → Nat) (H : FTab) : Int := scn (trb pp) (WcF pp n nh t ag C Bg E H) (tot pp) 0 (-1)
theorem s_cannot {pp n nf nh : Nat} {s kb : Int} {F H : FTab} {ag C : Nat → Int} {Bg E : Nat → Nat} {M : Mem} {P : Int → Mem → Prop} (hS : SC M pp n s nf F ag C Bg E) (hf : SF pp s nf F) (hT : TB M) (hM : MC M n ag C Bg E nh kb H) (hH : MH pp n nh kb H) (hO : OI M pp n nh ag C Bg E H)
    (h : ∀ M', Fp stset M M' → OI M' pp n nh ag C Bg E H → P (canV pp n nh (told H nh kb) ag C Bg E H) M') : CI m10_cannot 6 [(19, ((0 : Nat) : Int))] M P := by
  have hp := hf.1
  have htot := tot_le hp
  apply q_10_cannot
  rw [hS.1]
  apply s_settle hp hT hM hH hO
  intro M1 hF hO1 hom how
  have h' := h M1 hF hO1
  unfold canV at h'
  generalize told H nh kb = t at how h'
  generalize hW : WcF pp n nh t ag C Bg E H = W at h'
  refine loop_cnt (σ := Int) (T := trb pp) (Inv := fun c l M2 => M2 = M1 ∧ scn (trb pp) W (tot pp - c) c l = scn (trb pp) W (tot pp) 0 (-1)) (G := fun k l M2 => A m10_cannot 6 0 22 [(19, ((0 : Nat) : Int)), (0, l), (0, (k : Int)), (2, 0)] [] M2 (Ki P)) (tot pp) ?_ ?_ ?_ (-1) M1 ⟨rfl, rfl⟩
  · rintro l M2 ⟨rfl, e⟩
    apply r_10_cannot_22
    rw [hom.1]
    rw [Nat.sub_self] at e
    exact ⟨fun _ => by rw [← e] at h'; exact h', fun q => by omega⟩
  · rintro c l M2 hc hf ⟨rfl, e⟩
    rw [show tot pp - c = (tot pp - (c + 1)) + 1 by omega, scn_n hf] at e
    exact ⟨rfl, e⟩
  · rintro c l M2 hc ht ⟨rfl, e⟩ ih
    have h2 := cnt_lt2 hc ht
    have h4 := cnt_le (trb pp) c
    rw [show tot pp - c = (tot pp - (c + 1)) + 1 by omega] at e
    apply r_10_cannot_22
    rw [hom.1, w_1 (i := cnt (trb pp) c) (by omega)]
    refine ⟨fun q => by omega, fun _ => ?_⟩
    apply s_fwk hp how hc ht
    rw [hW]
    refine ⟨fun q => ?_, fun q => ?_⟩
    · exact ih _ M2 ⟨rfl, by rw [← e, scn_y ht q]⟩
    · rw [← e, scn_e ht q] at h'; exact h'
/-- order: how two stand in the k-th order in which all is RIGHT -/
def osc (T : Nat → Bool) (W : Nat → Int) (a : Nat → Int) (k : Int) : Nat → Nat → Nat → Int
  | 0, _, _ => -1
  | m + 1, c, z => if okW T W c = true then (if (z : Int) = k then a c else osc T W a k m (c + 1) (z + 1)) else osc T W a k m (c + 1) z
theorem osc_n {T : Nat → Bool} {W a : Nat → Int} {k : Int} {m c z : Nat} (h : okW T W c = false) : osc T W a k (m + 1) c z = osc T W a k m (c + 1) z := if_neg (by rw [h]; decide)
theorem osc_k {T : Nat → Bool} {W a : Nat → Int} {k : Int} {m c z : Nat} (h : okW T W c = true) (hk : (z : Int) = k) : osc T W a k (m + 1) c z = a c := by
  show (if okW T W c = true then _ else _) = _
  rw [if_pos h, if_pos hk]
theorem osc_y {T : Nat → Bool} {W a : Nat → Int} {k : Int} {m c z : Nat} (h : okW T W c = true) (hk : (z : Int) ≠ k) : osc T W a k (m + 1) c z = osc T W a k m (c + 1) (z + 1) := by
  show (if okW T W c = true then _ else _) = _
  rw [if_pos h, if_neg hk]
def ordV (pp n nh t : Nat) (ag C : Nat → Int) (Bg E : Nat → Nat) (H : FTab) (k a b : Int) : Int :=
  if isTwo pp a b ∧ 0 ≤ k then osc (trb pp) (WcF pp n nh t ag C Bg E H) (fun c => anV (btw (bB (dgt pp c)) a.toNat b.toNat)) k (tot pp) 0 0 else -1
theorem s_order {pp n nf nh : Nat} {s kb : Int} {F H : FTab} {ag C : Nat → Int} {Bg E : Nat → Nat} {M : Mem} {P : Int → Mem → Prop} {k a b : Int} (hS : SC M pp n s nf F ag C Bg E) (hf : SF pp s nf F) (hT : TB M) (hM : MC M n ag C Bg E nh kb H) (hH : MH pp n nh kb H) (hO : OI M pp n nh ag C Bg E H)
    (h : ∀ M', Fp stset M M' → OI M' pp n nh ag C Bg E H → P (ordV pp n nh (told H nh kb) ag C Bg E H k a b) M') : CI m10_order 6 [(19, ((0 : Nat) : Int)), (0, k), (0, a), (0, b)] M P := by
  have hp := hf.1
  have htot := tot_le hp
  unfold ordV at h
  refine CI_know (fun _ _ hv => ?_)
  have hk32 : in32 k := hv (0, k) (by simp)
  unfold in32 at hk32
  apply q_10_order
  apply s_areTwo hS.1
  refine ⟨fun q => ?_, fun q => ⟨fun q1 => ?_, fun q1 => ?_⟩⟩
  · have := h M Fp.rf hO
    rwa [if_neg (fun z => bi_eq q z.1)] at this
  · rw [hS.1]
    apply s_settle hp hT hM hH hO
    intro M1 hF hO1 hom how
    have h' := h M1 hF hO1
    rw [if_pos ⟨bi_ne q, q1⟩] at h'
    obtain ⟨a', b', rfl, rfl, ha, hb, _⟩ := two_nat (bi_ne q)
    simp only [Int.toNat_natCast] at h'
    generalize told H nh kb = t at how h'
    generalize hW : WcF pp n nh t ag C Bg E H = W at h'
    generalize hA : (fun c => anV (btw (bB (dgt pp c)) a' b')) = an at h'
    have hT1 := hT.fp hF (fun k j q => by unfold stset at q; omega)
    suffices key : A m10_order 6 0 39 [(19, ((0 : Nat) : Int)), (2, 0), (0, (a' : Int)), (0, (b' : Int)), (0, k - ((0 : Nat) : Int)), (0, ((0 : Nat) : Int))] [] M1 (Ki P) by
      rw [show k - ((0 : Nat) : Int) = k by omega] at key
      exact key
    refine loop_cnt (σ := Nat) (T := trb pp) (Inv := fun c z M2 => M2 = M1 ∧ z ≤ c ∧ (z : Int) ≤ k ∧ osc (trb pp) W an k (tot pp - c) c z = osc (trb pp) W an k (tot pp) 0 0) (G := fun i z M2 => A m10_order 6 0 39 [(19, ((0 : Nat) : Int)), (2, 0), (0, (a' : Int)), (0, (b' : Int)), (0, k - (z : Int)), (0, (i : Int))] [] M2 (Ki P)) (tot pp) ?_ ?_ ?_ 0 M1 ⟨rfl, by omega, by omega, rfl⟩
    · rintro z M2 ⟨rfl, _, _, e⟩
      apply r_10_order_39
      rw [hom.1]
      rw [Nat.sub_self] at e
      exact ⟨fun _ => by rw [← e] at h'; exact h', fun q => by omega⟩
    · rintro c z M2 hc hf ⟨rfl, hz, hzk, e⟩
      rw [show tot pp - c = (tot pp - (c + 1)) + 1 by omega, osc_n (okW_n hf)] at e
      exact ⟨rfl, by omega, hzk, e⟩
    · rintro c z M2 hc ht ⟨rfl, hz, hzk, e⟩ ih
      have h2 := cnt_lt2 hc ht
      have h4 := cnt_le (trb pp) c
      rw [show tot pp - c = (tot pp - (c + 1)) + 1 by omega] at e
      apply r_10_order_39
      rw [hom.1, w_1 (i := cnt (trb pp) c) (by omega)]
      refine ⟨fun q => by omega, fun _ => ?_⟩
      apply s_fwk hp how hc ht
      rw [hW]
      refine ⟨fun q => ?_, fun q => ⟨fun q2 => ?_, fun q2 => ?_⟩⟩
      · exact ih z M2 ⟨rfl, by omega, hzk, by rw [← e, osc_n (okW_w q)]⟩
      · have e5 : w32 (k - (z : Int) + -1) = k - ((z + 1 : Nat) : Int) := by rw [w32_id (by omega) (by omega)]; omega
        rw [e5]
        exact ih (z + 1) M2 ⟨rfl, by omega, by omega, by rw [← e, osc_y (okW_y ht q) (by omega)]⟩
      · rw [← e, osc_k (okW_y ht q) (by omega), ← hA] at h'
        exact s_answer hp hT1 hom hc ht (by omega) (by omega) h'
  · have := h M Fp.rf hO
    rwa [if_neg (fun z => by omega)] at this
/-- sure: which answers were met among all orders in which all is RIGHT -/
def mtF (T : Nat → Bool) (W : Nat → Int) (a : Nat → Nat) : Nat → Nat
  | 0 => 0
  | c + 1 => if okW T W c = true then mtF T W a c ||| (1 <<< a c) else mtF T W a c
theorem mtF_n {T : Nat → Bool} {W : Nat → Int} {a : Nat → Nat} {c : Nat} (h : okW T W c = false) : mtF T W a (c + 1) = mtF T W a c := if_neg (by rw [h]; decide)
theorem mtF_y {T : Nat → Bool} {W : Nat → Int} {a : Nat → Nat} {c : Nat} (h : okW T W c = true) : mtF T W a (c + 1) = mtF T W a c ||| (1 <<< a c) := if_pos h
theorem mtF_lt {T : Nat → Bool} {W : Nat → Int} {a : Nat → Nat} (ha : ∀ c, a c < 3) : ∀ c, mtF T W a c < 8
  | 0 => by show 0 < 8; decide
  | c + 1 => by
    have ih := mtF_lt (T := T) (W := W) ha c
    show (if okW T W c = true then _ else _) < 8
    split
    · have h1 : 1 <<< a c < 2 ^ 3 := by rw [Nat.shiftLeft_eq, Nat.one_mul]; exact Nat.pow_lt_pow_right (by decide) (ha c)
      exact Nat.or_lt_two_pow (n := 3) ih h1
    · exact ih
theorem mtF_mono {T : Nat → Bool} {W : Nat → Int} {a : Nat → Nat} {c : Nat} : ∀ d, mtF T W a c &&& mtF T W a (c + d) = mtF T W a c
  | 0 => Nat.and_self _
  | d + 1 => by
    have ih := mtF_mono (T := T) (W := W) (a := a) (c := c) d
    show _ &&& (if okW T W (c + d) = true then mtF T W a (c + d) ||| (1 <<< a (c + d)) else mtF T W a (c + d)) = _
    split
    · rw [Nat.and_or_distrib_left, ih]
      apply Nat.eq_of_testBit_eq
      intro i
      rw [Nat.testBit_or, Nat.testBit_and]
      cases (mtF T W a c).testBit i <;> simp
    · exact ih
/-- what the met answers say: none, one, or more than one -/
def mtV (m : Nat) : Int := if m = 0 then -2 else if 1 < pcn m then 3 else ((m >>> 1 : Nat) : Int)
theorem anV_nat {v : Int} (h : -1 ≤ v ∧ v ≤ 1) : ∃ u : Nat, u < 3 ∧ anV v = (u : Int) := by
  unfold anV
  split
  · exact ⟨2, by omega, rfl⟩
  · exact ⟨v.toNat, by omega, by omega⟩
def anN (pp a b c : Nat) : Nat := (anV (btw (bB (dgt pp c)) a b)).toNat
theorem anN_of (pp a b c : Nat) : anN pp a b c < 3 ∧ anV (btw (bB (dgt pp c)) a b) = (anN pp a b c : Int) := by
  obtain ⟨u, h1, h2⟩ := anV_nat (btw_bd (bB (dgt pp c)) a b)
  unfold anN
  rw [h2, Int.toNat_natCast]
  exact ⟨h1, rfl⟩
def surV (pp n nh t : Nat) (ag C : Nat → Int) (Bg E : Nat → Nat) (H : FTab) (a b : Int) : Int :=
  if isTwo pp a b then mtV (mtF (trb pp) (WcF pp n nh t ag C Bg E H) (anN pp a.toNat b.toNat) (tot pp)) else -1
theorem mt_or : ∀ m : Nat, m < 8 → ∀ u : Nat, u < 3 → ior (m : Int) (ishl 1 (u : Int)) = ((m ||| (1 <<< u) : Nat) : Int) ∧ m ||| (1 <<< u) < 8 := by decide +kernel
theorem mt_sh : ∀ m : Nat, m < 8 → ishr (m : Int) 1 = ((m >>> 1 : Nat) : Int) := by decide +kernel
theorem s_sure {pp n nf nh : Nat} {s kb : Int} {F H : FTab} {ag C : Nat → Int} {Bg E : Nat → Nat} {M : Mem} {P : Int → Mem → Prop} {a b : Int} (hS : SC M pp n s nf F ag C Bg E) (hf : SF pp s nf F) (hT : TB M) (hM : MC M n ag C Bg E nh kb H) (hH : MH pp n nh kb H) (hO : OI M pp n nh ag C Bg E H)
    (h : ∀ M', Fp stset M M' → OI M' pp n nh ag C Bg E H → P (surV pp n nh (told H nh kb) ag C Bg E H a b) M') : CI m10_sure 6 [(19, ((0 : Nat) : Int)), (0, a), (0, b)] M P := by
  have hp := hf.1
  have htot := tot_le hp
  unfold surV at h
  apply q_10_sure
  apply s_areTwo hS.1
  refine ⟨fun q => ?_, fun q => ?_⟩
  · rw [hS.1]
    apply s_settle hp hT hM hH hO
    intro M1 hF hO1 hom how
    have h' := h M1 hF hO1
    rw [if_pos (bi_ne q)] at h'
    obtain ⟨a', b', rfl, rfl, ha, hb, _⟩ := two_nat (bi_ne q)
    simp only [Int.toNat_natCast] at h'
    generalize told H nh kb = t at how h'
    generalize hW : WcF pp n nh t ag C Bg E H = W at h'
    have hT1 := hT.fp hF (fun k j q => by unfold stset at q; omega)
    have hlt := mtF_lt (T := trb pp) (W := W) (fun c => (anN_of pp a' b' c).1)
    refine loop_cnt (σ := Nat) (T := trb pp) (Inv := fun c z M2 => M2 = M1 ∧ z = mtF (trb pp) W (anN pp a' b') c) (G := fun i z M2 => A m10_sure 6 0 34 [(19, ((0 : Nat) : Int)), (0, (a' : Int)), (0, (b' : Int)), (0, (z : Int)), (0, (i : Int))] [] M2 (Ki P)) (tot pp) ?_ ?_ ?_ 0 M1 ⟨rfl, rfl⟩
    · rintro z M2 ⟨rfl, rfl⟩
      apply r_10_sure_34
      rw [hom.1]
      have hl := hlt (tot pp)
      generalize mtF (trb pp) W (anN pp a' b') (tot pp) = m at h' hl ⊢
      unfold mtV at h'
      refine ⟨fun _ => ⟨fun q1 => ?_, fun q1 => ?_⟩, fun q => by omega⟩
      · rw [if_neg (by omega)] at h'
        apply s_bitCount (by omega)
        refine ⟨fun q2 => ?_, fun q2 => ?_⟩
        · rw [if_neg (by omega)] at h'
          rw [mt_sh m hl]; exact h'
        · rwa [if_pos (by omega)] at h'
      · rwa [if_pos (by omega)] at h'
    · rintro c z M2 hc hf ⟨rfl, rfl⟩
      exact ⟨rfl, (mtF_n (okW_n hf)).symm⟩
    · rintro c z M2 hc ht ⟨rfl, rfl⟩ ih
      have h2 := cnt_lt2 hc ht
      have h4 := cnt_le (trb pp) c
      apply r_10_sure_34
      rw [hom.1, w_1 (i := cnt (trb pp) c) (by omega)]
      refine ⟨fun q => by omega, fun _ => ?_⟩
      apply s_fwk hp how hc ht
      rw [hW]
      refine ⟨fun q => ?_, fun q => ?_⟩
      · exact ih _ M2 ⟨rfl, (mtF_n (okW_w q)).symm⟩
      · apply s_answer hp hT1 hom hc ht (by omega) (by omega)
        obtain ⟨u1, u2⟩ := anN_of pp a' b' c
        rw [u2, (mt_or _ (hlt c) _ u1).1]
        exact ih _ M2 ⟨rfl, (mtF_y (okW_y ht q)).symm⟩
  · have := h M Fp.rf hO
    rwa [if_neg (bi_eq q)] at this
