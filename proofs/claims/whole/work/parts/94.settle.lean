/-! the class: settle, possible, sure, cannot, order -/
theorem cnt_ex {p : Nat → Bool} : ∀ N k, k < cnt p N → ∃ c, c < N ∧ p c = true ∧ cnt p c = k
  | 0, k, h => by exact absurd h (by show ¬ k < 0; omega)
  | N + 1, k, h => by
    rw [cnt_stp] at h
    by_cases z : k < cnt p N
    · obtain ⟨c, h1, h2, h3⟩ := cnt_ex N k z
      exact ⟨c, by omega, h2, h3⟩
    · split at h
      · next q => exact ⟨N, by omega, q, by omega⟩
      · omega
theorem cnt_lt2 {p : Nat → Bool} {a b : Nat} (h : a < b) (hp : p a = true) : cnt p a < cnt p b := by
  have h1 := cnt_mono (p := p) (show a + 1 ≤ b from h)
  have h2 := cnt_stp p a
  rw [if_pos hp] at h2
  omega
theorem cnt_inj {p : Nat → Bool} {a b : Nat} (ha : p a = true) (hb : p b = true) (h : cnt p a = cnt p b) : a = b := by
  rcases Nat.lt_trichotomy a b with q | q | q
  · have := cnt_lt2 q ha; omega
  · exact q
  · have := cnt_lt2 q hb; omega
theorem wy_w {h t b : Int} (hh : -1 ≤ h ∧ h ≤ 1) (ht : -1 ≤ t ∧ t ≤ 1) (hb : -1 ≤ b ∧ b ≤ 1) : w32 (w32 (w32 (w32 (9 * w32 (h + 1)) + w32 (3 * w32 (t + 1))) + b) + 1) = (wyN h t b : Int) := by
  rcases (show h = -1 ∨ h = 0 ∨ h = 1 by omega) with rfl | rfl | rfl <;> rcases (show t = -1 ∨ t = 0 ∨ t = 1 by omega) with rfl | rfl | rfl <;> rcases (show b = -1 ∨ b = 0 ∨ b = 1 by omega) with rfl | rfl | rfl <;> decide
/-- two who are there stand in an order that is told by its code -/
theorem s_betC {pp c a b : Nat} {M : Mem} {P : Int → Mem → Prop} (hT : TB M) (ha : a < 5) (hb : b < 5) (h : P (btw (bB (dgt pp c)) a b) M) : CI m6_between 2 [(0, (c4 pp c : Int)), (0, (a : Int)), (0, (b : Int))] M P := by
  rw [btw_bB (fun p q => dgt_3 _ _ _)] at h
  refine s_betw (d := 9) hT (by omega) (fun e he => by have := dgt_3 pp c e; omega) ha hb (fun hne => ?_) h
  rcases Nat.lt_or_ge a b with z | z
  · rw [Nat.min_eq_left (by omega), Nat.max_eq_right (by omega)]
    have := (pix_inv a ha b hb z).1; omega
  · rw [Nat.min_eq_right (by omega), Nat.max_eq_left (by omega)]
    have := (pix_inv b hb a ha (by omega)).1; omega
def tbk (H : FTab) (nh t : Nat) : Prop := t < 2 ^ 24 ∧ ∀ i, t.testBit i = true → i < nh ∧ H i 0 ≠ -1
theorem told_ok {pp n nh : Nat} {kb : Int} {H : FTab} (h : MH pp n nh kb H) : tbk H nh (told H nh kb) := by
  have hK := HokK_of h
  have hle := kmany_le h
  refine ⟨(ks_lt hK _ (Nat.le_refl _)).2, fun i hi => ?_⟩
  unfold told at hi
  rw [ks_told hK _ (Nat.le_refl _), Bool.and_eq_true, Bool.and_eq_true, decide_eq_true_eq, decide_eq_true_eq] at hi
  exact ⟨by omega, hi.2.2⟩
theorem s_firstWrong {pp n nh t c : Nat} {kb : Int} {H : FTab} {ag C : Nat → Int} {Bg E : Nat → Nat} {M : Mem} {P : Int → Mem → Prop} (hp : pp ≤ 5) (hT : TB M) (hM : MC M n ag C Bg E nh kb H) (hH : MH pp n nh kb H) (ht : tbk H nh t) (hc : trb pp c = true)
    (h : P (fwV n ag C Bg E H nh t (bB (dgt pp c))) M) : CI m4_firstWrong 4 [(14, ((43 : Nat) : Int)), (0, (c4 pp c : Int)), (0, (t : Int))] M P := by
  have a4 : ((aln 44 : Nat) : Int) = 24 ∧ ((aln 45 : Nat) : Int) = 24 ∧ ((aln 46 : Nat) : Int) = 24 ∧ ((aln 47 : Nat) : Int) = 24 := by decide
  have h24 := hH.1
  have htr := (trb_iff hp).mp hc
  have hir := bB_self (dgt pp c)
  apply q_4_firstWrong
  unfold fwV at h
  generalize hpd : (fun i => t.testBit i && wrB n ag C Bg E H (bB (dgt pp c)) i) = p at h
  refine loop_up (Inv := fun k M1 => M1 = M ∧ fst1 p (nh - k) k = fst1 p nh 0) (G := fun k M1 => A m4_firstWrong 4 0 2 [(14, ((43 : Nat) : Int)), (0, (c4 pp c : Int)), (0, (t : Int)), (0, (k : Int))] [] M1 (Ki P)) nh ?_ ?_ 0 M (by omega) ⟨rfl, rfl⟩
  · rintro M1 ⟨rfl, e⟩
    apply r_4_firstWrong_2
    rw [hM.1]
    rw [← e, Nat.sub_self] at h
    exact ⟨fun _ => h, fun q => by omega⟩
  · rintro k M1 hk ⟨rfl, e⟩ ih
    have hpk : p k = (t.testBit k && wrB n ag C Bg E H (bB (dgt pp c)) k) := by rw [← hpd]
    rw [show nh - k = (nh - (k + 1)) + 1 by omega] at e
    apply r_4_firstWrong_2
    rw [hM.1, w_1 (i := k) (by omega), bit_24 (by have := ht.1; omega) (by omega)]
    refine ⟨fun q => by omega, fun _ => ⟨fun q => ?_, fun q => ?_⟩⟩
    · have hb : t.testBit k = false := by
        cases z : t.testBit k with
        | false => rfl
        | true => rw [z] at q; exact absurd rfl q
      exact ih M1 ⟨rfl, by rw [← e, fst1_n (by rw [hpk, hb]; rfl)]⟩
    · have hb : t.testBit k = true := by
        cases z : t.testBit k with
        | true => rfl
        | false => rw [z] at q; cases q
      have hne := (ht.2 k hb).2
      obtain ⟨m1, m2, m3, m4, m5⟩ := (hM.2.2 k hk).2 hne
      rcases hH.2.2 k hk with z | ⟨z1, z2, z3⟩
      · exact absurd z.1 hne
      · obtain ⟨⟨s1, s2, s3⟩, s4, s5, s6⟩ := z1
        apply s_at (by omega) (by omega)
        rw [Int.toNat_natCast, m5]
        apply q_4_wayOf
        apply s_at (by omega) (by omega)
        apply s_at (by omega) (by omega)
        apply s_at (by omega) (by omega)
        rw [Int.toNat_natCast, m2, m3, m4]
        unfold wrB at hpk
        unfold clH
        generalize hsp : (H k 0).toNat = sp at hpk ⊢
        generalize hhe : (H k 1).toNat = he at hpk ⊢
        generalize hth : (H k 2).toNat = th at hpk ⊢
        rw [show H k 0 = (sp : Int) by omega, show H k 1 = (he : Int) by omega, show H k 2 = (th : Int) by omega]
        apply s_betC hT (by omega) (by omega)
        apply s_betC hT (by omega) (by omega)
        apply s_betC hT (by omega) (by omega)
        rw [wy_w (btw_bd _ _ _) (btw_bd _ _ _) (btw_bd _ _ _)]
        have hlt := clm_lt (n := n) (s := H k 3) (ag := ag) (C := C) (Bg := Bg) (E := E) (a := sp) (b := he) (c := th) (row := H k 4) 27
        have hw := (wy_of (btw_bd (bB (dgt pp c)) he sp) (btw_bd (bB (dgt pp c)) th sp) (btw_bd (bB (dgt pp c)) th he)).1
        rw [bit_24 (by omega) (by omega), clm_way htr hir (show sp < pp by omega) (show he < pp by omega) (show th < pp by omega)]
        refine ⟨fun q1 => ?_, fun q1 => ?_⟩
        · have q1 := of_decide_eq_true (tn1 q1)
          refine ih M1 ⟨rfl, ?_⟩
          rw [← e, fst1_n]
          rw [hpk, hb, Bool.true_and]
          exact decide_eq_false (fun z => z q1)
        · have q1 := of_decide_eq_false (tn0 q1)
          rw [← e, fst1_y (by rw [hpk, hb, Bool.true_and]; exact decide_eq_true q1)] at h
          exact h
/-- what Orders holds: all orders once they are made, of each its first wrong once it is settled -/
def OW (M : Mem) (pp n nh t : Nat) (ag C : Nat → Int) (Bg E : Nat → Nat) (H : FTab) : Prop := ∀ c, c < tot pp → trb pp c = true → M 51 (cnt (trb pp) c) = fwV n ag C Bg E H nh t (bB (dgt pp c))
def OI (M : Mem) (pp n nh : Nat) (ag C : Nat → Int) (Bg E : Nat → Nat) (H : FTab) : Prop :=
  (∀ q : Nat, M 49 2 = (q : Int) → OM M q) ∧ (M 49 4 ≠ 0 → M 49 2 = (pp : Int) ∧ ∃ t : Nat, M 49 5 = (t : Int) ∧ tbk H nh t ∧ OW M pp n nh t ag C Bg E H)
def stset (k _j : Nat) : Prop := 49 ≤ k ∧ k ≤ 51
theorem OI.fp {M M' : Mem} {pp n nh : Nat} {ag C : Nat → Int} {Bg E : Nat → Nat} {H : FTab} {t : Nat → Nat → Prop} (h : OI M pp n nh ag C Bg E H) (hF : Fp t M M') (ht : ∀ k j, t k j → k < 49 ∨ 52 ≤ k) : OI M' pp n nh ag C Bg E H := by
  have e : ∀ k, 49 ≤ k → k ≤ 51 → M' k = M k := fun k h1 h2 => hF.row (fun j hc => by have := ht k j hc; omega)
  unfold OI OW OM
  rw [e 49 (by omega) (by omega), e 50 (by omega) (by omega), e 51 (by omega) (by omega)]
  exact h
theorem TB.fp {M M' : Mem} {t : Nat → Nat → Prop} (h : TB M) (hF : Fp t M M') (ht : ∀ k j, t k j → k < 94) : TB M' := by
  unfold TB
  rw [hF.row (k := 94) (fun j hc => by have := ht _ j hc; omega), hF.row (k := 95) (fun j hc => by have := ht _ j hc; omega), hF.row (k := 96) (fun j hc => by have := ht _ j hc; omega)]
  exact h
theorem s_settle {pp n nh : Nat} {kb : Int} {H : FTab} {ag C : Nat → Int} {Bg E : Nat → Nat} {M : Mem} {P : Mem → Prop} (hp : pp ≤ 5) (hT : TB M) (hM : MC M n ag C Bg E nh kb H) (hH : MH pp n nh kb H) (hO : OI M pp n nh ag C Bg E H)
    (h : ∀ M', Fp stset M M' → OI M' pp n nh ag C Bg E H → OM M' pp → OW M' pp n nh (told H nh kb) ag C Bg E H → P M') : CD m6_settle 5 [(16, ((49 : Nat) : Int)), (0, (pp : Int)), (14, ((43 : Nat) : Int))] M P := by
  have a5 : ((aln 50 : Nat) : Int) = 4231 ∧ ((aln 51 : Nat) : Int) = 4231 := by decide
  have htk := told_ok hH
  apply q_6_settle
  apply s_knownSayings hM hH
  have redo : CD m6_make 4 [(16, ((49 : Nat) : Int)), (0, (pp : Int))] M (fun M8 => A m6_settle 5 0 29 [(16, ((49 : Nat) : Int)), (2, 0), (14, ((43 : Nat) : Int)), (0, (told H nh kb : Int)), (0, 0)] [] M8 (Kd P)) := by
    apply s_make hp hT (hO.1 pp)
    intro M1 hF1 h2 hom
    have hF1' : Fp stset M M1 := hF1.mono (fun k j q => by unfold omset at q; unfold stset; omega)
    refine loop_up (Inv := fun k M2 => Fp stset M M2 ∧ M2 49 2 = (pp : Int) ∧ OM M2 pp ∧ ∀ c, c < tot pp → trb pp c = true → cnt (trb pp) c < k → M2 51 (cnt (trb pp) c) = fwV n ag C Bg E H nh (told H nh kb) (bB (dgt pp c)))
      (G := fun k M2 => A m6_settle 5 0 29 [(16, ((49 : Nat) : Int)), (2, 0), (14, ((43 : Nat) : Int)), (0, (told H nh kb : Int)), (0, (k : Int))] [] M2 (Kd P)) (cnt (trb pp) (tot pp)) ?_ ?_ 0 M1 (by omega) ⟨hF1', h2, hom, fun c _ _ hc => by omega⟩
    · rintro M2 ⟨hF2, h22, hom2, hall⟩
      have how : OW M2 pp n nh (told H nh kb) ag C Bg E H := fun c hc ht => hall c hc ht (cnt_lt2 hc ht)
      apply r_6_settle_29
      rw [hom2.1]
      refine ⟨fun _ => ?_, fun q => by omega⟩
      have hom3 : OM (mset (mset M2 49 4 1) 49 5 (told H nh kb : Int)) pp := by
        refine ⟨by rw [mset_j (by decide), mset_j (by decide)]; exact hom2.1, fun c hc ht => ?_⟩
        rw [mset_k (by decide), mset_k (by decide)]; exact hom2.2 c hc ht
      have how3 : OW (mset (mset M2 49 4 1) 49 5 (told H nh kb : Int)) pp n nh (told H nh kb) ag C Bg E H := fun c hc ht => by
        rw [mset_k (by decide), mset_k (by decide)]; exact how c hc ht
      have h49 : mset (mset M2 49 4 1) 49 5 (told H nh kb : Int) 49 2 = (pp : Int) := by rw [mset_j (by decide), mset_j (by decide)]; exact h22
      refine h _ ((hF2.set (by unfold stset; omega)).set (by unfold stset; omega)) ⟨fun q hq => ?_, fun _ => ⟨h49, told H nh kb, mset_s, htk, how3⟩⟩ hom3 how3
      have : q = pp := by rw [h49] at hq; omega
      subst this; exact hom3
    · rintro k M2 hk ⟨hF2, h22, hom2, hall⟩ ih
      have hmost := trb_most hp
      obtain ⟨c0, hc0, ht0, hk0⟩ := cnt_ex _ _ hk
      have hT2 := hT.fp hF2 (fun k j q => by unfold stset at q; omega)
      have hM2 := hM.fp hF2 (fun k j q => by unfold stset at q; omega)
      apply r_6_settle_29
      rw [hom2.1, w_1 (i := k) (by omega)]
      refine ⟨fun q => by omega, fun _ => ?_⟩
      apply s_at (by omega) (by omega)
      rw [Int.toNat_natCast, ← hk0, hom2.2 c0 hc0 ht0]
      apply s_firstWrong hp hT2 hM2 hH htk ht0
      apply s_put (by omega) (by omega)
      rw [Int.toNat_natCast, hk0]
      refine ih _ ⟨hF2.set (by unfold stset; omega), by rw [mset_k (by decide)]; exact h22, ⟨by rw [mset_k (by decide)]; exact hom2.1, fun c hc ht => by rw [mset_k (by decide)]; exact hom2.2 c hc ht⟩, fun c hc ht hck => ?_⟩
      by_cases e : cnt (trb pp) c = k
      · have : c = c0 := cnt_inj ht ht0 (by omega)
        subst this
        rw [hk0, mset_s]
      · rw [mset_j e]; exact hall c hc ht (by omega)
  refine ⟨fun _ => redo, fun q => ⟨fun _ => redo, fun q1 => ?_⟩⟩
  obtain ⟨h2, t, h3, _, h5⟩ := hO.2 q
  have e : t = told H nh kb := by omega
  subst e
  exact h M Fp.rf hO (hO.1 pp h2) h5
