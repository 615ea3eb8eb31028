/-! ring, of the reference -/
theorem lys_out {L : Nat → Nat → Bool} {pp b x : Nat} (hb : b < pp) (hx : pp ≤ x) : ∀ m, lys L pp b m x = -1
  | 0 => by show (if x = b then (0 : Int) else -1) = -1; rw [if_neg (by omega)]
  | m + 1 => by
    rw [lys_step]
    unfold nxt
    rw [if_neg (by rw [decide_eq_false (by omega)]; simp)]
    exact lys_out hb hx m
def s76 : Nat → Nat → Prop := fun k _ => k = 76
theorem s_ring_r {pp n nf : Nat} {s : Int} {F : FTab} {ag C : Nat → Int} {Bg E : Nat → Nat} {M : Mem} {P : Int → Mem → Prop} {a b k : Int} (hS : SR M pp n s nf F ag C Bg E) (hf : SF pp s nf F)
    (h : ∀ M', Fp rs (mset M 59 0 0) M' → P (rngV pp nf s F a b k) M') : CI m11_ring 4 [(20, ((59 : Nat) : Int)), (0, a), (0, b), (0, k)] M P := by
  have h5 := hf.1
  have hS0 := hS.th (v := 0)
  unfold rngV at h
  apply q_11_ring
  generalize mset M 59 0 0 = M0 at hS0 h ⊢
  have no : ¬ (isTwo pp a b ∧ -1 ≤ k) → P (-1) M0 := fun q => by have := h M0 Fp.rf; rwa [if_neg q] at this
  apply s_areTwo_r hS0.1
  refine ⟨fun q => no (fun z => bi_eq q z.1), fun q => ⟨fun q1 => ?_, fun q1 => no (fun z => by omega)⟩⟩
  rw [if_pos ⟨bi_ne q, q1⟩] at h
  obtain ⟨a', b', rfl, rfl, ha, hb, _⟩ := two_nat (bi_ne q)
  simp only [Int.toNat_natCast] at h
  rw [hS0.2.1]
  apply s_layNow hS0 hf
  intro M1 hF1 _ hm1
  generalize hLd : ob F (lvl F nf) s nf = L at h
  -- what stays through the loops
  have keepS : ∀ M2, Fp s76 M1 M2 → SR M2 pp n s nf F ag C Bg E ∧ mat M2 75 (lvl F nf) ∧ Fp rs M0 M2 := fun M2 hM => by
    have hM' : Fp rs M1 M2 := hM.mono (fun k j z => by unfold s76 at z; unfold rs; omega)
    exact ⟨(hS0.rs hF1).rs hM', fun p q hp hq => by rw [hM 75 _ (by unfold s76; omega)]; exact hm1 p q hp hq, hF1.tr hM'⟩
  have next : ∀ (M2 : Mem) (x y : Nat) (P' : Int → Mem → Prop), Fp s76 M1 M2 → x < pp → y < pp → P' (bi (L x y = true)) M2 → CI m11_isNext 2 [(20, ((59 : Nat) : Int)), (0, (x : Int)), (0, (y : Int))] M2 P' := fun M2 x y P' hM hx hy hp => by
    obtain ⟨g1, g2, _⟩ := keepS M2 hM
    apply s_isNext g1 hf hx hy g2
    rw [hLd]; exact hp
  -- the way down
  have b0 : ∀ m, lys L pp b' m b' = 0 := by
    intro m
    induction m with
    | zero => show (if b' = b' then (0 : Int) else -1) = 0; rw [if_pos rfl]
    | succ m ih => rw [lys_keep (by omega)]; exact ih
  have way : ∀ (M2 : Mem) (k' d : Nat), Fp s76 M1 M2 → (∀ i, i < 5 → M2 76 i = lys L pp b' 5 i) → lys L pp b' 5 a' = (d : Int) → k' ≤ d → P (wlk L (lys L pp b' 5) pp k' a' : Int) M2 → d < 100 → A m11_ring 4 0 208 [(20, ((59 : Nat) : Int)), (2, 0), (2, 0), (0, (k' : Int)), (0, (a' : Int)), (0, 0), (2, 0)] [] M2 (Ki P) := by
    intro M2 k' d hM hst hd hk hfin hd5
    have key : ∀ r i x : Nat, i + r = k' → x < pp → lys L pp b' 5 x = ((d - i : Nat) : Int) → wlk L (lys L pp b' 5) pp r x = wlk L (lys L pp b' 5) pp k' a' → A m11_ring 4 0 208 [(20, ((59 : Nat) : Int)), (2, 0), (2, 0), (0, (k' : Int)), (0, (x : Int)), (0, (i : Int)), (2, 0)] [] M2 (Ki P) := by
      intro r
      induction r with
      | zero =>
        intro i x hi hx hv he
        apply r_11_ring_208
        refine ⟨fun _ => ?_, fun q => by omega⟩
        have e : wlk L (lys L pp b' 5) pp 0 x = x := rfl
        rw [← he, e] at hfin
        exact hfin
      | succ r ih =>
        intro i x hi hx hv he
        obtain ⟨f, hf2⟩ : ∃ f, d - i = f + 1 := ⟨d - i - 1, by omega⟩
        rw [hf2] at hv
        obtain ⟨y, hy, hl, hyv⟩ := lys_next 5 hv
        have ew : w32 (((f + 1 : Nat) : Int) - 1) = (f : Int) := by unfold w32; omega
        have ef : ((f + 1 : Nat) : Int) - 1 = (f : Int) := by omega
        have hq : fsb (fun y => L x y && decide (lys L pp b' 5 y = (f : Int))) pp 0 ≠ -1 := by
          intro z
          have := (fsb_iff pp 0).mp z y (Nat.zero_le y) (by omega)
          rw [hl, decide_eq_true hyv] at this
          cases this
        obtain ⟨z, z1, _, z2, z3, z4⟩ := fsb_in pp 0 hq
        simp only [Bool.and_eq_true, decide_eq_true_eq] at z3
        have hw : wlk L (lys L pp b' 5) pp (r + 1) x = wlk L (lys L pp b' 5) pp r z := by
          show wlk L (lys L pp b' 5) pp r (fsb (fun y => L x y && decide (lys L pp b' 5 y = lys L pp b' 5 x - 1)) pp 0).toNat = _
          rw [hv, ef, z1, Int.toNat_natCast]
        have scan : ∀ r2 j : Nat, j + r2 = z → A m11_ring 4 0 217 [(20, ((59 : Nat) : Int)), (2, 0), (2, 0), (0, (k' : Int)), (0, (x : Int)), (0, (i : Int)), (0, (j : Int))] [] M2 (Ki P) := by
          intro r2
          induction r2 with
          | zero =>
            intro j hj
            have e : j = z := by omega
            subst e
            apply r_11_ring_217
            rw [Int.toNat_natCast, Int.toNat_natCast, hst j (by omega), hst x (by omega), hv, ew, w_1 (i := i) (by omega)]
            refine ⟨by omega, by omega, fun q2 => absurd z3.2 q2, fun _ => next M2 x j _ hM hx (by omega) ⟨fun _ => ?_, fun q2 => absurd z3.1 (bi_eq q2)⟩⟩
            exact ih (i + 1) j (by omega) (by omega) (by rw [z3.2]; omega) (by rw [← hw]; exact he)
          | succ r2 ih2 =>
            intro j hj
            have hjz := z4 j (Nat.zero_le j) (by omega)
            apply r_11_ring_217
            rw [Int.toNat_natCast, Int.toNat_natCast, hst j (by omega), hst x (by omega), hv, ew, w_1 (i := j) (by omega)]
            refine ⟨by omega, by omega, fun _ => ih2 (j + 1) (by omega), fun q2 => next M2 x j _ hM hx (by omega) ⟨fun q3 => ?_, fun _ => ih2 (j + 1) (by omega)⟩⟩
            rw [bi_ne q3, decide_eq_true q2] at hjz
            cases hjz
        apply r_11_ring_208
        refine ⟨fun q => by omega, fun _ => scan z 0 (by omega)⟩
    exact key k' 0 a' (by omega) ha (by rw [hd]; rfl) rfl
  -- the layers
  have lay : ∀ (r f : Nat) (M2 : Mem), f + r = 5 → Fp s76 M1 M2 → (∀ i, i < 5 → M2 76 i = lys L pp b' f i) → A m11_ring 4 0 65 [(20, ((59 : Nat) : Int)), (0, (a' : Int)), (2, 0), (0, k), (0, (f : Int)), (2, 0), (2, 0)] [] M2 (Ki P) := by
    intro r
    induction r with
    | zero =>
      intro f M2 hf5 hM hst
      have e : f = 5 := by omega
      subst e
      have e5 : lys L pp b' 5 = lys L pp b' (pp - 1) := by
        have := lys_end (L := L) hb (5 - (pp - 1))
        rwa [show pp - 1 + (5 - (pp - 1)) = 5 by omega] at this
      have hfr := (keepS M2 hM).2.2
      have h2 := h M2 hfr
      rw [← e5] at h2
      have hbd := lys_bd (L := L) (pp := pp) (b := b') 5 a'
      apply r_11_ring_65
      rw [Int.toNat_natCast, hst a' (by omega)]
      refine ⟨fun _ => ⟨by omega, fun z => ⟨fun z1 => ⟨by omega, fun z2 => ?_, fun z2 => ?_⟩, fun z1 => ⟨by omega, ?_⟩⟩, fun z => ?_⟩, fun q => by omega⟩
      · rw [if_neg z, if_neg (by omega), if_neg z1] at h2
        obtain ⟨k', rfl⟩ : ∃ k' : Nat, k = (k' : Int) := ⟨k.toNat, by omega⟩
        rw [Int.toNat_natCast] at h2
        obtain ⟨d, hd⟩ : ∃ d : Nat, lys L pp b' 5 a' = (d : Int) := ⟨(lys L pp b' 5 a').toNat, by omega⟩
        exact way M2 k' d hM hst hd (by omega) h2 (by omega)
      · rwa [if_neg z, if_pos z2] at h2
      · rw [if_neg z, if_neg (by omega), if_pos z1] at h2
        rw [w32_id (by omega) (by omega)]
        exact h2
      · rwa [if_pos z] at h2
    | succ r ih =>
      intro f M2 hf5 hM hst
      apply r_11_ring_65
      refine ⟨fun q => by omega, fun _ => ?_⟩
      refine loop_up (Inv := fun i M3 => Fp s76 M1 M3 ∧ (∀ j, j < i → M3 76 j = lys L pp b' (f + 1) j) ∧ ∀ j, i ≤ j → j < 5 → M3 76 j = lys L pp b' f j) (G := fun i M3 => A m11_ring 4 0 74 [(20, ((59 : Nat) : Int)), (0, (a' : Int)), (2, 0), (0, k), (0, (f : Int)), (0, (i : Int)), (2, 0)] [] M3 (Ki P)) pp ?_ ?_ 0 M2 (Nat.zero_le _) ⟨hM, fun j hj => by omega, fun j _ hj => hst j hj⟩
      · rintro M3 ⟨hF3, s1, s2⟩
        apply r_11_ring_74
        rw [(keepS M3 hF3).1.1, w_1 (i := f) (by omega)]
        refine ⟨fun _ => ih (f + 1) M3 (by omega) hF3 (fun j hj => ?_), fun q => by omega⟩
        by_cases c : j < pp
        · exact s1 j c
        · rw [s2 j (by omega) hj, lys_out hb (by omega), lys_out hb (by omega)]
      · rintro i M3 hi ⟨hF3, s1, s2⟩ nx
        apply r_11_ring_74
        rw [(keepS M3 hF3).1.1]
        refine ⟨fun q => by omega, fun _ => ?_⟩
        have hst3 : ∀ x, x < pp → (M3 76 x = (f : Int) ↔ lys L pp b' f x = (f : Int)) := fun x hx => by
          by_cases c : x < i
          · rw [s1 x c, lys_mix]
          · rw [s2 x (by omega) (by omega)]
        have e1 : lys L pp b' f i = -1 → lys L pp b' (f + 1) i = if anyW (fun x => L i x && decide (lys L pp b' f x = ((f + 1 : Nat) : Int) - 1)) pp = true then ((f + 1 : Nat) : Int) else lys L pp b' f i := fun q => by
          rw [lys_step]
          unfold nxt
          rw [decide_eq_true hi, decide_eq_true q]
          rfl
        have leave : lys L pp b' (f + 1) i = lys L pp b' f i → A m11_ring 4 0 74 [(20, ((59 : Nat) : Int)), (0, (a' : Int)), (2, 0), (0, k), (0, (f : Int)), (0, ((i + 1 : Nat) : Int)), (2, 0)] [] M3 (Ki P) := fun e => nx M3 ⟨hF3, fun j hj => by
          by_cases c : j = i
          · subst c; rw [s2 j (Nat.le_refl j) (by omega), e]
          · exact s1 j (by omega), fun j h1 h2 => s2 j (by omega) h2⟩
        have scan : ∀ r2 y : Nat, y + r2 = pp → (∀ y', y' < y → (L i y' && decide (lys L pp b' f y' = (f : Int))) = false) → A m11_ring 4 0 88 [(20, ((59 : Nat) : Int)), (0, (a' : Int)), (2, 0), (0, k), (0, (f : Int)), (0, (i : Int)), (0, (y : Int))] [] M3 (Ki P) := by
          intro r2
          induction r2 with
          | zero =>
            intro y hy hno
            apply r_11_ring_88
            rw [(keepS M3 hF3).1.1, w_1 (i := i) (by omega)]
            refine ⟨fun _ => leave ?_, fun q => by omega⟩
            by_cases q : lys L pp b' f i = -1
            · rw [e1 q, if_neg]
              intro z
              obtain ⟨x, hx, hq⟩ := anyW_ex.mp z
              have := hno x (by omega)
              simp only [Bool.and_eq_true, decide_eq_true_eq] at hq
              rw [hq.1, decide_eq_true (by omega)] at this
              cases this
            · exact lys_keep q
          | succ r2 ih2 =>
            intro y hy hno
            have go : (L i y && decide (lys L pp b' f y = (f : Int))) = false → A m11_ring 4 0 88 [(20, ((59 : Nat) : Int)), (0, (a' : Int)), (2, 0), (0, k), (0, (f : Int)), (0, (i : Int)), (0, ((y + 1 : Nat) : Int))] [] M3 (Ki P) := fun q => ih2 (y + 1) (by omega) (fun y' h1 => by
              by_cases c : y' = y
              · subst c; exact q
              · exact hno y' (by omega))
            apply r_11_ring_88
            rw [(keepS M3 hF3).1.1, w_1 (i := i) (by omega), w_1 (i := y) (by omega), w_1 (i := f) (by omega), Int.toNat_natCast, Int.toNat_natCast, s2 i (Nat.le_refl i) (by omega)]
            refine ⟨fun q => by omega, fun _ => ⟨by omega, fun q => leave (lys_keep q), fun q => ⟨by omega, fun q2 => go ?_, fun q2 => next M3 i y _ hF3 hi (by omega) ⟨fun q3 => go ?_, fun q3 => ⟨by omega, ?_⟩⟩⟩⟩⟩
            · rw [decide_eq_false (fun z => q2 ((hst3 y (by omega)).mpr z)), Bool.and_false]
            · have : L i y = false := by
                cases hc : L i y with
                | false => rfl
                | true => exact absurd hc (bi_eq q3)
              rw [this]; rfl
            · have hyf := (hst3 y (by omega)).mp q2
              have e2 := e1 q
              rw [if_pos (anyW_ex.mpr ⟨y, by omega, by rw [bi_ne q3, decide_eq_true (by omega)]; rfl⟩)] at e2
              have hF4 : Fp s76 M1 (mset M3 76 i ((f + 1 : Nat) : Int)) := hF3.set rfl
              -- the rest of this scan finds it told
              have rest : A m11_ring 4 0 74 [(20, ((59 : Nat) : Int)), (0, (a' : Int)), (2, 0), (0, k), (0, (f : Int)), (0, ((i + 1 : Nat) : Int)), (2, 0)] [] (mset M3 76 i ((f + 1 : Nat) : Int)) (Ki P) := nx _ ⟨hF4, fun j hj => by
                by_cases c : j = i
                · subst c; rw [mset_s, e2]
                · rw [mset_j c]; exact s1 j (by omega), fun j h1 h2 => by rw [mset_j (by omega)]; exact s2 j (by omega) h2⟩
              apply r_11_ring_88
              rw [(keepS _ hF4).1.1, w_1 (i := i) (by omega), Int.toNat_natCast, mset_s]
              exact ⟨fun _ => rest, fun _ => ⟨by omega, fun _ => rest, fun z => by omega⟩⟩
        exact scan pp 0 (by omega) (fun y' h1 => by omega)
  -- the start
  refine loop_up (Inv := fun i M2 => Fp s76 M1 M2 ∧ ∀ j, j < i → M2 76 j = lys L pp b' 0 j) (G := fun i M2 => A m11_ring 4 0 32 [(20, ((59 : Nat) : Int)), (0, (a' : Int)), (0, (b' : Int)), (0, k), (0, (i : Int)), (2, 0), (2, 0)] [] M2 (Ki P)) 5 ?_ ?_ 0 M1 (Nat.zero_le _) ⟨Fp.rf, fun j hj => by omega⟩
  · rintro M2 ⟨hM, hst⟩
    apply r_11_ring_32
    exact ⟨fun _ => lay 5 0 M2 rfl hM hst, fun q => by omega⟩
  · rintro i M2 hi ⟨hM, hst⟩ nx
    have z0 : lys L pp b' 0 i = if i = b' then 0 else -1 := rfl
    apply r_11_ring_32
    rw [Int.toNat_natCast, w_1 (i := i) (by omega)]
    refine ⟨fun q => by omega, fun _ => ⟨fun q => ⟨by omega, nx _ ⟨hM.set rfl, fun j hj => ?_⟩⟩, fun q => ⟨by omega, nx _ ⟨hM.set rfl, fun j hj => ?_⟩⟩⟩⟩
    · by_cases c : j = i
      · subst c; rw [mset_s, z0, if_neg (by omega)]
      · rw [mset_j c]; exact hst j (by omega)
    · by_cases c : j = i
      · subst c; rw [mset_s, z0, if_pos (by omega)]
      · rw [mset_j c]; exact hst j (by omega)
