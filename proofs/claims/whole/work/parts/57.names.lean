/-! the NAMES of a saying -/
theorem sk_congr {N N' : Nat → Int} {k : Int} {st : List Int} {d : Nat} (hN : ∀ i, i < 8 → N i = N' i) (hw : wd k st.length = some d) : sk N k st = sk N' k st := by
  unfold sk
  by_cases h1 : k < 10000
  · rw [if_pos h1, if_pos h1]
  · rw [if_neg h1, if_neg h1]
    by_cases h2 : k < 10010
    · have hr : 10000 ≤ k ∧ k < 10008 := by
        unfold wd at hw
        split at hw
        · omega
        · split at hw
          · omega
          · split at hw
            · omega
            · cases hw
      rw [if_pos h2, if_pos h2, hN _ (by omega)]
    · rw [if_neg h2, if_neg h2]
theorem evl_congr {C N N' : Nat → Int} (hN : ∀ i, i < 8 → N i = N' i) : ∀ (n i : Nat) (st : List Int) (d : Nat), wfc C i n st.length = some d → evl C N i n st = evl C N' i n st
  | 0, _, _, _, _ => rfl
  | n + 1, i, st, d, hw => by
    obtain ⟨d', hd, hw'⟩ := wfc_s hw
    have e := sk_congr hN hd
    cases hs : sk N (C i) st with
    | none => rw [evl_none hs, evl_none (e ▸ hs)]
    | some st1 => rw [evl_some hs, evl_some (e ▸ hs)]; exact evl_congr hN n (i + 1) st1 d (by rw [sk_len hd hs]; exact hw')
theorem Wt_congr {C N N' : Nat → Int} {B E : Nat → Nat} {j : Nat} (hN : ∀ i, i < 8 → N i = N' i) (hf : fok C B E j) : Wt C B E N j = Wt C B E N' j := by
  unfold Wt rvv
  rw [evl_congr hN _ _ [] 1 hf.2.2]
theorem rk_congr {W W' : Nat → Int} {n p : Nat} (h : ∀ j, j < n → W j = W' j) (hp : p < n) : rk W n p = rk W' n p := by
  unfold rk
  rw [cnt_sm, cnt_sm]
  refine sm_congr (fun i hi => ?_)
  unfold bef
  rw [h i hi, h p hp]
theorem crow_congr {W W' : Nat → Int} {n : Nat} (h : ∀ j, j < n → W j = W' j) : ∀ m, m ≤ n → crow W n m = crow W' n m
  | 0, _ => rfl
  | m + 1, hm => by
    show crow W n m ||| (m <<< (3 * rk W n m)) = crow W' n m ||| (m <<< (3 * rk W' n m))
    rw [crow_congr h m (by omega), rk_congr h (by omega)]
/-- what is RIGHT by these NAMES -/
def rgt (C : Nat → Int) (B E : Nat → Nat) (n : Nat) (N : Nat → Int) : Nat := crow (Wt C B E N) n n
theorem rgt_congr {C N N' : Nat → Int} {B E : Nat → Nat} {n : Nat} (hN : ∀ i, i < 8 → N i = N' i) (hf : ∀ j, j < n → fok C B E j) : rgt C B E n N = rgt C B E n N' :=
  crow_congr (fun j hj => Wt_congr hN (hf j hj)) n (Nat.le_refl n)
theorem srt_ex (W : Nat → Int) : ∀ n, ∃ o, srt W n o
  | 0 => ⟨fun _ => 0, fun j hj => by omega, fun a b _ hb => by omega, fun x hx => by omega⟩
  | n + 1 => by
    obtain ⟨o, ho⟩ := srt_ex W n
    have key : ∀ p, p ≤ n → (∀ k, p ≤ k → k < n → bef W n (o k) = true) → ∃ o', srt W (n + 1) o' := by
      intro p
      induction p with
      | zero => intro hp h1; exact ⟨_, srt_ins ho hp h1 (Or.inl rfl)⟩
      | succ p ih =>
        intro hp h1
        by_cases q : bef W (o p) n = true
        · exact ⟨_, srt_ins ho hp h1 (Or.inr q)⟩
        · refine ih (by omega) (fun k hk1 hk2 => ?_)
          by_cases e : k = p
          · subst e
            have hne : o k ≠ n := by have := ho.1 k hk2; omega
            rcases bef_tot (W := W) hne with z | z
            · exact absurd z q
            · exact z
          · exact h1 k (by omega) hk2
    exact key n (Nat.le_refl n) (fun k h1 h2 => by omega)
theorem rgt_pm {C N : Nat → Int} {B E : Nat → Nat} {n : Nat} (hn : n < 6) : pm n (rgt C B E n N) := by
  unfold rgt
  generalize Wt C B E N = W
  obtain ⟨o, ho⟩ := srt_ex W n
  obtain ⟨a1, a2⟩ := orow_w (o := o) (n := n) (fun j hj => by have := ho.1 j hj; omega) n (Nat.le_refl n)
  rw [← orow_crow hn ho]
  refine pm_of hn a2 (fun k hk => ?_) (fun j k hjk hk e => ?_)
  · rw [a1 k, if_pos hk]; exact ho.1 k hk
  · rw [a1 k, if_pos hk, a1 j, if_pos (by omega)] at e
    have := ho.2.1 j k hjk hk
    rw [e, bef_irr] at this
    cases this
def nmv (ag : Nat → Int) (sp he th : Nat) (s h t b : Int) : Nat → Int := fun i => match i with
  | 0 => h | 1 => t | 2 => b | 3 => bi (ag sp < ag he) | 4 => bi (ag he < ag th) | 5 => s | 6 => bi (th = he) | _ => 0
theorem bi_01 (p : Prop) [Decidable p] : bi p = 0 ∨ bi p = 1 := by
  unfold bi; split <;> simp
theorem nmv_ok {ag : Nat → Int} {sp he th : Nat} {s h t b : Int} (hs : -10 ≤ s ∧ s ≤ 10) (hh : -1 ≤ h ∧ h ≤ 1) (ht : -1 ≤ t ∧ t ≤ 1) (hb : -1 ≤ b ∧ b ≤ 1) : Nok (nmv ag sp he th s h t b) := by
  intro i hi
  have h3 := bi_01 (ag sp < ag he)
  have h4 := bi_01 (ag he < ag th)
  have h6 := bi_01 (th = he)
  match i, hi with
  | 0, _ => show _ ≤ h ∧ h ≤ _; omega
  | 1, _ => show _ ≤ t ∧ t ≤ _; omega
  | 2, _ => show _ ≤ b ∧ b ≤ _; omega
  | 3, _ => show _ ≤ bi (ag sp < ag he) ∧ bi (ag sp < ag he) ≤ _; omega
  | 4, _ => show _ ≤ bi (ag he < ag th) ∧ bi (ag he < ag th) ≤ _; omega
  | 5, _ => show _ ≤ s ∧ s ≤ _; omega
  | 6, _ => show _ ≤ bi (th = he) ∧ bi (th = he) ≤ _; omega
  | 7, _ => show (_ : Int) ≤ 0 ∧ (0 : Int) ≤ _; omega
def wayH (w : Nat) : Int := ((w / 9 : Nat) : Int) - 1
def wayT (w : Nat) : Int := ((w / 3 % 3 : Nat) : Int) - 1
def wayB (w : Nat) : Int := ((w % 3 : Nat) : Int) - 1
theorem way_of (w : Nat) (hw : w < 27) : w32 (w32 (Int.tdiv (w : Int) 9) - 1) = wayH w ∧ w32 (w32 (Int.tmod (w32 (Int.tdiv (w : Int) 3)) 3) - 1) = wayT w ∧ w32 (w32 (Int.tmod (w : Int) 3) - 1) = wayB w := by
  unfold wayH wayT wayB
  revert w
  decide +kernel
theorem way_bd {w : Nat} (hw : w < 27) : (-1 ≤ wayH w ∧ wayH w ≤ 1) ∧ (-1 ≤ wayT w ∧ wayT w ≤ 1) ∧ (-1 ≤ wayB w ∧ wayB w ≤ 1) := by
  unfold wayH wayT wayB; omega
def canB (h t b : Int) : Bool := decide (¬ (b ≠ 0 ∧ b = h ∧ t ≠ b) ∧ ¬ (t ≠ 0 ∧ t = -h ∧ b ≠ t) ∧ ¬ (b ≠ 0 ∧ t = -b ∧ h ≠ t))
def canw (self : Bool) (w : Nat) : Bool := if self = true then decide (wayT w = wayH w ∧ wayB w = 0) else canB (wayH w) (wayT w) (wayB w)
theorem s_goesOn {h t b : Int} {M : Mem} {P : Int → Mem → Prop} (hh : -1 ≤ h ∧ h ≤ 1) (ht : -1 ≤ t ∧ t ≤ 1) (hb : -1 ≤ b ∧ b ≤ 1) (hp : P (bi (canB h t b = true)) M) : CI m10_goesOn 2 [(0, b), (0, h), (0, t)] M P := by
  have e1 : w32 (-h) = -h := w32_id (by omega) (by omega)
  have e2 : w32 (-b) = -b := w32_id (by omega) (by omega)
  by_cases hc : canB h t b = true
  · rw [bi_t hc] at hp
    unfold canB at hc
    have hc := of_decide_eq_true hc
    apply q_10_goesOn
    apply q_10_isChain
    have st3 : CI m10_isChain 1 [(0, w32 (-b)), (0, t), (0, h)] M (fun r13 M14 => ((r13 = 0 → (P 0 M14)) ∧ (r13 ≠ 0 → (P 1 M14)))) := by
      apply q_10_isChain
      rw [e2]
      refine ⟨fun _ => ⟨fun q => absurd q (by decide), fun _ => hp⟩, fun q1 => ⟨fun _ => ⟨fun q => absurd q (by decide), fun _ => hp⟩, fun q2 => ⟨fun q3 => by omega, fun _ => ⟨fun q => absurd q (by decide), fun _ => hp⟩⟩⟩⟩
    have st2 : CI m10_isChain 1 [(0, t), (0, w32 (-h)), (0, b)] M (fun r7 M8 => ((r7 = 0 → (P 0 M8)) ∧ (r7 ≠ 0 → (CI m10_isChain 1 [(0, w32 (-b)), (0, t), (0, h)] M8 (fun r13 M14 => ((r13 = 0 → (P 0 M14)) ∧ (r13 ≠ 0 → (P 1 M14)))))))) := by
      apply q_10_isChain
      rw [e1]
      refine ⟨fun _ => ⟨fun q => absurd q (by decide), fun _ => st3⟩, fun q1 => ⟨fun _ => ⟨fun q => absurd q (by decide), fun _ => st3⟩, fun q2 => ⟨fun q3 => by omega, fun _ => ⟨fun q => absurd q (by decide), fun _ => st3⟩⟩⟩⟩
    refine ⟨fun _ => ⟨fun q => absurd q (by decide), fun _ => st2⟩, fun q1 => ⟨fun _ => ⟨fun q => absurd q (by decide), fun _ => st2⟩, fun q2 => ⟨fun q3 => by omega, fun _ => ⟨fun q => absurd q (by decide), fun _ => st2⟩⟩⟩⟩
  · rw [bi_f hc] at hp
    unfold canB at hc
    have hc := of_decide_eq_false (Bool.eq_false_iff.mpr hc)
    apply q_10_goesOn
    apply q_10_isChain
    have st3 : ¬ (b = 0 ∨ t ≠ -b ∨ h = t) → CI m10_isChain 1 [(0, w32 (-b)), (0, t), (0, h)] M (fun r13 M14 => ((r13 = 0 → (P 0 M14)) ∧ (r13 ≠ 0 → (P 1 M14)))) := by
      intro g
      apply q_10_isChain
      rw [e2]
      refine ⟨fun _ => by omega, fun q1 => ⟨fun _ => by omega, fun q2 => ⟨fun q3 => ⟨fun _ => hp, fun q => absurd rfl q⟩, fun _ => by omega⟩⟩⟩
    have st2 : (¬ (b ≠ 0 ∧ b = h ∧ t ≠ b)) → CI m10_isChain 1 [(0, t), (0, w32 (-h)), (0, b)] M (fun r7 M8 => ((r7 = 0 → (P 0 M8)) ∧ (r7 ≠ 0 → (CI m10_isChain 1 [(0, w32 (-b)), (0, t), (0, h)] M8 (fun r13 M14 => ((r13 = 0 → (P 0 M14)) ∧ (r13 ≠ 0 → (P 1 M14)))))))) := by
      intro g
      apply q_10_isChain
      rw [e1]
      refine ⟨fun _ => ⟨fun q => absurd q (by decide), fun _ => st3 (by omega)⟩, fun q1 => ⟨fun _ => ⟨fun q => absurd q (by decide), fun _ => st3 (by omega)⟩, fun q2 => ⟨fun q3 => ⟨fun _ => hp, fun q => absurd rfl q⟩, fun _ => ⟨fun q => absurd q (by decide), fun _ => st3 (by omega)⟩⟩⟩⟩
    refine ⟨fun _ => ⟨fun q => absurd q (by decide), fun _ => st2 (by omega)⟩, fun q1 => ⟨fun _ => ⟨fun q => absurd q (by decide), fun _ => st2 (by omega)⟩, fun q2 => ⟨fun q3 => ⟨fun _ => hp, fun q => absurd rfl q⟩, fun _ => ⟨fun q => absurd q (by decide), fun _ => st2 (by omega)⟩⟩⟩⟩
theorem s_canBe {h t b : Int} {M : Mem} {P : Int → Mem → Prop} (hh : -1 ≤ h ∧ h ≤ 1) (ht : -1 ≤ t ∧ t ≤ 1) (hb : -1 ≤ b ∧ b ≤ 1) (hp : P (bi (canB h t b = true)) M) : CI m11_canBe 1 [(0, h), (0, t), (0, b)] M P := by
  have z : ∀ (g : ¬ (¬ (b ≠ 0 ∧ b = h ∧ t ≠ b) ∧ ¬ (t ≠ 0 ∧ t = -h ∧ b ≠ t) ∧ ¬ (b ≠ 0 ∧ t = -b ∧ h ≠ t))), P 0 M := by
    intro g
    rwa [bi_f (by unfold canB; rw [decide_eq_false g]; decide)] at hp
  have o : ∀ (g : (¬ (b ≠ 0 ∧ b = h ∧ t ≠ b) ∧ ¬ (t ≠ 0 ∧ t = -h ∧ b ≠ t) ∧ ¬ (b ≠ 0 ∧ t = -b ∧ h ≠ t))), P 1 M := by
    intro g
    rwa [bi_t (by unfold canB; exact decide_eq_true g)] at hp
  have t94 : (¬ (b ≠ 0 ∧ b = h ∧ t ≠ b) ∧ ¬ (t ≠ 0 ∧ t = -h ∧ b ≠ t) ∧ ¬ (b ≠ 0 ∧ t = -b ∧ h ≠ t)) → A m11_canBe 1 0 94 [(2, 0), (2, 0), (2, 0)] [] M (Ki P) := fun g => r_11_canBe_94 (o g)
  have t79 : ¬ (h = 1 ∧ t = -1 ∧ b ≠ -1) → ¬ (h = -1 ∧ t = 1 ∧ b ≠ 1) → ¬ (h = -1 ∧ b = -1 ∧ t ≠ -1) → ¬ (h = 1 ∧ b = 1 ∧ t ≠ 1) → ¬ (t = 1 ∧ b = -1 ∧ h ≠ 1) → A m11_canBe 1 0 79 [(0, h), (0, t), (0, b)] [] M (Ki P) := by
    intro g1 g2 g3 g4 g5
    apply r_11_canBe_79
    refine ⟨fun q1 => t94 (by omega), fun q1 => ⟨fun q2 => t94 (by omega), fun q2 => ⟨fun q3 => r_11_canBe_98 (z (by omega)), fun q3 => t94 (by omega)⟩⟩⟩
  have t64 : ¬ (h = 1 ∧ t = -1 ∧ b ≠ -1) → ¬ (h = -1 ∧ t = 1 ∧ b ≠ 1) → ¬ (h = -1 ∧ b = -1 ∧ t ≠ -1) → ¬ (h = 1 ∧ b = 1 ∧ t ≠ 1) → A m11_canBe 1 0 64 [(0, h), (0, t), (0, b)] [] M (Ki P) := by
    intro g1 g2 g3 g4
    apply r_11_canBe_64
    refine ⟨fun q1 => t79 g1 g2 g3 g4 (by omega), fun q1 => ⟨fun q2 => t79 g1 g2 g3 g4 (by omega), fun q2 => ⟨fun q3 => r_11_canBe_98 (z (by omega)), fun q3 => t79 g1 g2 g3 g4 (by omega)⟩⟩⟩
  have t47 : ¬ (h = 1 ∧ t = -1 ∧ b ≠ -1) → ¬ (h = -1 ∧ t = 1 ∧ b ≠ 1) → ¬ (h = -1 ∧ b = -1 ∧ t ≠ -1) → A m11_canBe 1 0 47 [(0, h), (0, t), (0, b)] [] M (Ki P) := by
    intro g1 g2 g3
    apply r_11_canBe_47
    refine ⟨fun q1 => t64 g1 g2 g3 (by omega), fun q1 => ⟨fun q2 => t64 g1 g2 g3 (by omega), fun q2 => ⟨fun q3 => t64 g1 g2 g3 (by omega), fun q3 => r_11_canBe_62 (z (by omega))⟩⟩⟩
  have t32 : ¬ (h = 1 ∧ t = -1 ∧ b ≠ -1) → ¬ (h = -1 ∧ t = 1 ∧ b ≠ 1) → A m11_canBe 1 0 32 [(0, h), (0, t), (0, b)] [] M (Ki P) := by
    intro g1 g2
    apply r_11_canBe_32
    refine ⟨fun q1 => t47 g1 g2 (by omega), fun q1 => ⟨fun q2 => t47 g1 g2 (by omega), fun q2 => ⟨fun q3 => r_11_canBe_62 (z (by omega)), fun q3 => t47 g1 g2 (by omega)⟩⟩⟩
  have t15 : ¬ (h = 1 ∧ t = -1 ∧ b ≠ -1) → A m11_canBe 1 0 15 [(0, h), (0, t), (0, b)] [] M (Ki P) := by
    intro g1
    apply r_11_canBe_15
    refine ⟨fun q1 => t32 g1 (by omega), fun q1 => ⟨fun q2 => t32 g1 (by omega), fun q2 => ⟨fun q3 => t32 g1 (by omega), fun q3 => r_11_canBe_30 (z (by omega))⟩⟩⟩
  apply q_11_canBe
  refine ⟨fun q1 => t15 (by omega), fun q1 => ⟨fun q2 => t15 (by omega), fun q2 => ⟨fun q3 => r_11_canBe_30 (z (by omega)), fun q3 => t15 (by omega)⟩⟩⟩
theorem s_isWay {w : Nat} {self : Bool} {x : Int} {M : Mem} {P : Int → Mem → Prop} (hw : w < 27) (hx : x = bi (self = true)) (hp : P (bi (canw self w = true)) M) : CI m11_isWay 2 [(0, (w : Int)), (0, x)] M P := by
  obtain ⟨e1, e2, e3⟩ := way_of w hw
  obtain ⟨b1, b2, b3⟩ := way_bd hw
  apply q_11_isWay
  rw [e1, e2, e3]
  cases self with
  | false =>
    refine ⟨fun _ => s_canBe b1 b2 b3 ⟨bi_01 _, hp⟩, fun q => absurd hx q⟩
  | true =>
    refine ⟨fun q => absurd (hx.symm.trans q) (by decide), fun _ => ⟨fun q => ?_, fun q1 => ⟨fun q => ?_, fun q2 => ?_⟩⟩⟩
    · rwa [bi_f (by simp [canw]; intro z; exact absurd z q)] at hp
    · rwa [bi_f (by simp [canw]; intro _; exact q)] at hp
    · rwa [bi_t (by simp [canw]; exact ⟨q1, q2⟩)] at hp
def wset : Nat → Nat → Prop := fun k j => k = 40 ∧ j < 3
theorem s_standByWay {w : Nat} {self : Bool} {M : Mem} {P : Int → Mem → Prop} (hw : w < 27) (hs : M 40 6 = bi (self = true))
    (h : ∀ M', Fp wset M M' → M' 40 0 = wayH w → M' 40 1 = wayT w → M' 40 2 = wayB w → P (bi (canw self w = true)) M') : CI m9_standByWay 3 [(18, ((39 : Nat) : Int)), (0, (w : Int))] M P := by
  obtain ⟨e1, e2, e3⟩ := way_of w hw
  obtain ⟨b1, b2, b3⟩ := way_bd hw
  have a40 : ((aln 40 : Nat) : Int) = 8 := by decide
  apply q_9_standByWay
  rw [e1, e2, e3]
  apply s_put (by omega) (by omega)
  apply s_put (by omega) (by omega)
  apply s_put (by omega) (by omega)
  apply s_at (by omega) (by omega)
  have hF : Fp wset M (mset (mset (mset M 40 0 (wayH w)) 40 1 (wayT w)) 40 2 (wayB w)) := ((Fp.rf.set ⟨rfl, by omega⟩).set ⟨rfl, by omega⟩).set ⟨rfl, by omega⟩
  have hp := h _ hF (by rw [mset_j (by decide), mset_j (by decide), mset_s]) (by rw [mset_j (by decide), mset_s]) mset_s
  have h6 : (mset (mset (mset M 40 (0 : Int).toNat (wayH w)) 40 (1 : Int).toNat (wayT w)) 40 (2 : Int).toNat (wayB w)) 40 (6 : Int).toNat = bi (self = true) := by
    have h7 := hF 40 6 (by unfold wset; omega)
    exact h7.trans hs
  rw [h6]
  cases self with
  | false =>
    refine ⟨fun _ => s_goesOn b1 b2 b3 ⟨bi_01 _, hp⟩, fun q => absurd q (by decide)⟩
  | true =>
    refine ⟨fun q => absurd rfl q, fun _ => ⟨fun q => ?_, fun q1 => ⟨fun q => ?_, fun q2 => ?_⟩⟩⟩
    · rwa [bi_f (by simp [canw]; intro z; exact absurd z q)] at hp
    · rwa [bi_f (by simp [canw]; intro _; exact q)] at hp
    · rwa [bi_t (by simp [canw]; exact ⟨q1, q2⟩)] at hp
