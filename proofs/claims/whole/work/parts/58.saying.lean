/-! the NAMES are called by the class and by the reference -/
def mset40 : Nat → Nat → Prop := fun k j => k = 40 ∧ 3 ≤ j
theorem s_meet {b sp he th : Nat} {s : Int} {M : Mem} {P : Mem → Prop} (hb : b = 5 ∨ b = 21) (hsp : sp < 5) (hhe : he < 5) (hth : th < 5)
    (h : ∀ M', Fp mset40 M M' → (∀ i, 3 ≤ i → i < 8 → M' 40 i = nmv (M (b + 2)) sp he th s 0 0 0 i) → P M') : CD m9_meet 2 [(18, ((39 : Nat) : Int)), (10, (b : Int)), (0, (sp : Int)), (0, (he : Int)), (0, (th : Int)), (0, s)] M P := by
  have a40 : ((aln 40 : Nat) : Int) = 8 := by decide
  have ab : ((aln (b + 2) : Nat) : Int) = 5 := by rcases hb with rfl | rfl <;> decide
  have hne : b + 2 ≠ 40 := by omega
  have leaf : ∀ v3 v4 v6, v3 = bi (M (b + 2) sp < M (b + 2) he) → v4 = bi (M (b + 2) he < M (b + 2) th) → v6 = bi (th = he) → P (mset (mset (mset (mset (mset M 40 3 v3) 40 4 v4) 40 5 s) 40 6 v6) 40 7 0) := by
    rintro v3 v4 v6 rfl rfl rfl
    refine h _ (((((Fp.rf.set ⟨rfl, by omega⟩).set ⟨rfl, by omega⟩).set ⟨rfl, by omega⟩).set ⟨rfl, by omega⟩).set ⟨rfl, by omega⟩) (fun i hi1 hi2 => ?_)
    match i, hi1, hi2 with
    | 3, _, _ => simp [mset, nmv]
    | 4, _, _ => simp [mset, nmv]
    | 5, _, _ => simp [mset, nmv]
    | 6, _, _ => simp [mset, nmv]
    | 7, _, _ => simp [mset, nmv]
  apply q_9_meet
  apply s_at (by omega) (by omega)
  apply s_at (by omega) (by omega)
  simp only [Int.toNat_natCast]
  refine ⟨fun q1 => ?_, fun q1 => ?_⟩ <;>
  · apply s_put (by omega) (by omega)
    apply s_at (by omega) (by omega)
    simp only [Int.toNat_natCast, mset_k hne]
    refine ⟨fun q2 => ?_, fun q2 => ?_⟩ <;>
    · apply s_put (by omega) (by omega)
      apply s_put (by omega) (by omega)
      refine ⟨fun q3 => ?_, fun q3 => ?_⟩ <;>
      · apply s_put (by omega) (by omega)
        apply s_put (by omega) (by omega)
        refine leaf _ _ _ ?_ ?_ ?_ <;> first | exact (bi_t (by omega)).symm | exact (bi_f (by omega)).symm
theorem btw_bd (B : Nat → Nat → Bool) (a b : Nat) : -1 ≤ btw B a b ∧ btw B a b ≤ 1 := by
  unfold btw; split
  · omega
  · split <;> omega
theorem btw_self {B : Nat → Nat → Bool} {a : Nat} (h : B a a = false) : btw B a a = 0 := by
  unfold btw; rw [if_neg (by rw [h]; decide), if_neg (by rw [h]; decide)]
theorem s_standBy {o sp he th : Nat} {B : Nat → Nat → Bool} {M : Mem} {P : Mem → Prop} (ho : isO o) (ho4 : o + 3 < 40 ∨ 40 < o) (hsp : sp < 5) (hhe : he < 5) (hth : th < 5) (hB : rows M (o + 3) B) (hir : ∀ a, B a a = false)
    (h : ∀ M', Fp wset M M' → M' 40 0 = btw B he sp → M' 40 1 = btw B th sp → M' 40 2 = btw B th he → P M') : CD m9_standBy 4 [(18, ((39 : Nat) : Int)), (15, (o : Int)), (0, (sp : Int)), (0, (he : Int)), (0, (th : Int))] M P := by
  have a40 : ((aln 40 : Nat) : Int) = 8 := by decide
  have rw_ : ∀ (M1 : Mem) (j : Nat) (v : Int), rows M1 (o + 3) B → rows (mset M1 40 j v) (o + 3) B := fun M1 j v hr p hp => by
    rw [mset_k (by omega)]; exact hr p hp
  have leaf : ∀ v, v = btw B th he → P (mset (mset (mset M 40 0 (btw B he sp)) 40 1 (btw B th sp)) 40 2 v) := by
    rintro v rfl
    refine h _ (((Fp.rf.set ⟨rfl, by omega⟩).set ⟨rfl, by omega⟩).set ⟨rfl, by omega⟩) ?_ ?_ ?_
    · simp [mset]
    · simp [mset]
    · simp [mset]
  apply q_9_standBy
  apply s_between ho (by omega) (by omega) hB
  apply s_put (by omega) (by omega)
  apply s_between ho (by omega) (by omega) (rw_ _ _ _ hB)
  apply s_put (by omega) (by omega)
  refine ⟨fun q => ?_, fun q => ?_⟩
  · apply s_between ho (by omega) (by omega) (rw_ _ _ _ (rw_ _ _ _ hB))
    apply s_put (by omega) (by omega)
    exact leaf _ rfl
  · apply s_put (by omega) (by omega)
    have e : th = he := by omega
    subst e
    exact leaf _ (btw_self (hir th)).symm
def n77 : Nat → Nat → Prop := fun k _ => k = 77
theorem i77 {j : Nat} : n77 77 j := rfl
theorem s_is0 {M : Mem} {P : Int → Mem → Prop} (h : P 0 M) : CL m11_is 1 [(0, 0)] M P := s_is h
theorem s_is1 {M : Mem} {P : Int → Mem → Prop} (h : P 1 M) : CL m11_is 1 [(0, 1)] M P := s_is h
theorem s_calls {sp he th : Nat} {s x y z : Int} {M : Mem} {P : Mem → Prop} (hsp : sp < 5) (hhe : he < 5) (hth : th < 5)
    (h : ∀ M', Fp n77 M M' → (∀ i, i < 8 → M' 77 i = nmv (M 63) sp he th s x y z i) → P M') : CD m11_calls 2 [(20, ((59 : Nat) : Int)), (0, (sp : Int)), (0, (he : Int)), (0, (th : Int)), (0, s), (0, x), (0, y), (0, z)] M P := by
  have hne : (63 : Nat) ≠ 77 := by decide
  have leaf : ∀ v3 v4 v6, v3 = bi (M 63 sp < M 63 he) → v4 = bi (M 63 he < M 63 th) → v6 = bi (th = he) → P (mset (mset (mset (mset (mset (mset (mset (mset M 77 0 x) 77 1 y) 77 2 z) 77 3 v3) 77 4 v4) 77 5 s) 77 6 v6) 77 7 0) := by
    rintro v3 v4 v6 rfl rfl rfl
    refine h _ ((((((((Fp.rf.set i77).set i77).set i77).set i77).set i77).set i77).set i77).set i77) (fun i hi2 => ?_)
    match i, hi2 with
    | 0, _ => simp [mset, nmv]
    | 1, _ => simp [mset, nmv]
    | 2, _ => simp [mset, nmv]
    | 3, _ => simp [mset, nmv]
    | 4, _ => simp [mset, nmv]
    | 5, _ => simp [mset, nmv]
    | 6, _ => simp [mset, nmv]
    | 7, _ => simp [mset, nmv]
  apply q_11_calls
  simp only [Int.toNat_natCast, mset_k hne]
  refine ⟨by omega, by omega, fun q1 => s_is0 ?_, fun q1 => s_is1 ?_⟩ <;>
  · simp only [mset_k hne]
    refine ⟨by omega, by omega, fun q2 => s_is0 ?_, fun q2 => s_is1 ?_⟩ <;>
    · refine ⟨fun q3 => s_is0 ?_, fun q3 => s_is1 ?_⟩ <;>
      · refine leaf _ _ _ ?_ ?_ ?_ <;> first | exact (bi_t (by omega)).symm | exact (bi_f (by omega)).symm
theorem s_over {a b : Nat} {B : Nat → Nat → Bool} {M : Mem} {P : Int → Mem → Prop} (ha : a < 5) (hb : b < 5) (hB : mat M 74 B) (h : P (btw B a b) M) : CI m11_over 2 [(20, ((59 : Nat) : Int)), (0, (a : Int)), (0, (b : Int))] M P := by
  have z : ∀ c : Bool, (c.toNat : Int) = 0 → c = false := by intro c; cases c <;> simp
  have z1 : ∀ c : Bool, (c.toNat : Int) ≠ 0 → c = true := by intro c; cases c <;> simp
  apply q_11_over
  apply s_pair (by omega) (by omega)
  refine ⟨by omega, ?_⟩
  rw [Int.toNat_natCast, hB a b ha hb]
  refine ⟨fun q1 => ?_, fun q1 => ?_⟩
  · apply s_pair (by omega) (by omega)
    refine ⟨by omega, ?_⟩
    rw [Int.toNat_natCast, hB b a hb ha]
    refine ⟨fun q2 => ?_, fun q2 => ?_⟩
    · unfold btw at h; rwa [z _ q1, z _ q2] at h
    · unfold btw at h; rwa [z _ q1, z1 _ q2] at h
  · unfold btw at h; rwa [z1 _ q1] at h
theorem s_standsLaid {a b : Nat} {B : Nat → Nat → Bool} {M : Mem} {P : Int → Mem → Prop} (ha : a < 5) (hb : b < 5) (hB : mat M 74 B) (h : P (if btw B a b < 0 then 2 else btw B a b) M) : CI m11_standsLaid 2 [(20, ((59 : Nat) : Int)), (0, (a : Int)), (0, (b : Int))] M P := by
  have z : ∀ c : Bool, (c.toNat : Int) = 0 → c = false := by intro c; cases c <;> simp
  have z1 : ∀ c : Bool, (c.toNat : Int) ≠ 0 → c = true := by intro c; cases c <;> simp
  apply q_11_standsLaid
  apply s_pair (by omega) (by omega)
  refine ⟨by omega, ?_⟩
  rw [Int.toNat_natCast, hB a b ha hb]
  refine ⟨fun q1 => ?_, fun q1 => ?_⟩
  · apply s_pair (by omega) (by omega)
    refine ⟨by omega, ?_⟩
    rw [Int.toNat_natCast, hB b a hb ha]
    refine ⟨fun q2 => ?_, fun q2 => ?_⟩
    · unfold btw at h; rwa [z _ q1, z _ q2] at h
    · unfold btw at h; rwa [z _ q1, z1 _ q2] at h
  · unfold btw at h; rwa [z1 _ q1] at h
theorem s_callsLaid {sp he th : Nat} {s : Int} {B : Nat → Nat → Bool} {M : Mem} {P : Mem → Prop} (hsp : sp < 5) (hhe : he < 5) (hth : th < 5) (hB : mat M 74 B)
    (h : ∀ M', Fp n77 M M' → (∀ i, i < 8 → M' 77 i = nmv (M 63) sp he th s (btw B he sp) (btw B th sp) (btw B th he) i) → P M') : CD m11_callsLaid 3 [(20, ((59 : Nat) : Int)), (0, (sp : Int)), (0, (he : Int)), (0, (th : Int)), (0, s)] M P := by
  apply q_11_callsLaid
  apply s_over hhe hsp hB
  apply s_over hth hsp hB
  apply s_over hth hhe hB
  apply s_calls hsp hhe hth
  exact h
def rrset : Nat → Nat → Prop := fun k j => aset k j ∨ k = 77
theorem Rk.f77 {M M' : Mem} {n : Nat} {C : Nat → Int} {B E : Nat → Nat} (h : Rk M n C B E) (hF : Fp n77 M M') : Rk M' n C B E :=
  h.fp hF (by unfold n77; omega) (fun _ => by unfold n77; omega) (fun _ => by unfold n77; omega) (fun _ => by unfold n77; omega) (fun _ => by unfold n77; omega)
theorem s_rightOf {n : Nat} {C : Nat → Int} {Bg E : Nat → Nat} {N : Nat → Int} {M M1 : Mem} {P : Int → Mem → Prop} (hr : Rk M n C Bg E) (hF : Fp n77 M M1) (hN : ∀ i, i < 8 → M1 77 i = N i) (hk : Nok N)
    (h : ∀ M', Fp rrset M M' → P (rgt C Bg E n N : Int) M') : CD m11_arrange 4 [(20, ((59 : Nat) : Int))] M1 (fun M5 => CI m11_rowOf 1 [(20, ((59 : Nat) : Int))] M5 (fun r7 M8 => P r7 M8)) := by
  have hr1 := hr.f77 hF
  apply s_arrange hr1 (fun i hi => by rw [hN i hi]; exact hk i hi)
  intro M2 o hF2 ho hs
  refine s_rowOf hr.1 (by rw [hF2 61 2 (aset_no (by omega))]; exact hr1.2.1) ho hs ?_
  have e : crow (Wt C Bg E (M1 77)) n n = rgt C Bg E n N := rgt_congr hN hr.2.2.2.2.2
  rw [e]
  exact h M2 ((hF.mono (fun k j hk => Or.inr hk)).tr (hF2.mono (fun k j hk => Or.inl hk)))
theorem s_right {n sp he th : Nat} {s : Int} {B : Nat → Nat → Bool} {C : Nat → Int} {Bg E : Nat → Nat} {M : Mem} {P : Int → Mem → Prop} (hr : Rk M n C Bg E) (hsp : sp < 5) (hhe : he < 5) (hth : th < 5) (hs : -10 ≤ s ∧ s ≤ 10) (hB : mat M 74 B)
    (h : ∀ M', Fp rrset M M' → P (rgt C Bg E n (nmv (M 63) sp he th s (btw B he sp) (btw B th sp) (btw B th he)) : Int) M') : CI m11_right 5 [(20, ((59 : Nat) : Int)), (0, (sp : Int)), (0, (he : Int)), (0, (th : Int)), (0, s)] M P := by
  apply q_11_right
  apply s_callsLaid hsp hhe hth hB
  intro M1 hF hN
  exact s_rightOf hr hF hN (nmv_ok hs (btw_bd _ _ _) (btw_bd _ _ _) (btw_bd _ _ _)) h
theorem s_rightBy {n sp he th w : Nat} {C : Nat → Int} {Bg E : Nat → Nat} {M : Mem} {P : Int → Mem → Prop} (hr : Rk M n C Bg E) (hsp : sp < 5) (hhe : he < 5) (hth : th < 5) (hs : -10 ≤ M 59 32 ∧ M 59 32 ≤ 10) (hw : w < 27)
    (h : ∀ M', Fp rrset M M' → P (rgt C Bg E n (nmv (M 63) sp he th (M 59 32) (wayH w) (wayT w) (wayB w)) : Int) M') : CI m11_rightBy 5 [(20, ((59 : Nat) : Int)), (0, (sp : Int)), (0, (he : Int)), (0, (th : Int)), (0, (w : Int))] M P := by
  obtain ⟨e1, e2, e3⟩ := way_of w hw
  obtain ⟨b1, b2, b3⟩ := way_bd hw
  apply q_11_rightBy
  rw [e1, e2, e3]
  apply s_calls hsp hhe hth
  intro M1 hF hN
  exact s_rightOf hr hF hN (nmv_ok hs b1 b2 b3) h
