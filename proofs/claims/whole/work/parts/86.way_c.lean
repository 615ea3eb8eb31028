/-! the way down, of the class -/
theorem s_onTheWay {o pp a b m k d : Nat} {L : Nat → Nat → Bool} {M : Mem} {P : Int → Mem → Prop} (ho : isO o) (h5 : pp ≤ 5) (hp : M o 4 = (pp : Int)) (ha : a < pp) (hb : b < pp) (hL : rows M (o + 2) L) (hst : ∀ i, i < 8 → M (o + 4) i = lys L pp b m i) (hd : lys L pp b m a = (d : Int)) (hk : k ≤ d) (hd5 : d < 100)
    (h : P (wlk L (lys L pp b m) pp k a : Int) M) : CI m5_onTheWay 3 [(15, (o : Int)), (0, (a : Int)), (0, (b : Int)), (0, (k : Int))] M P := by
  have a4 : ((aln (o + 4) : Nat) : Int) = 8 := by rw [ho.2.2.2]; rfl
  apply q_5_onTheWay
  have b0 : ∀ m, lys L pp b m b = 0 := by
    intro m
    induction m with
    | zero => show (if b = b then (0 : Int) else -1) = 0; rw [if_pos rfl]
    | succ m ih => rw [lys_keep (by omega)]; exact ih
  have key : ∀ r i x : Nat, i + r = k → x < pp → lys L pp b m x = ((d - i : Nat) : Int) → wlk L (lys L pp b m) pp r x = wlk L (lys L pp b m) pp k a → A m5_onTheWay 3 0 6 [(15, (o : Int)), (2, 0), (0, (b : Int)), (0, (k : Int)), (0, (x : Int)), (0, (i : Int))] [] M (Ki P) := by
    intro r
    induction r with
    | zero =>
      intro i x hi hx hv he
      apply r_5_onTheWay_6
      refine ⟨fun _ => ?_, fun q => by omega⟩
      have e : wlk L (lys L pp b m) pp 0 x = x := rfl
      rw [← he, e] at h
      exact h
    | succ r ih =>
      intro i x hi hx hv he
      have hxb : (x : Int) ≠ (b : Int) := by
        intro e
        have : x = b := by omega
        rw [this, b0 m] at hv
        omega
      obtain ⟨f, hf⟩ : ∃ f, d - i = f + 1 := ⟨d - i - 1, by omega⟩
      rw [hf] at hv
      obtain ⟨y, hy, hl, hyv⟩ := lys_next m hv
      have ew : w32 (((f + 1 : Nat) : Int) - 1) = (f : Int) := by unfold w32; omega
      have ef : ((f + 1 : Nat) : Int) - 1 = (f : Int) := by omega
      have hq : fsb (fun y => L x y && decide (lys L pp b m y = (f : Int))) pp 0 ≠ -1 := by
        intro z
        have := (fsb_iff pp 0).mp z y (Nat.zero_le y) (by omega)
        rw [hl, decide_eq_true hyv] at this
        cases this
      obtain ⟨z, z1, _, z2, z3, _⟩ := fsb_in pp 0 hq
      simp only [Bool.and_eq_true, decide_eq_true_eq] at z3
      have hw : wlk L (lys L pp b m) pp (r + 1) x = wlk L (lys L pp b m) pp r z := by
        show wlk L (lys L pp b m) pp r (fsb (fun y => L x y && decide (lys L pp b m y = lys L pp b m x - 1)) pp 0).toNat = _
        rw [hv, ef, z1, Int.toNat_natCast]
      have hfs : ∀ (k i : Nat), i + k ≤ 8 → fsb (fun y => L x y && decide (M (o + 4) y = (f : Int))) k i = fsb (fun y => L x y && decide (lys L pp b m y = (f : Int))) k i := by
        intro k
        induction k with
        | zero => intro i _; rfl
        | succ k ih2 => intro i h8; rw [fsb_step, fsb_step, ih2 (i + 1) (by omega), hst i (by omega)]
      apply r_5_onTheWay_6
      rw [w_1 (i := i) (by omega)]
      refine ⟨fun q => by omega, fun _ => ⟨fun q => absurd q hxb, fun _ => ⟨fun q => by omega, fun _ => s_at (by omega) (by omega) ?_⟩⟩⟩
      rw [Int.toNat_natCast, hst x (by omega), hv, ew]
      apply s_firstBelowAt ho h5 hp (by omega) hL
      rw [hfs pp 0 (by omega), z1]
      exact ih (i + 1) z (by omega) (by omega) (by rw [z3.2]; omega) (by rw [← hw]; exact he)
  exact key k 0 a (by omega) ha (by rw [hd]; rfl) rfl
