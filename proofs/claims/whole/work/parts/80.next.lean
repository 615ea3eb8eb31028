/-! one step down, of the reference -/
theorem s_isNext {pp n nf : Nat} {s : Int} {F : FTab} {ag C : Nat → Int} {Bg E : Nat → Nat} {M : Mem} {P : Int → Mem → Prop} {a b : Nat} (hS : SR M pp n s nf F ag C Bg E) (hf : SF pp s nf F) (ha : a < pp) (hb : b < pp) (hm : mat M 75 (lvl F nf))
    (h : P (bi (ob F (lvl F nf) s nf a b = true)) M) : CI m11_isNext 2 [(20, ((59 : Nat) : Int)), (0, (a : Int)), (0, (b : Int))] M P := by
  have h5 := hf.1
  have h24 := hf.2.2.1
  have hg := hf.2.2.2.1
  have hnf := hS.2.2.2.2.1
  have hsm := hS.2.2.2.2.2
  have ew : w32 (0 + (nf : Int)) = (nf : Int) := by unfold w32; omega
  have z1 : ∀ c : Bool, (c.toNat : Int) ≠ 0 → c = true := by intro c; cases c <;> simp
  have z0 : ∀ c : Bool, (c.toNat : Int) = 0 → c = false := by intro c; cases c <;> simp
  apply q_11_isNext
  have key : ∀ k i : Nat, i + k = nf → ob F (lvl F nf) s i a b = false → A m11_isNext 2 0 2 [(20, ((59 : Nat) : Int)), (0, (a : Int)), (0, (b : Int)), (0, (i : Int))] [] M (Ki P) := by
    intro k
    induction k with
    | zero =>
      intro i hi ho
      have e : i = nf := by omega
      subst e
      rw [ho, bi_f (by decide)] at h
      apply r_11_isNext_2
      rw [hnf, ew]
      exact ⟨fun _ => h, fun q => by omega⟩
    | succ k ih =>
      intro i hi ho
      have hF5 := hg.1 i (by omega)
      have h2 := (hg.2 i (by omega)).1
      have e0 : M 69 (0 + i) = F i 0 := hsm i (by omega) 0 (by omega)
      have e1 : M 70 (0 + i) = F i 1 := hsm i (by omega) 1 (by omega)
      have e2 : M 71 (0 + i) = F i 2 := hsm i (by omega) 2 (by omega)
      have e3 : M 72 (0 + i) = F i 3 := hsm i (by omega) 3 (by omega)
      have e4 : M 73 (0 + i) = F i 4 := hsm i (by omega) 4 (by omega)
      rw [Nat.zero_add] at e0 e1 e2 e3 e4
      obtain ⟨f0, hf0⟩ : ∃ f0 : Nat, F i 0 = (f0 : Int) := ⟨(F i 0).toNat, by omega⟩
      obtain ⟨f1, hf1⟩ : ∃ f1 : Nat, F i 1 = (f1 : Int) := ⟨(F i 1).toNat, by omega⟩
      have no : (isAb F s i && lvl F nf f0 a && lvl F nf f1 b) = false → A m11_isNext 2 0 2 [(20, ((59 : Nat) : Int)), (0, (a : Int)), (0, (b : Int)), (0, ((i + 1 : Nat) : Int))] [] M (Ki P) := fun q => ih (i + 1) (by omega) (by
        rw [ob_step, ho, hf0, hf1, Int.toNat_natCast, Int.toNat_natCast, q]; rfl)
      apply r_11_isNext_2
      rw [hnf, ew, hS.2.1, w_1 (i := i) (by omega)]
      refine ⟨fun q => by omega, fun _ => s_risOf (by omega) ?_⟩
      rw [e3, e4, Int.toNat_natCast, e2, e0]
      refine ⟨fun q => no ?_, fun q => ⟨by omega, fun q1 => no ?_, fun q1 => ⟨by omega, ?_⟩⟩⟩
      · have hn : isAb F s i = false := decide_eq_false (fun z => bi_eq q ⟨z.1, z.2.2⟩)
        rw [hn]; rfl
      · have hn : isAb F s i = false := decide_eq_false (fun z => by omega)
        rw [hn]; rfl
      · have hab : isAb F s i = true := decide_eq_true ⟨(bi_ne q).1, by omega, (bi_ne q).2⟩
        rw [hf0]
        apply s_pair (by omega) (by omega)
        refine ⟨by omega, ?_⟩
        rw [Int.toNat_natCast, hm a f0 (by omega) (by omega)]
        refine ⟨fun q2 => no ?_, fun q2 => ⟨by omega, ?_⟩⟩
        · have : lvl F nf f0 a = false := by
            cases hl : lvl F nf f0 a with
            | false => rfl
            | true => rw [(lvl_eqv F nf).1 _ _ hl] at q2; exact absurd q2 (by decide)
          rw [this, Bool.and_false]; rfl
        · rw [e1, hf1]
          apply s_pair (by omega) (by omega)
          refine ⟨by omega, ?_⟩
          rw [Int.toNat_natCast, hm f1 b (by omega) (by omega)]
          refine ⟨fun q3 => no (by rw [z0 _ q3, Bool.and_false]), fun q3 => ?_⟩
          have hl0 := (lvl_eqv F nf).1 _ _ (z1 _ q2)
          have hall : ob F (lvl F nf) s nf a b = true := ob_iff.mpr ⟨i, by omega, hab, by rw [hf0, Int.toNat_natCast]; exact hl0, by rw [hf1, Int.toNat_natCast]; exact z1 _ q3⟩
          rw [bi_t hall] at h
          exact h
  exact key nf 0 (by omega) rfl
