/-! the reference's text, all of it -/
theorem LRx.ms {M : Mem} {L : LnS} {f : Nat} (h : LRx M L f) : LRx (msF M) L f := by
  have fm : Fp (fun k j => k = 59 ∧ (j = 25 ∨ j = 26)) M (msF M) := (Fp.rf.set ⟨rfl, Or.inl rfl⟩).set ⟨rfl, Or.inr rfl⟩
  have e : ∀ k, k ≠ 59 → msF M k = M k := fun k hk => fm.row (fun j => by omega)
  have e59 : ∀ j, j ≠ 25 → j ≠ 26 → msF M 59 j = M 59 j := fun j h1 h2 => fm 59 j (by omega)
  unfold LRx RY FrT
  rw [e59 23 (by decide) (by decide), e59 27 (by decide) (by decide), e59 28 (by decide) (by decide), e59 17 (by decide) (by decide), e 61 (by decide), e 62 (by decide), e 63 (by decide), e 64 (by decide), e 65 (by decide), e 66 (by decide), e 67 (by decide), e 68 (by decide), e 69 (by decide), e 70 (by decide), e 71 (by decide), e 72 (by decide), e 73 (by decide)]
  exact h
theorem x_text70 {P : Int → Mem → Prop} {k : Nat} {M : Mem} (hk : k < 6) (h : A m11_text 902 0 70 [(20, ((59 : Nat) : Int)), (2, 0), (0, ((6 + (k + 1) : Nat) : Int))] [] (mset (mset M 65 (6 + k) 0) 66 (6 + k) 0) (Ki P)) : A m11_text 902 0 70 [(20, ((59 : Nat) : Int)), (2, 0), (0, ((6 + k : Nat) : Int))] [] M (Ki P) := by
  have h1 : ¬ 12 ≤ ((6 + k : Nat) : Int) := by omega
  have h2 : 0 ≤ ((6 + k : Nat) : Int) ∧ ((6 + k : Nat) : Int) < 12 := by omega
  have ew : w32 (((6 + k : Nat) : Int) + 1) = ((6 + (k + 1) : Nat) : Int) := w_1 (i := 6 + k) (by omega)
  apply r_11_text_70
  rw [Int.toNat_natCast, ew]
  exact ⟨fun q => absurd q h1, fun _ => ⟨h2, h2, h⟩⟩
theorem x_text47 {P : Int → Mem → Prop} {k : Nat} {M : Mem} (hk : k < 5) (h : A m11_text 902 0 47 [(20, ((59 : Nat) : Int)), (2, 0), (0, ((k + 1 : Nat) : Int))] [] (mset M 61 (5 + k) 0) (Ki P)) : A m11_text 902 0 47 [(20, ((59 : Nat) : Int)), (2, 0), (0, (k : Int))] [] M (Ki P) := by
  have h1 : ¬ 5 ≤ (k : Int) := by omega
  have h2 : 0 ≤ ((5 + k : Nat) : Int) ∧ ((5 + k : Nat) : Int) < 10 := by omega
  have e5 : w32 (5 + (k : Int)) = ((5 + k : Nat) : Int) := by rw [w32_id (by omega) (by omega)]; omega
  have e1 : w32 ((k : Int) + 1) = ((k + 1 : Nat) : Int) := w_1 (i := k) (by omega)
  apply r_11_text_47
  rw [e5, Int.toNat_natCast, e1]
  exact ⟨fun q => absurd q h1, fun _ => ⟨h2, h⟩⟩
def TPr (M : Mem) (t : Nat → Int) (T : Nat) : Prop := M 59 2 = (T : Int) ∧ ∀ j, j < T → M 60 j = t j
def txR (k j : Nat) : Prop := lnR k j ∨ (k = 59 ∧ (j = 2 ∨ j = 18 ∨ j = 25 ∨ j = 26))
theorem s_text_r (hWR : WordR) {t : Nat → Int} {T : Nat} {x1 : Int} {M : Mem} {P : Int → Mem → Prop} (hT : TPr M t T) (h700 : T ≤ 700) (hb : bys t T)
    (h2 : ¬ (0 ≤ x1 ∧ x1 ≤ T) → P (-2) (mset M 59 0 0))
    (hn : ∀ n : Nat, x1 = (n : Int) → n ≤ T → ∀ f pl, TXT t n = .inr (f, pl) → f ≠ 0 → ∀ M', Fp txR (mset M 59 0 0) M' → M' 59 2 = 0 → M' 59 25 = (f : Int) → M' 59 26 = (pl : Int) → P (-1) M')
    (hy : ∀ n : Nat, x1 = (n : Int) → n ≤ T → ∀ L, TXT t n = .inl L → WFL L → ∀ M', Fp (fun k j => txR k j ∨ tlR k j) (mset M 59 0 0) M' → M' 59 2 = 0 → M' 59 25 = 0 → M' 59 26 = -1 → SLr M' L → P (L.1 8 : Int) M') : CI m11_text 902 [(20, ((59 : Nat) : Int)), (0, x1)] M P := by
  obtain ⟨t1, tb⟩ := hT
  apply q_11_text
  have t1 : mset M 59 0 0 59 2 = (T : Int) := by rw [mset_j (by decide)]; exact t1
  have tb : ∀ j, j < T → mset M 59 0 0 60 j = t j := fun j hj => by rw [mset_k (by decide)]; exact tb j hj
  generalize mset M 59 0 0 = M0 at *
  rw [t1]
  refine ⟨fun q => h2 (by omega), fun q => ⟨fun q1 => ?_, fun q1 => h2 (by omega)⟩⟩
  obtain ⟨n, rfl⟩ : ∃ n : Nat, x1 = (n : Int) := ⟨x1.toNat, by omega⟩
  have hnT : n ≤ T := by omega
  have hF1 : Fp txR M0 (mset (mset (mset (mset (mset M0 59 18 (n : Int)) 59 2 0) 59 19 0) 59 23 0) 59 24 (-1)) := by
    refine Fp.set (Fp.set (Fp.set (Fp.set (Fp.set Fp.rf ?_) ?_) ?_) ?_) ?_ <;> (unfold txR lnR; omega)
  have b18 : mset (mset (mset (mset (mset M0 59 18 (n : Int)) 59 2 0) 59 19 0) 59 23 0) 59 24 (-1) 59 18 = (n : Int) := by simp [mset]
  have b2 : mset (mset (mset (mset (mset M0 59 18 (n : Int)) 59 2 0) 59 19 0) 59 23 0) 59 24 (-1) 59 2 = 0 := by simp [mset]
  have b19 : mset (mset (mset (mset (mset M0 59 18 (n : Int)) 59 2 0) 59 19 0) 59 23 0) 59 24 (-1) 59 19 = ((0 : Nat) : Int) := by simp [mset]
  have b23 : mset (mset (mset (mset (mset M0 59 18 (n : Int)) 59 2 0) 59 19 0) 59 23 0) 59 24 (-1) 59 23 = 0 := by simp [mset]
  have b24 : mset (mset (mset (mset (mset M0 59 18 (n : Int)) 59 2 0) 59 19 0) 59 23 0) 59 24 (-1) 59 24 = -1 := by simp [mset]
  generalize mset (mset (mset (mset (mset M0 59 18 (n : Int)) 59 2 0) 59 19 0) 59 23 0) 59 24 (-1) = M1 at hF1 b18 b2 b19 b23 b24
  refine loop_up (Inv := fun i M2 => Fp (fun k j => k = 61 ∧ 5 ≤ j ∧ j < 10) M1 M2 ∧ ∀ j, j < i → M2 61 (5 + j) = 0) (G := fun i M2 => A m11_text 902 0 47 [(20, ((59 : Nat) : Int)), (2, 0), (0, (i : Int))] [] M2 (Ki P)) 5 ?_ ?_ 0 M1 (Nat.zero_le _) ⟨Fp.rf, fun j hj => absurd hj (Nat.not_lt_zero j)⟩
  · rintro M2 ⟨i1, i2⟩
    apply r_11_text_47
    refine ⟨fun _ => ?_, fun q => absurd q (by omega)⟩
    have g := loop_up (Inv := fun i M3 => Fp (fun k j => (k = 65 ∨ k = 66) ∧ 6 ≤ j ∧ j < 12) M2 M3 ∧ ∀ j, j < i → M3 65 (6 + j) = 0 ∧ M3 66 (6 + j) = 0) (G := fun i M3 => A m11_text 902 0 70 [(20, ((59 : Nat) : Int)), (2, 0), (0, ((6 + i : Nat) : Int))] [] M3 (Ki P)) 6 ?_ ?_ 0 M2 (Nat.zero_le _) ⟨Fp.rf, fun j hj => absurd hj (Nat.not_lt_zero j)⟩
    · exact g
    · rintro M3 ⟨j1, j2⟩
      apply r_11_text_70
      refine ⟨fun _ => ?_, fun q => absurd q (by omega)⟩
      have f4 : Fp (fun k j => k = 59 ∧ (j = 16 ∨ j = 17 ∨ j = 27 ∨ j = 28)) M3 (mset (mset (mset (mset M3 59 16 0) 59 17 0) 59 27 0) 59 28 0) := by
        refine Fp.set (Fp.set (Fp.set (Fp.set Fp.rf ?_) ?_) ?_) ?_ <;> omega
      have b16 : mset (mset (mset (mset M3 59 16 0) 59 17 0) 59 27 0) 59 28 0 59 16 = ((0 : Nat) : Int) := by simp [mset]
      have b17 : mset (mset (mset (mset M3 59 16 0) 59 17 0) 59 27 0) 59 28 0 59 17 = 0 := by simp [mset]
      have b27 : mset (mset (mset (mset M3 59 16 0) 59 17 0) 59 27 0) 59 28 0 59 27 = 0 := by simp [mset]
      have b28 : mset (mset (mset (mset M3 59 16 0) 59 17 0) 59 27 0) 59 28 0 59 28 = 0 := by simp [mset]
      generalize mset (mset (mset (mset M3 59 16 0) 59 17 0) 59 27 0) 59 28 0 = M4 at f4 b16 b17 b27 b28
      have hX : Fp (fun k j => (k = 61 ∧ 5 ≤ j ∧ j < 10) ∨ ((k = 65 ∨ k = 66) ∧ 6 ≤ j ∧ j < 12) ∨ (k = 59 ∧ (j = 16 ∨ j = 17 ∨ j = 27 ∨ j = 28))) M1 M4 := ((i1.mono (fun k j q => Or.inl q)).tr (j1.mono (fun k j q => Or.inr (Or.inl q)))).tr (f4.mono (fun k j q => Or.inr (Or.inr q)))
      have e60 : M4 60 = M0 60 := (hX.row (fun j => by omega)).trans (hF1.row (fun j => by unfold txR lnR; omega))
      have hT4 : TRm M4 t n := ⟨by rw [hX 59 18 (by omega)]; exact b18, by omega, fun j hj => by rw [e60]; exact tb j (by omega), fun j hj => hb j (by omega)⟩
      have hD4 : LRd M4 L0 := by
        have z61 : ∀ j, 5 ≤ j → j < 10 → M4 61 j = 0 := fun j h1 h2 => by
          have := i2 (j - 5) (by omega)
          rw [show 5 + (j - 5) = j by omega] at this
          rw [f4 61 j (by omega), j1 61 j (by omega)]; exact this
        refine ⟨⟨⟨by rw [hX 59 23 (by omega)]; exact b23, b27, b28, z61 9 (by omega) (by omega), fun i hi => absurd hi (Nat.not_lt_zero i)⟩, b17, z61 5 (by omega) (by omega), z61 6 (by omega) (by omega), z61 7 (by omega) (by omega), z61 8 (by omega) (by omega), fun i hi => absurd hi (Nat.not_lt_zero i), fun i hi => absurd hi (Nat.not_lt_zero i), fun i hi => ?_, fun _ => ?_, fun i hi => absurd hi (Nat.not_lt_zero i)⟩, ⟨0, b16, by decide, by decide, by decide⟩⟩
        · rcases hi with y | y
          · exact absurd y (Nat.not_lt_zero i)
          · exact absurd y.2 (by decide)
        · have := j2 5 (by omega)
          rw [f4 65 11 (by omega), f4 66 11 (by omega)]
          exact this
      apply s_token hWR hT4 (Nat.zero_le n) (by rw [hX 59 19 (by omega)]; exact b19) (by rw [hX 59 24 (by omega)]; exact b24)
      intro M5 hF5 hK5
      have hK5' : K0 M5 t n (L0.1 0) := ⟨hT4.fp hF5 (fun k j q => by unfold tkset at q; omega), hK5, by rw [hF5 59 23 (by unfold tkset; omega), hX 59 23 (by omega)]; exact b23, Nat.zero_le n⟩
      have hD5 : LRd M5 L0 := ⟨hD4.1.fp hF5 (fun k j q => Or.inl q) (Nat.zero_le _) (Nat.zero_le _) (Nat.zero_le _) (Nat.zero_le _), hD4.2.fp hF5 (by unfold tkset; omega)⟩
      have hFa : Fp txR M0 M5 := (hF1.tr (hX.mono (fun k j q => by unfold txR lnR; omega))).tr (hF5.mono (fun k j q => Or.inl (tk_lnR q)))
      have h52 : M5 59 2 = 0 := by rw [hF5 59 2 (by unfold tkset; omega), hX 59 2 (by omega)]; exact b2
      have ms : ∀ M6, Fp lnR M5 M6 → Fp txR M0 (msF M6) ∧ msF M6 59 2 = 0 ∧ msF M6 59 25 = M6 59 23 ∧ msF M6 59 26 = M6 59 24 := fun M6 hF6 => by
        have fm : Fp (fun k j => k = 59 ∧ (j = 25 ∨ j = 26)) M6 (msF M6) := (Fp.rf.set ⟨rfl, Or.inl rfl⟩).set ⟨rfl, Or.inr rfl⟩
        refine ⟨(hFa.tr (hF6.mono (fun k j q => Or.inl q))).tr (fm.mono (fun k j q => by unfold txR; omega)), ?_, ?_, ?_⟩
        · rw [fm 59 2 (by omega), hF6 59 2 (by unfold lnR; omega)]; exact h52
        · unfold msF; rw [mset_j (by decide), mset_s]
        · unfold msF; rw [mset_s, mset_j (by decide)]
      refine s_linesR hWR (M0 := M5) (by omega) (fun j hj => hb j (by omega)) ?_ ?_ (n + 1) L0 M5 rfl (by show n + 1 ≤ 0 + (n + 1); omega) L0_wf (Nat.zero_le n) (Nat.le_refl 0) Fp.rf hK5' hD5
      · intro L e hW h8 M6 hF6 hD6 k3 k4
        obtain ⟨m1, m2, m3, m4⟩ := ms M6 hF6
        refine s_tailR hW hD6.1.ms (fun M7 hF7 hS7 => hy n rfl hnT L e hW M7 ((m1.mono (fun k j q => Or.inl q)).tr (hF7.mono (fun k j q => Or.inr q))) ?_ ?_ ?_ hS7)
        · rw [hF7 59 2 (by unfold tlR; omega)]; exact m2
        · rw [hF7 59 25 (by unfold tlR; omega), m3]; exact k3
        · rw [hF7 59 26 (by unfold tlR; omega), m4]; exact k4
      · intro f pl e hf M6 hF6 hB
        obtain ⟨m1, m2, m3, m4⟩ := ms M6 hF6
        exact hn n rfl hnT f pl e hf _ m1 m2 (by rw [m3]; exact hB.1) (by rw [m4]; exact hB.2)
    · rintro k M3 hk ⟨j1, j2⟩ ih
      refine x_text70 hk (ih _ ⟨(j1.set ⟨Or.inl rfl, by omega, by omega⟩).set ⟨Or.inr rfl, by omega, by omega⟩, fun j hj => ?_⟩)
      by_cases q : j = k
      · subst q
        rw [mset_k (by decide), mset_s, mset_s]
        exact ⟨rfl, rfl⟩
      · rw [mset_k (by decide), mset_j (by omega), mset_j (by omega), mset_k (by decide)]
        exact j2 j (by omega)
  · rintro k M2 hk ⟨i1, i2⟩ ih
    refine x_text47 hk (ih _ ⟨i1.set ⟨rfl, by omega, by omega⟩, fun j hj => ?_⟩)
    by_cases q : j = k
    · subst q; exact mset_s
    · rw [mset_j (by omega)]; exact i2 j (by omega)
