/-! the reference: an order laid by its number -/
def tri : Nat → Nat
  | 0 => 0
  | m + 1 => tri m + m
theorem pw_tri : ∀ n, n < 6 → ∀ m, m < n → ∀ j, j < m → pw n (pix (n - 1 - m) (n - 1 - j)) = 3 ^ (tri m + j) ∧ rd n (pix (n - 1 - m) (n - 1 - j)) = 3 := by decide
theorem tot_tri : ∀ n, n < 6 → tot n = 3 ^ tri n ∧ tri n ≤ 10 := by decide
theorem prs_tri : ∀ n : Nat, n < 6 → w32 (Int.tdiv (w32 ((n : Int) * w32 ((n : Int) - 1))) 2) = (tri n : Int) := by decide
theorem s_pairs {pp : Nat} {M : Mem} {P : Int → Mem → Prop} (hp : pp ≤ 5) (h61 : M 61 0 = (pp : Int)) (h : P (tri pp : Int) M) : CI m11_pairs 1 [(20, ((59 : Nat) : Int))] M P := by
  apply q_11_pairs
  rw [h61, prs_tri pp (by omega)]
  exact h
theorem s_codes {pp : Nat} {M : Mem} {P : Int → Mem → Prop} (hp : pp ≤ 5) (h61 : M 61 0 = (pp : Int)) (h : P (tot pp : Int) M) : CI m11_codes 2 [(20, ((59 : Nat) : Int))] M P := by
  obtain ⟨e1, e2⟩ := tot_tri pp (by omega)
  rw [e1] at h
  apply q_11_codes
  refine loop_up (Inv := fun k M1 => M1 = M) (G := fun k M1 => A m11_codes 2 0 4 [(20, ((59 : Nat) : Int)), (0, ((3 ^ k : Nat) : Int)), (0, (k : Int))] [] M1 (Ki P)) (tri pp) ?_ ?_ 0 M (by omega) rfl
  · rintro M1 rfl
    apply r_11_codes_4
    apply s_pairs hp h61
    exact ⟨fun _ => h, fun q => by omega⟩
  · rintro k M1 hk rfl ih
    have hb : 3 ^ (k + 1) ≤ 3 ^ 10 := Nat.pow_le_pow_right (by decide) (by omega)
    rw [Nat.pow_succ] at hb
    have e : w32 (((3 ^ k : Nat) : Int) * 3) = ((3 ^ (k + 1) : Nat) : Int) := by
      rw [Nat.pow_succ]
      generalize 3 ^ k = z at hb ⊢
      rw [w32_id (by omega) (by omega)]; omega
    apply r_11_codes_4
    apply s_pairs hp h61
    rw [e, w_1 (i := k) (by omega)]
    exact ⟨fun q => by omega, fun _ => ih M1 rfl⟩
def n74 (k _j : Nat) : Prop := k = 74
theorem s_layCode {pp c : Nat} {M : Mem} {P : Int → Mem → Prop} (hp : pp ≤ 5) (h61 : M 61 0 = (pp : Int)) (hc : c < 2147483648) (h : ∀ M', Fp n74 M M' → matn pp M' (bB (dgt pp c)) → P (bi (trb pp c = true)) M') : CI m11_layCode 2 [(20, ((59 : Nat) : Int)), (0, (c : Int))] M P := by
  have hd3 : ∀ u, c / u < 2147483648 := fun u => Nat.lt_of_le_of_lt (Nat.div_le_self _ _) hc
  have td : ∀ r : Nat, Int.tdiv (r : Int) 3 = ((r / 3 : Nat) : Int) := fun r => rfl
  have tm : ∀ r : Nat, Int.tmod (r : Int) 3 = ((r % 3 : Nat) : Int) := fun r => rfl
  apply q_11_layCode
  rw [h61]
  suffices key : ∀ m M1, m ≤ pp → (Fp n74 M M1 ∧ ∀ p q, p < pp → q < pp → pp - m ≤ p → pp - m ≤ q → M1 74 (5 * p + q) = ((bB (dgt pp c) p q).toNat : Int)) → A m11_layCode 2 0 14 [(20, ((59 : Nat) : Int)), (2, 0), (0, ((c / 3 ^ tri m : Nat) : Int)), (0, (pp : Int)), (0, w32 ((pp - m : Nat) - 1 : Int)), (2, 0), (2, 0)] [] M1 (Ki P) by
    have := key 0 M (by omega) ⟨Fp.rf, fun p q h1 h2 h3 => by omega⟩
    rw [show c / 3 ^ tri 0 = c from Nat.div_one c] at this
    exact this
  refine loop_up (Inv := fun m M1 => Fp n74 M M1 ∧ ∀ p q, p < pp → q < pp → pp - m ≤ p → pp - m ≤ q → M1 74 (5 * p + q) = ((bB (dgt pp c) p q).toNat : Int)) (G := fun m M1 => A m11_layCode 2 0 14 [(20, ((59 : Nat) : Int)), (2, 0), (0, ((c / 3 ^ tri m : Nat) : Int)), (0, (pp : Int)), (0, w32 ((pp - m : Nat) - 1 : Int)), (2, 0), (2, 0)] [] M1 (Ki P)) pp ?_ ?_
  · rintro M1 ⟨hF1, hB⟩
    have hmat : matn pp M1 (bB (dgt pp c)) := fun a b ha hb => hB a b ha hb (by omega) (by omega)
    have h' := h M1 hF1 hmat
    have z0 : ∀ u v, u < pp → v < pp → M1 74 (5 * u + v) = 0 → bB (dgt pp c) u v = false := fun u v hu hv q => by rw [hmat u v hu hv] at q; exact tn0 q
    have z1 : ∀ u v, u < pp → v < pp → M1 74 (5 * u + v) ≠ 0 → bB (dgt pp c) u v = true := fun u v hu hv q => by rw [hmat u v hu hv] at q; exact tn1 q
    have htrb := trb_iff (n := pp) (c := c) hp
    generalize bB (dgt pp c) = B at z0 z1 hmat hB htrb
    apply r_11_layCode_14
    rw [Nat.sub_self, show w32 (((0 : Nat) : Int) - 1) = -1 by decide]
    refine ⟨fun _ => ?_, fun q => by omega⟩
    refine loop_up (Inv := fun a M2 => M2 = M1 ∧ ∀ a', a' < a → ∀ b, b < pp → ∀ d, d < pp → B a' b = true → B b d = true → B a' d = true) (G := fun a M2 => A m11_layCode 2 0 111 [(20, ((59 : Nat) : Int)), (2, 0), (2, 0), (0, (pp : Int)), (0, (a : Int)), (2, 0), (2, 0)] [] M2 (Ki P)) pp ?_ ?_ 0 M1 (by omega) ⟨rfl, fun a' ha' => by omega⟩
    · rintro M2 ⟨rfl, hall⟩
      apply r_11_layCode_111
      rw [bi_t (htrb.mpr (fun a ha b hb d hd => hall a ha b hb d hd))] at h'
      exact ⟨fun _ => h', fun q => by omega⟩
    · rintro a M2 ha ⟨rfl, hall⟩ ihA
      apply r_11_layCode_111
      refine ⟨fun q => by omega, fun _ => ?_⟩
      refine loop_up (Inv := fun b M3 => M3 = M2 ∧ ∀ b', b' < b → ∀ d, d < pp → B a b' = true → B b' d = true → B a d = true) (G := fun b M2 => A m11_layCode 2 0 120 [(20, ((59 : Nat) : Int)), (2, 0), (2, 0), (0, (pp : Int)), (0, (a : Int)), (0, (b : Int)), (2, 0)] [] M2 (Ki P)) pp ?_ ?_ 0 M2 (by omega) ⟨rfl, fun a' ha' => by omega⟩
      · rintro M3 ⟨rfl, hb⟩
        apply r_11_layCode_120
        rw [w_1 (i := a) (by omega)]
        refine ⟨fun _ => ihA M3 ⟨rfl, fun a' ha' b hb' d hd => ?_⟩, fun q => by omega⟩
        by_cases z : a' = a
        · subst z; exact hb b hb' d hd
        · exact hall a' (by omega) b hb' d hd
      · rintro b M3 hb ⟨rfl, hbs⟩ ihB
        apply r_11_layCode_120
        refine ⟨fun q => by omega, fun _ => ?_⟩
        have next : (∀ d, d < pp → B a b = true → B b d = true → B a d = true) → A m11_layCode 2 0 120 [(20, ((59 : Nat) : Int)), (2, 0), (2, 0), (0, (pp : Int)), (0, (a : Int)), (0, ((b + 1 : Nat) : Int)), (2, 0)] [] M3 (Ki P) := fun hn => ihB M3 ⟨rfl, fun b' hb' d hd => by
          by_cases z : b' = b
          · subst z; exact hn d hd
          · exact hbs b' (by omega) d hd⟩
        refine loop_up (Inv := fun d M4 => M4 = M3 ∧ ∀ d', d' < d → B a b = true → B b d' = true → B a d' = true) (G := fun d M2 => A m11_layCode 2 0 129 [(20, ((59 : Nat) : Int)), (2, 0), (2, 0), (0, (pp : Int)), (0, (a : Int)), (0, (b : Int)), (0, (d : Int))] [] M2 (Ki P)) pp ?_ ?_ 0 M3 (by omega) ⟨rfl, fun a' ha' => by omega⟩
        · rintro M4 ⟨rfl, hd⟩
          apply r_11_layCode_129
          rw [w_1 (i := b) (by omega)]
          exact ⟨fun _ => next hd, fun q => by omega⟩
        · rintro d M4 hd ⟨rfl, hds⟩ ihD
          have nd : (B a b = true → B b d = true → B a d = true) → A m11_layCode 2 0 129 [(20, ((59 : Nat) : Int)), (2, 0), (2, 0), (0, (pp : Int)), (0, (a : Int)), (0, (b : Int)), (0, ((d + 1 : Nat) : Int))] [] M4 (Ki P) := fun hn => ihD M4 ⟨rfl, fun d' hd' => by
            by_cases z : d' = d
            · subst z; exact hn
            · exact hds d' (by omega)⟩
          apply r_11_layCode_129
          rw [w_1 (i := b) (by omega), w_1 (i := d) (by omega)]
          refine ⟨fun q => by omega, fun _ => ?_⟩
          apply s_pair (by omega) (by omega)
          rw [Int.toNat_natCast]
          refine ⟨by omega, fun q1 => ?_, fun q1 => ?_⟩
          · exact next (fun d' hd' hab => by rw [z0 a b ha hb q1] at hab; cases hab)
          · apply s_pair (by omega) (by omega)
            rw [Int.toNat_natCast]
            refine ⟨by omega, fun q2 => ?_, fun q2 => ?_⟩
            · exact nd (fun _ hbd => by rw [z0 b d hb hd q2] at hbd; cases hbd)
            · apply s_pair (by omega) (by omega)
              rw [Int.toNat_natCast]
              refine ⟨by omega, fun q3 => ?_, fun q3 => ?_⟩
              · exact nd (fun _ _ => z1 a d ha hd q3)
              · rw [bi_f (fun z => by
                  have := htrb.mp z a ha b hb d hd (z1 a b ha hb q1) (z1 b d hb hd q2)
                  rw [z0 a d ha hd q3] at this; cases this)] at h'
                exact h'
  · rintro m M1 hm ⟨hF1, hB⟩ ih
    have ea : w32 ((pp - m : Nat) - 1 : Int) = ((pp - 1 - m : Nat) : Int) := by rw [w32_id (by omega) (by omega)]; omega
    have ea2 : w32 (((pp - 1 - m : Nat) : Int) + -1) = w32 ((pp - (m + 1) : Nat) - 1 : Int) := by rw [w32_id (by omega) (by omega), w32_id (by omega) (by omega)]; omega
    generalize haa : pp - 1 - m = a at ea ea2
    apply r_11_layCode_14
    rw [ea]
    refine ⟨fun q => by omega, fun _ => ?_⟩
    refine loop_up (Inv := fun j M2 => Fp n74 M M2 ∧ ∀ p q, p < pp → q < pp → ((pp - m ≤ p ∧ pp - m ≤ q) ∨ (p = a ∧ pp - j ≤ q) ∨ (q = a ∧ pp - j ≤ p)) → M2 74 (5 * p + q) = ((bB (dgt pp c) p q).toNat : Int)) (G := fun j M2 => A m11_layCode 2 0 24 [(20, ((59 : Nat) : Int)), (2, 0), (0, ((c / 3 ^ (tri m + j) : Nat) : Int)), (0, (pp : Int)), (0, (a : Int)), (0, w32 ((pp - j : Nat) - 1 : Int)), (2, 0)] [] M2 (Ki P)) m ?_ ?_ 0 M1 (by omega) ⟨hF1, fun p q h1 h2 h3 => hB p q h1 h2 (by omega) (by omega)⟩
    · rintro M2 ⟨hF2, hB2⟩
      apply r_11_layCode_24
      rw [ea, ea2]
      refine ⟨fun _ => ?_, fun q => by omega⟩
      apply s_pair (by omega) (by omega)
      rw [Int.toNat_natCast]
      refine ⟨by omega, ih _ ⟨hF2.set rfl, fun p q h1 h2 h3 h4 => ?_⟩⟩
      by_cases z : p = a ∧ q = a
      · obtain ⟨rfl, rfl⟩ := z
        rw [mset_s, bB_self]; rfl
      · rw [mset_j (by omega)]
        exact hB2 p q h1 h2 (by omega)
    · rintro j M2 hj ⟨hF2, hB2⟩ ihJ
      obtain ⟨g1, g2⟩ := pw_tri pp (by omega) m hm j hj
      have eb : w32 ((pp - j : Nat) - 1 : Int) = ((pp - 1 - j : Nat) : Int) := by rw [w32_id (by omega) (by omega)]; omega
      have eb2 : w32 (((pp - 1 - j : Nat) : Int) + -1) = w32 ((pp - (j + 1) : Nat) - 1 : Int) := by rw [w32_id (by omega) (by omega), w32_id (by omega) (by omega)]; omega
      rw [haa] at g1 g2
      generalize hbb : pp - 1 - j = b at eb eb2 g1 g2
      have hab : a < b := by omega
      have hdig : dgt pp c (pix a b) = c / 3 ^ (tri m + j) % 3 := by unfold dgt; rw [g1, g2]
      have hlt := hd3 (3 ^ (tri m + j))
      have edv : c / 3 ^ (tri m + j) / 3 = c / 3 ^ (tri m + (j + 1)) := by
        rw [Nat.div_div_eq_div_mul, ← Nat.pow_succ]; rfl
      have leaf : ∀ v1 v2 : Int, v1 = ((bB (dgt pp c) a b).toNat : Int) → v2 = ((bB (dgt pp c) b a).toNat : Int) → A m11_layCode 2 0 24 [(20, ((59 : Nat) : Int)), (2, 0), (0, ((c / 3 ^ (tri m + (j + 1)) : Nat) : Int)), (0, (pp : Int)), (0, (a : Int)), (0, w32 ((pp - (j + 1) : Nat) - 1 : Int)), (2, 0)] [] (mset (mset M2 74 (5 * a + b) v1) 74 (5 * b + a) v2) (Ki P) := by
        rintro v1 v2 rfl rfl
        refine ihJ _ ⟨(hF2.set rfl).set rfl, fun p q h1 h2 h3 => ?_⟩
        by_cases z : p = b ∧ q = a
        · obtain ⟨rfl, rfl⟩ := z
          rw [mset_s]
        · rw [mset_j (by omega)]
          by_cases z2 : p = a ∧ q = b
          · obtain ⟨rfl, rfl⟩ := z2
            rw [mset_s]
          · rw [mset_j (by omega)]
            exact hB2 p q h1 h2 (by omega)
      have v1y : c / 3 ^ (tri m + j) % 3 = 1 → bB (dgt pp c) a b = true := fun z => (bB_lt hab).mpr (hdig.trans z)
      have v1n : c / 3 ^ (tri m + j) % 3 ≠ 1 → bB (dgt pp c) a b = false := fun z => by
        cases w : bB (dgt pp c) a b with
        | false => rfl
        | true => exact absurd (hdig.symm.trans ((bB_lt hab).mp w)) z
      have v2y : c / 3 ^ (tri m + j) % 3 = 2 → bB (dgt pp c) b a = true := fun z => (bB_gt hab).mpr (hdig.trans z)
      have v2n : c / 3 ^ (tri m + j) % 3 ≠ 2 → bB (dgt pp c) b a = false := fun z => by
        cases w : bB (dgt pp c) b a with
        | false => rfl
        | true => exact absurd (hdig.symm.trans ((bB_gt hab).mp w)) z
      apply r_11_layCode_24
      rw [eb, eb2, td, tm, edv]
      have hlt2 := hd3 (3 ^ (tri m + (j + 1)))
      have w32n : ∀ u : Nat, u < 2147483648 → w32 (u : Int) = (u : Int) := fun u hu => w32_id (by omega) (by omega)
      rw [w32n _ hlt2]
      generalize c / 3 ^ (tri m + j) = r at v1y v1n v2y v2n
      rw [w32n (r % 3) (by omega)]
      refine ⟨fun q => by omega, fun _ => ?_⟩
      apply s_pair (by omega) (by omega)
      rw [Int.toNat_natCast]
      refine ⟨fun q1 => ⟨by omega, ?_⟩, fun q1 => ⟨by omega, ?_⟩⟩ <;>
      · apply s_pair (by omega) (by omega)
        rw [Int.toNat_natCast]
        refine ⟨fun q2 => ⟨by omega, leaf _ _ ?_ ?_⟩, fun q2 => ⟨by omega, leaf _ _ ?_ ?_⟩⟩ <;>
        first
        | (rw [v1n (by omega)]; rfl)
        | (rw [v1y (by omega)]; rfl)
        | (rw [v2n (by omega)]; rfl)
        | (rw [v2y (by omega)]; rfl)
