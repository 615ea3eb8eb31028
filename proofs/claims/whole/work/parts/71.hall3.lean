/-! halls of the reference; who clashes -/
theorem halls_tab : True := trivial
def rwF (n : Nat) : Nat → Nat → Nat → Nat → List Nat
  | 0, _, _, row => [row]
  | k + 1, spot, met, row => (List.range n).flatMap (fun p => if met.testBit p = true then [] else rwF n k (spot + 1) (met ||| (1 <<< p)) (row ||| (p <<< (3 * spot))))
def rwB (n k spot met row p : Nat) : List Nat := if met.testBit p = true then [] else rwF n k (spot + 1) (met ||| (1 <<< p)) (row ||| (p <<< (3 * spot)))
theorem rwF_step {n k spot met row : Nat} : rwF n (k + 1) spot met row = (List.range n).flatMap (rwB n k spot met row) := rfl
theorem rw_tab : (List.range 6).all (fun n => rwF n n 0 0 0 == PL n) = true := by decide +kernel
theorem rwF_PL {n : Nat} (hn : n < 6) : rwF n n 0 0 0 = PL n := eq_of_beq (List.all_eq_true.mp rw_tab n (List.mem_range.mpr hn))
def HO (M : Mem) (o : Option (Nat × Nat)) : Prop := match o with
  | none => M 59 44 = -1
  | some (b, l) => M 59 43 = (b : Int) ∧ M 59 44 = (l : Int)
def hst (k j : Nat) : Prop := k = 59 ∧ (j = 43 ∨ j = 44)
theorem flat_snoc {f : Nat → List Nat} {p : Nat} : (List.range (p + 1)).flatMap f = (List.range p).flatMap f ++ f p := by
  rw [List.range_succ, List.flatMap_append]
  simp
theorem s_halls {n hs : Nat} {R : Nat → Nat} (hn : n < 6) (hh : hs < 32) : ∀ (k spot met row d : Nat) (o : Option (Nat × Nat)) (M : Mem) (P : Mem → Prop), spot + k = n → 10 + k ≤ d → met < 32 → row < 8 ^ spot → (∀ r, r ∈ rwF n k spot met row → pm n r) → M 61 2 = (n : Int) → M 59 45 = (hs : Int) → (∀ j, hs.testBit j = true → M 81 j = (R j : Int) ∧ pm n (R j)) → HO M o
    → (∀ M', Fp hst M M' → HO M' ((rwF n k spot met row).foldl (lstp (fun r => hof n hs R r 5)) o) → P M') → CD m11_halls (d + 1) [(20, ((59 : Nat) : Int)), (0, (spot : Int)), (0, (met : Int)), (0, (row : Int))] M P := by
  intro k
  induction k with
  | zero =>
    intro spot met row d o M P hk hd hmet hrow hpm hM hM45 hR ho h
    have hpr : pm n row := hpm row (List.mem_singleton.mpr rfl)
    have e : spot = n := by omega
    subst e
    apply q_11_halls (by omega)
    rw [hM]
    refine ⟨fun q => absurd rfl q, fun _ => ?_⟩
    refine loop_up (Inv := fun _ M1 => M1 = M) (G := fun i M1 => A m11_halls (d + 1) 0 16 [(20, ((59 : Nat) : Int)), (2, 0), (2, 0), (0, (row : Int)), (0, (hof spot hs R row i : Int)), (0, (i : Int))] [] M1 (Kd P)) 5 ?_ ?_ 0 M (Nat.zero_le _) rfl
    · rintro M1 rfl
      have hnew : P (mset (mset M1 59 44 (hof spot hs R row 5 : Int)) 59 43 (row : Int)) ∨ ¬ lstp (fun r => hof spot hs R r 5) o row = some (row, hof spot hs R row 5) := by
        by_cases z : lstp (fun r => hof spot hs R r 5) o row = some (row, hof spot hs R row 5)
        · refine Or.inl (h _ ((Fp.rf.set ⟨rfl, Or.inr rfl⟩).set ⟨rfl, Or.inl rfl⟩) ?_)
          show HO _ (lstp (fun r => hof spot hs R r 5) o row)
          rw [z]
          exact ⟨mset_s, by rw [mset_j (by decide), mset_s]⟩
        · exact Or.inr z
      apply r_11_halls_16 (by omega)
      refine ⟨fun _ => ?_, fun q => by omega⟩
      cases o with
      | none =>
        have ho : M1 59 44 = -1 := ho
        rw [ho]
        refine ⟨fun _ => ?_, fun q => absurd rfl q⟩
        rcases hnew with z | z
        · exact z
        · exact absurd rfl z
      | some bl =>
        obtain ⟨b, l⟩ := bl
        have ho : M1 59 43 = (b : Int) ∧ M1 59 44 = (l : Int) := ho
        rw [ho.2]
        refine ⟨fun q => by omega, fun _ => ⟨fun q => ?_, fun q => ?_⟩⟩
        · rcases hnew with z | z
          · exact z
          · exact absurd (show (if hof spot hs R row 5 < l then _ else _) = _ by rw [if_pos (by omega)]) z
        · refine h M1 Fp.rf ?_
          show HO _ (if hof spot hs R row 5 < l then some (row, hof spot hs R row 5) else some (b, l))
          rw [if_neg (by omega)]
          exact ho
    · rintro i M1 hi rfl ih
      have nx := ih M1 rfl
      have hle := hof_le (n := spot) (hs := hs) (R := R) (row := row) hn i
      have hle2 := tcl_le (n := spot) (right := R i) (row := row) hn
      rw [hof_step] at nx
      apply r_11_halls_16 (by omega)
      rw [hM45, w_1 (by omega), Int.add_zero, w32_id (by omega) (by omega), Int.toNat_natCast]
      refine ⟨fun q => by omega, fun _ => ⟨fun q => ?_, fun q => ⟨by omega, ?_⟩⟩⟩
      · rw [bit_q1 (by omega) (by omega) q, if_neg (by decide), Nat.add_zero] at nx
        exact nx
      · have hb := (bit_1 (by omega) (by omega)).mp q
        obtain ⟨r1, r2⟩ := hR i hb
        rw [if_pos hb] at nx
        rw [r1]
        apply s_turned_r r2 hpr hM
        have e : w32 ((hof spot hs R row i : Int) + (tcl spot (R i) row : Int)) = ((hof spot hs R row i + tcl spot (R i) row : Nat) : Int) := by unfold w32; omega
        rw [e]
        exact nx
  | succ k ih =>
    intro spot met row d o M P hk hd hmet hrow hpm hM hM45 hR ho h
    rw [rwF_step] at hpm h
    apply q_11_halls (by omega)
    rw [hM]
    refine ⟨fun _ => ?_, fun q => by omega⟩
    refine loop_up (Inv := fun p M1 => Fp hst M M1 ∧ HO M1 (((List.range p).flatMap (rwB n k spot met row)).foldl (lstp (fun r => hof n hs R r 5)) o)) (G := fun p M1 => A m11_halls (d + 1) 0 95 [(20, ((59 : Nat) : Int)), (0, (spot : Int)), (0, (met : Int)), (0, (row : Int)), (0, (p : Int)), (2, 0)] [] M1 (Kd P)) n ?_ ?_ 0 M (Nat.zero_le _) ⟨Fp.rf, ho⟩
    · rintro M1 ⟨hF, ho1⟩
      apply r_11_halls_95 (by omega)
      rw [hF 61 2 (by unfold hst; omega), hM]
      exact ⟨fun _ => h M1 hF ho1, fun q => by omega⟩
    · rintro p M1 hp ⟨hF, ho1⟩ nx
      apply r_11_halls_95 (by omega)
      rw [hF 61 2 (by unfold hst; omega), hM, bit_ask (by omega) (by omega), w_1 (by omega)]
      refine ⟨fun q => by omega, fun _ => ⟨fun q => ?_, fun q => ?_⟩⟩
      · have hb : met.testBit p = true := by
          cases hb : met.testBit p with
          | true => rfl
          | false => rw [hb] at q; exact absurd rfl q
        refine nx M1 ⟨hF, ?_⟩
        rw [flat_snoc, show rwB n k spot met row p = [] by unfold rwB; rw [if_pos hb], List.append_nil]
        exact ho1
      · have hb : ¬ met.testBit p = true := by
          intro hb; rw [hb] at q; cases q
        have eB : rwB n k spot met row p = rwF n k (spot + 1) (met ||| (1 <<< p)) (row ||| (p <<< (3 * spot))) := by unfold rwB; rw [if_neg hb]
        have h9 := p8_lt hn
        have h10 := p8_mono (show spot ≤ n by omega)
        have h11 := p8_mono (show spot + 1 ≤ n by omega)
        have hsl := sh_lt (p := p) (j := spot) (n := spot + 1) (by omega) (by omega)
        have h12 := p8_mono (show spot ≤ spot + 1 by omega)
        have e3 : w32 (3 * (spot : Int)) = ((3 * spot : Nat) : Int) := by unfold w32; omega
        have hlt : p * 2 ^ (3 * spot) < 2147483648 := by rw [← Nat.shiftLeft_eq]; omega
        have hb5 : 1 <<< p < 32 := by
          have : ∀ p, p < 5 → 1 <<< p < 32 := by decide
          exact this p (by omega)
        rw [e3, ishl_n (by omega) hlt, ior_n (by omega) (by omega), ishl1 p (by omega), ior_n (by omega) (by omega), w_1 (by omega)]
        obtain ⟨d', rfl⟩ : ∃ d', d = d' + 1 := ⟨d - 1, by omega⟩
        refine ih (spot + 1) _ _ d' _ M1 _ (by omega) (by omega) (Nat.or_lt_two_pow (n := 5) hmet hb5) (or_lt8 (by omega) hsl) (fun r hr => hpm r (List.mem_flatMap.mpr ⟨p, List.mem_range.mpr hp, by rw [eB]; exact hr⟩)) (by rw [hF 61 2 (by unfold hst; omega)]; exact hM) (by rw [hF 59 45 (by unfold hst; omega)]; exact hM45) (fun j hj => by rw [hF 81 j (by unfold hst; omega)]; exact hR j hj) ho1 ?_
        intro M2 hF2 ho2
        refine nx M2 ⟨hF.tr hF2, ?_⟩
        rw [flat_snoc, List.foldl_append, eB]
        exact ho2
