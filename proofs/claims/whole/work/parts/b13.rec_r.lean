/-! the reference: an E goes down by levels, and follows what the signs that wait do -/
/-- the TOKEN behind an operand doesn't go on at this level -/
def nc (l : Nat) (t : Nat → Int) (n c : Nat) (D : List Int) : Prop := bnd (kz t n c) = 0 ∨ bnd (kz t n c) = 3 ∨ bnd (kz t n c) < l ∨ (bnd (kz t n c) = 4 ∧ l ≤ 4 ∧ bnd (topW (wrst 5 D)) = 4)
/-- a method that reads what binds so close: l the least it leaves waiting, m above which it works -/
def Cn (t : Nat → Int) (n : Nat) (y : MT) (l m B d : Nat) : Prop := ∀ (c kn op : Nat) (W out : List Int) (M : Mem) (P : Mem → Prop),
  TRm M t n → c ≤ n → KR M t n c → RY M op kn out → kn ≤ 64 → op ≤ 8 → bnd (topW W) < m → (5 ≤ l → kz t n c = 10012 → 4 ≤ bnd (topW W)) → out.length + nO W = kn → 6 * (8 - op) + (64 - kn) + B ≤ d →
  (∀ c' kn' out' D M', c' ≤ n → Fp exR M M' → TRm M' t n → KR M' t n c' → RY M' op kn' (out' ++ D) → EZ t n (Zmk c true W op kn out) = EZ t n (Zmk c' false (D ++ W) op kn' out') → (∀ x ∈ D, l ≤ bnd x) → out'.length + D.length + nO W = kn' → kn' ≤ 64 → kn ≤ kn' → nc l t n c' D → P M') →
  (∀ f pl M', Fp exR M M' → EZ t n (Zmk c true W op kn out) = .inr (f, pl) → f ≠ 0 → RB M' f pl → P M') → CD y d [(20, ((59 : Nat) : Int))] M P
theorem D_nO {D : List Int} (h : ∀ x ∈ D, 1 ≤ bnd x) : nO D = D.length := by
  induction D with
  | nil => rfl
  | cons x D ih =>
    have hx := bnd_op (h x List.mem_cons_self)
    show nO D + (if x = 10030 then 0 else 1) = D.length + 1
    rw [if_neg (by omega), ih (fun y hy => h y (List.mem_cons_of_mem _ hy))]
theorem nO_app : ∀ D W : List Int, nO (D ++ W) = nO D + nO W
  | [], W => by show nO W = 0 + nO W; omega
  | x :: D, W => by
    show nO (D ++ W) + (if x = 10030 then 0 else 1) = nO D + (if x = 10030 then 0 else 1) + nO W
    have := nO_app D W; omega
theorem pop_top {b : Nat} {W : List Int} (h : bnd (topW W) < b) : popd b W = [] ∧ wrst b W = W := by
  cases W with
  | nil => exact ⟨rfl, rfl⟩
  | cons x W => exact popd_n (by have h : bnd x < b := h; omega)
/-- a sign with two sides, met behind an operand: it waits, or there are too many knots -/
theorem op_step {t : Nat → Int} {n c kn op b : Nat} {W out D : List Int} (hb : bys t n) (hc : c ≤ n) (hk : bnd (kz t n c) = b) (hb1 : 1 ≤ b) (hb3 : kz t n c ≠ 10012) (hb4 : b ≠ 4) (hD : ∀ x ∈ D, b ≤ bnd x) (hW : bnd (topW W) < b) :
    (kn < 64 → EZ t n (Zmk c false (D ++ W) op kn out) = EZ t n (Zmk (tkE t n c) true (kz t n c :: W) op (kn + 1) (out ++ D))) ∧ (64 ≤ kn → EZ t n (Zmk c false (D ++ W) op kn out) = .inr (2, tkP t n c)) := by
  obtain ⟨p1, p2⟩ := popd_all D W hD
  obtain ⟨q1, q2⟩ := pop_top hW
  rw [q1, List.append_nil] at p1
  rw [q2] at p2
  have hrng := bnd_op (show 1 ≤ bnd (kz t n c) by omega)
  have hs : stepZ t n (Zmk c false (D ++ W) op kn out) = waitZ (tkE t n c) W op kn (out ++ D) (kz t n c) := by
    show stepS t n c (D ++ W) op kn out = _
    unfold stepS
    rw [if_neg (by omega), if_neg (by omega), if_neg (by omega), hk, p1, p2]
  unfold waitZ at hs
  constructor
  · intro hlt
    rw [if_neg (by omega)] at hs
    exact EZ_go hb hc hs
  · intro hge
    rw [if_pos hge] at hs
    exact EZ_bad hc hs
theorem op_end {t : Nat → Int} {n c : Nat} (hb : bys t n) (hc : c ≤ n) (h : kz t n c ≠ -1) : tkE t n c ≤ n ∧ tkP t n c < n := by
  refine ⟨(tkE_p hb hc).2.1, ?_⟩
  rcases Nat.lt_or_ge (tkP t n c) n with y | y
  · exact y
  · exact absurd (kz_rng t n c (if_pos y)) h
theorem wr5_app {D : List Int} {k : Int} {W : List Int} (h : bnd (topW (wrst 5 D)) = 4) : bnd (topW (wrst 5 (D ++ k :: W))) = 4 := by
  induction D with
  | nil => exact absurd h (by show ¬ bnd 0 = 4; decide)
  | cons x D ih =>
    by_cases q : 5 ≤ bnd x
    · rw [(popd_y q).2] at h
      show bnd (topW (wrst 5 (x :: (D ++ k :: W)))) = 4
      rw [(popd_y q).2]
      exact ih h
    · rw [(popd_n q).2] at h
      show bnd (topW (wrst 5 (x :: (D ++ k :: W)))) = 4
      rw [(popd_n q).2]
      exact h
/-- what follows the sign of a loop: knot, on, the next operand, the sign is laid -/
theorem loop_body (hWR : WordR) {t : Nat → Int} {n : Nat} {y : MT} {l2 m2 B2 d2 : Nat} (hC : Cn t n y l2 m2 B2 d2) {c kn op b : Nat} {W out D : List Int} {M : Mem} {P : Mem → Prop} {i v : Int} (hl2 : b < l2) (hm2 : b < m2) (hn2 : 5 ≤ l2 → 4 ≤ b)
    (hT : TRm M t n) (hc : c ≤ n) (hK : KR M t n c) (hR : RY M op kn (out ++ D)) (hk : kn ≤ 64) (hop : op ≤ 8) (hW : bnd (topW W) < b) (hlen : out.length + D.length + nO W = kn) (hd : 6 * (8 - op) + (64 - kn) + B2 ≤ d2 + 1)
    (hkb : bnd (kz t n c) = b) (hb1 : 1 ≤ b) (hb3 : kz t n c ≠ 10012) (hb4 : b ≠ 4) (hD : ∀ x ∈ D, b ≤ bnd x) (he : enc i v = kz t n c) (hv : kval i v)
    (hok : ∀ c' kn' out' D' M', c' ≤ n → Fp exR M M' → TRm M' t n → KR M' t n c' → RY M' op kn' (out' ++ D') → EZ t n (Zmk c false (D ++ W) op kn out) = EZ t n (Zmk c' false (D' ++ W) op kn' out') → (∀ x ∈ D', b ≤ bnd x) → out'.length + D'.length + nO W = kn' → kn' ≤ 64 → kn < kn' → (nc l2 t n c' D') → P M')
    (hbad : ∀ f pl M', Fp exR M M' → EZ t n (Zmk c false (D ++ W) op kn out) = .inr (f, pl) → f ≠ 0 → RB M' f pl → P M') (hfl : ∀ M2 Q, M2 59 23 ≠ 0 → Q M2 → CD y d2 [(20, ((59 : Nat) : Int))] M2 Q) :
    CD m11_knot 3 [(20, ((59 : Nat) : Int))] M (fun M8 => CD m11_goOn 4 [(20, ((59 : Nat) : Int))] M8 (fun M11 => CD y d2 [(20, ((59 : Nat) : Int))] M11 (fun M14 => CD m11_puts 2 [(20, ((59 : Nat) : Int)), (0, i), (0, v)] M14 P))) := by
  have hb := hT.2.2.2
  obtain ⟨st1, st2⟩ := op_step (kn := kn) (op := op) (out := out) hb hc hkb hb1 hb3 hb4 hD hW
  have hne : kz t n c ≠ -1 := by have := bnd_op (show 1 ≤ bnd (kz t n c) by omega); omega
  obtain ⟨he1, he2⟩ := op_end hb hc hne
  have hkop := bnd_op (show 1 ≤ bnd (kz t n c) by omega)
  have hno : nO (kz t n c :: W) = nO W + 1 := by show nO W + (if kz t n c = 10030 then 0 else 1) = _; rw [if_neg (by omega)]
  apply s_knotR hR hK hk
  · intro hlt M1 hF1 hK1 hR1
    apply s_goOnR hWR (exR_T hT hF1) hR1 hK1 rfl he1
    intro M2 hF2 hK2 hR2
    have hF12 := hF1.tr hF2
    apply hC (tkE t n c) (kn + 1) op (kz t n c :: W) (out ++ D) M2 _ (exR_T hT hF12) he1 hK2 hR2 (by omega) hop (by show bnd (kz t n c) < m2; omega) (fun h5 _ => by show 4 ≤ bnd (kz t n c); have := hn2 h5; omega) (by rw [List.length_append, hno]; omega) (by omega)
    · intro c' kn' out' D' M3 hc' hF3 hT3 hK3 hR3 hE3 hD3 hlen3 hkn3 hkk3 hnc3
      rw [hno] at hlen3
      apply s_putsR hR3 hK3 (by rw [List.length_append]; omega) he hv
      intro M4 hF4 hK4 hR4
      refine hok c' kn' out' (D' ++ [kz t n c]) M4 hc' (hF12.tr (hF3.tr hF4)) (exR_T hT3 hF4) hK4 (by rw [← List.append_assoc]; exact hR4) ?_ ?_ ?_ hkn3 (by omega) ?_
      · rw [st1 hlt, hE3, List.append_assoc]; rfl
      · intro x hx
        rcases List.mem_append.mp hx with z | z
        · have := hD3 x z; omega
        · rw [List.mem_singleton.mp z]; omega
      · rw [List.length_append]; show out'.length + (D'.length + 1) + nO W = kn'; omega
      · rcases hnc3 with z | z | z | ⟨z1, z2, z3⟩
        · exact Or.inl z
        · exact Or.inr (Or.inl z)
        · exact Or.inr (Or.inr (Or.inl z))
        · exact Or.inr (Or.inr (Or.inr ⟨z1, z2, wr5_app z3⟩))
    · intro f pl M3 hF3 hE3 hf hB3
      have h0 : M3 59 23 ≠ 0 := by rw [hB3.1]; omega
      exact f_puts h0 (hbad f pl M3 (hF12.tr hF3) ((st1 hlt).trans hE3) hf hB3)
  · intro hge M1 hF1 hB1
    have h0 : M1 59 23 ≠ 0 := by rw [hB1.1]; decide
    exact f_goOn h0 (hfl M1 _ h0 (f_puts h0 (hbad 2 _ M1 hF1 (st2 hge) (by decide) hB1)))
