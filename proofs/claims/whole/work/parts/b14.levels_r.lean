/-! the reference: the levels -/
theorem loop_all (hWR : WordR) {t : Nat → Int} {n : Nat} {y : MT} {l2 m2 B2 d2 : Nat} (hC : Cn t n y l2 m2 B2 d2) {op b : Nat} {W : List Int} {M0 : Mem} {z0 : Sum Zs (Nat × Nat)} {kn0 : Nat} {P G : Mem → Prop} (hl2 : l2 = b + 1) (hm2 : b < m2) (hn2 : 5 ≤ l2 → 4 ≤ b) (hb1 : 1 ≤ b) (hb3 : b ≠ 3) (hb4 : b ≠ 4)
    (hop : op ≤ 8) (hW : bnd (topW W) < b) (hd : 6 * (8 - op) + (64 - kn0) + B2 ≤ d2 + 1) (hfl : ∀ M2 Q, M2 59 23 ≠ 0 → Q M2 → CD y d2 [(20, ((59 : Nat) : Int))] M2 Q)
    (hG : ∀ M c, KR M t n c → M 59 23 = 0 → (bnd (kz t n c) = b → (∀ i v, enc i v = kz t n c → kval i v → CD m11_knot 3 [(20, ((59 : Nat) : Int))] M (fun M8 => CD m11_goOn 4 [(20, ((59 : Nat) : Int))] M8 (fun M11 => CD y d2 [(20, ((59 : Nat) : Int))] M11 (fun M14 => CD m11_puts 2 [(20, ((59 : Nat) : Int)), (0, i), (0, v)] M14 G)))) → G M) ∧ (bnd (kz t n c) ≠ b → P M → G M))
    (hGf : ∀ M, M 59 23 ≠ 0 → P M → G M)
    (hok : ∀ c' kn' out' D M', c' ≤ n → Fp exR M0 M' → TRm M' t n → KR M' t n c' → RY M' op kn' (out' ++ D) → z0 = EZ t n (Zmk c' false (D ++ W) op kn' out') → (∀ x ∈ D, b ≤ bnd x) → out'.length + D.length + nO W = kn' → kn' ≤ 64 → kn0 ≤ kn' → nc b t n c' D → P M')
    (hbad : ∀ f pl M', Fp exR M0 M' → z0 = .inr (f, pl) → f ≠ 0 → RB M' f pl → P M') :
    ∀ j c kn out D M, 64 ≤ kn + j → c ≤ n → Fp exR M0 M → TRm M t n → KR M t n c → RY M op kn (out ++ D) → z0 = EZ t n (Zmk c false (D ++ W) op kn out) → (∀ x ∈ D, b ≤ bnd x) → out.length + D.length + nO W = kn → kn ≤ 64 → kn0 ≤ kn → nc l2 t n c D → G M := by
  intro j
  induction j with
  | zero =>
    intro c kn out D M hj hc hF hT hK hR hE hD hlen hk hkk hnc
    by_cases q : bnd (kz t n c) = b
    · refine (hG M c hK hR.1).1 q (fun i v he hv => ?_)
      exact loop_body hWR hC (by omega) hm2 hn2 hT hc hK hR hk hop hW hlen (by omega) q hb1 (fun z => by have := bnd_3.mpr z; omega) hb4 hD he hv (fun c' kn' out' D' M' _ _ _ _ _ _ _ _ h64 hlt _ => by omega) (fun f pl M' hF' hE' hf hB => hGf M' (by rw [hB.1]; omega) (hbad f pl M' (hF.tr hF') (hE.trans hE') hf hB)) hfl
    · refine (hG M c hK hR.1).2 q (hok c kn out D M hc hF hT hK hR hE hD hlen hk hkk ?_)
      rcases hnc with z | z | z | ⟨z1, z2, z3⟩
      · exact Or.inl z
      · exact Or.inr (Or.inl z)
      · exact Or.inr (Or.inr (Or.inl (by omega)))
      · exact Or.inr (Or.inr (Or.inr ⟨z1, by omega, z3⟩))
  | succ j ih =>
    intro c kn out D M hj hc hF hT hK hR hE hD hlen hk hkk hnc
    by_cases q : bnd (kz t n c) = b
    · refine (hG M c hK hR.1).1 q (fun i v he hv => ?_)
      exact loop_body hWR hC (by omega) hm2 hn2 hT hc hK hR hk hop hW hlen (by omega) q hb1 (fun z => by have := bnd_3.mpr z; omega) hb4 hD he hv (fun c' kn' out' D' M' h1 h2 h3 h4 h5 h6 h7 h8 h64 hlt h9 => ih c' kn' out' D' M' (by omega) h1 (hF.tr h2) h3 h4 h5 (hE.trans h6) h7 h8 h64 (by omega) h9) (fun f pl M' hF' hE' hf hB => hGf M' (by rw [hB.1]; omega) (hbad f pl M' (hF.tr hF') (hE.trans hE') hf hB)) hfl
    · refine (hG M c hK hR.1).2 q (hok c kn out D M hc hF hT hK hR hE hD hlen hk hkk ?_)
      rcases hnc with z | z | z | ⟨z1, z2, z3⟩
      · exact Or.inl z
      · exact Or.inr (Or.inl z)
      · exact Or.inr (Or.inr (Or.inl (by omega)))
      · exact Or.inr (Or.inr (Or.inr ⟨z1, by omega, z3⟩))
theorem bnd_6 {x : Int} : bnd x = 6 ↔ x = 10021 ∨ x = 10022 := by
  unfold bnd
  split
  · omega
  · split
    · omega
    · split
      · omega
      · split
        · omega
        · split
          · omega
          · split <;> omega
theorem bnd_5 {x : Int} : bnd x = 5 ↔ x = 10019 ∨ x = 10020 := by
  unfold bnd
  split
  · omega
  · split
    · omega
    · split
      · omega
      · split
        · omega
        · split
          · omega
          · split <;> omega
theorem bnd_4 {x : Int} : bnd x = 4 ↔ 10013 ≤ x ∧ x ≤ 10018 := by
  unfold bnd
  split
  · omega
  · split
    · omega
    · split
      · omega
      · split
        · omega
        · split
          · omega
          · split <;> omega
theorem bnd_2 {x : Int} : bnd x = 2 ↔ x = 10011 := by
  unfold bnd
  split
  · omega
  · split
    · omega
    · split
      · omega
      · split
        · omega
        · split
          · omega
          · split <;> omega
theorem bnd_1 {x : Int} : bnd x = 1 ↔ x = 10010 := by
  unfold bnd
  split
  · omega
  · split
    · omega
    · split
      · omega
      · split
        · omega
        · split
          · omega
          · split <;> omega
/-- the value of a sign that is met -/
theorem sg_val {M : Mem} {t : Nat → Int} {n c : Nat} (hK : KR M t n c) (h : 10013 ≤ kz t n c ∧ kz t n c ≤ 10022) : tkS t n c = 3 ∧ M 59 22 = tkV t n c ∧ enc 2 (tkV t n c) = kz t n c ∧ kval 2 (tkV t n c) := by
  have h3 : tkS t n c = 3 := by
    by_cases s3 : tkS t n c = 3
    · exact s3
    · exfalso
      by_cases s0 : tkS t n c = 0
      · have := kz_0 s0
        have := kwd_rng (tkV t n c)
        have := tkV_0 s0
        omega
      · have := kz_e s0 s3
        omega
  refine ⟨h3, hK.2.2.2.1 (Or.inr (Or.inr h3)), ?_⟩
  rw [kz_3 h3] at h ⊢
  rcases tk3 h3 with y | y | y | y | y | y | y | y | y | y | y | y | y <;> rw [y] at h ⊢ <;> first | (exfalso; revert h; decide) | (refine ⟨by decide, Or.inr (Or.inr ⟨rfl, ?_⟩)⟩; unfold isSg; omega)
theorem Cn_product (hWR : WordR) {t : Nat → Int} {n d : Nat} (hC : Cn t n m11_primary 7 7 12 d) : Cn t n m11_product 6 6 13 (d + 1) := by
  intro c kn op W out M P hT hc hK hR hk hop hW hnot hlen hd hok hbad
  apply q_11_product (by omega)
  have e42 : ksg 42 = 10021 := by decide
  have e47 : ksg 47 = 10022 := by decide
  have e62 : enc 2 42 = 10021 := by decide
  have fin := loop_all hWR hC (op := op) (b := 6) (W := W) (M0 := M) (z0 := EZ t n (Zmk c true W op kn out)) (kn0 := kn) (P := P) (G := fun M => A m11_product (d + 1) 0 4 [(20, ((59 : Nat) : Int)), (2, 0)] [] M (Kd P)) rfl (by omega) (by omega) (by omega) (by omega) (by omega) hop hW (by omega) (fun M2 Q h0 hq => by
      obtain ⟨e, rfl⟩ : ∃ e, d = e + 1 := ⟨d - 1, by omega⟩
      exact f_primary (by omega) h0 hq) (fun M1 c1 hK1 h01 => by
      refine ⟨fun hb go => ?_, fun hb hp => ?_⟩
      · have h6 := bnd_6.mp hb
        obtain ⟨g1, g2, g3, g4⟩ := sg_val hK1 (by omega)
        apply r_11_product_4 (by omega)
        apply s_isSign h01 hK1 (by omega)
        rw [e42]
        refine ⟨fun _ => by rw [g2]; exact go 2 _ g3 g4, fun q => ?_⟩
        apply s_isSign h01 hK1 (by omega)
        rw [e47]
        have := bi_eq q
        exact ⟨fun q2 => absurd (by omega) (bi_eq q2), fun _ => by rw [g2]; exact go 2 _ g3 g4⟩
      · have h6 : ¬ (kz t n c1 = 10021 ∨ kz t n c1 = 10022) := fun z => hb (bnd_6.mpr z)
        apply r_11_product_4 (by omega)
        apply s_isSign h01 hK1 (by omega)
        rw [e42]
        refine ⟨fun q => absurd (Or.inl (bi_ne q)) h6, fun _ => ?_⟩
        apply s_isSign h01 hK1 (by omega)
        rw [e47]
        exact ⟨fun _ => hp, fun q => absurd (Or.inr (bi_ne q)) h6⟩) (fun M1 h0 hp => by
      apply r_11_product_4 (by omega)
      exact f_isSign h0 ⟨fun q => absurd rfl q, fun _ => f_isSign h0 ⟨fun _ => hp, fun q => absurd rfl q⟩⟩) (fun c' kn' out' D M' a1 a2 a3 a4 a5 a6 a7 a8 a9 a10 a11 => hok c' kn' out' D M' a1 a2 a3 a4 a5 a6 a7 a8 a9 a10 a11) hbad
  apply hC c kn op W out M _ hT hc hK hR hk hop (by omega) (fun _ => hnot (by omega)) hlen (by omega)
  · intro c' kn' out' D M' a1 a2 a3 a4 a5 a6 a7 a8 a9 a10 a11
    exact fin 64 c' kn' out' D M' (by omega) a1 a2 a3 a4 a5 a6 (fun x hx => by have := a7 x hx; omega) a8 a9 a10 a11
  · intro f pl M' hF hE hf hB
    have h0 : M' 59 23 ≠ 0 := by rw [hB.1]; omega
    apply r_11_product_4 (by omega)
    have hp := hbad f pl M' hF hE hf hB
    exact f_isSign h0 ⟨fun q => absurd rfl q, fun _ => f_isSign h0 ⟨fun _ => hp, fun q => absurd rfl q⟩⟩
