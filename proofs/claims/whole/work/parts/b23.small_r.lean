/-! the reference: small steps of a line -/
/-- no FAULT yet, and the TOKEN behind c is read -/
def K0 (M : Mem) (t : Nat → Int) (n c : Nat) : Prop := TRm M t n ∧ KR M t n c ∧ M 59 23 = 0 ∧ c ≤ n
def wrset (k j : Nat) : Prop := k = 59 ∧ (j = 23 ∨ j = 24)
theorem s_wrongW {f : Nat} {t : Nat → Int} {n c : Nat} {M : Mem} {P : Mem → Prop} (hK : K0 M t n c) (h : ∀ M', Fp wrset M M' → RB M' f (tkP t n c) → P M') : CD m11_wrong 2 [(20, ((59 : Nat) : Int)), (0, (f : Int))] M P := by
  have f0 : Fp wrset M M := Fp.rf
  apply q_11_wrong
  apply q_11_wrongAt
  rw [hK.2.1.2.1]
  refine ⟨fun _ => h _ ((f0.set ⟨rfl, Or.inl rfl⟩).set ⟨rfl, Or.inr rfl⟩) ⟨?_, mset_s⟩, fun q => absurd hK.2.2.1 q⟩
  rw [mset_j (by decide), mset_s]
theorem s_wrongAtW {f : Nat} {pl : Nat} {M : Mem} {P : Mem → Prop} (h0 : M 59 23 = 0) (h : ∀ M', Fp wrset M M' → RB M' f pl → P M') : CD m11_wrongAt 1 [(20, ((59 : Nat) : Int)), (0, (f : Int)), (0, (pl : Int))] M P := by
  have f0 : Fp wrset M M := Fp.rf
  apply q_11_wrongAt
  refine ⟨fun _ => h _ ((f0.set ⟨rfl, Or.inl rfl⟩).set ⟨rfl, Or.inr rfl⟩) ⟨?_, mset_s⟩, fun q => absurd h0 q⟩
  rw [mset_j (by decide), mset_s]
theorem f_wrong {x : Int} {M : Mem} {P : Mem → Prop} (h : M 59 23 ≠ 0) (hp : P M) : CD m11_wrong 2 [(20, ((59 : Nat) : Int)), (0, x)] M P := by
  apply q_11_wrong
  apply q_11_wrongAt
  exact ⟨fun q => absurd q h, fun _ => hp⟩
theorem f_wrongAt {x y : Int} {M : Mem} {P : Mem → Prop} (h : M 59 23 ≠ 0) (hp : P M) : CD m11_wrongAt 1 [(20, ((59 : Nat) : Int)), (0, x), (0, y)] M P := by
  apply q_11_wrongAt
  exact ⟨fun q => absurd q h, fun _ => hp⟩
theorem s_tokenW (hWR : WordR) {t : Nat → Int} {n c : Nat} {M : Mem} {P : Mem → Prop} (hK : K0 M t n c) (h : ∀ M', Fp tkset M M' → K0 M' t n (tkE t n c) → P M') : CD m11_token 3 [(20, ((59 : Nat) : Int))] M P := by
  obtain ⟨hT, hk, h0, hc⟩ := hK
  have he := (tkE_p hT.2.2.2 hc).2.1
  apply s_token hWR hT he hk.1 hk.p
  intro M1 hF1 hK1
  exact h M1 hF1 ⟨hT.fp hF1 (fun k j q => by unfold tkset at q; omega), hK1, by rw [hF1 59 23 (by unfold tkset; omega)]; exact h0, he⟩
theorem s_goOnW (hWR : WordR) {t : Nat → Int} {n c : Nat} {M : Mem} {P : Mem → Prop} (hK : K0 M t n c) (h : ∀ M', Fp tkset M M' → K0 M' t n (tkE t n c) → P M') : CD m11_goOn 4 [(20, ((59 : Nat) : Int))] M P := by
  apply q_11_goOn
  exact ⟨fun q => absurd hK.2.2.1 q, fun _ => s_tokenW hWR hK h⟩
theorem RB.ne {M : Mem} {f pl : Nat} (h : RB M f pl) (hf : f ≠ 0) : M 59 23 ≠ 0 := by rw [h.1]; omega
theorem tkV_2 {t : Nat → Int} {n c : Nat} (s2 : tkS t n c = 2) : 0 ≤ tkV t n c := by
  unfold tkS at s2
  unfold tkV
  split at s2
  · omega
  · next y1 =>
    rw [if_neg y1]
    split at s2
    · split at s2
      · split at s2 <;> omega
      · omega
    · next y2 =>
      rw [if_neg y2]
      split at s2
      · next y3 => rw [if_pos y3]; omega
      · split at s2 <;> omega
theorem s_numeral (hWR : WordR) {t : Nat → Int} {n c : Nat} {most : Int} {M : Mem} {P : Int → Mem → Prop} (hK : K0 M t n c) (hm : 0 ≤ most ∧ most ≤ 9999)
    (hy : numF t n c most = 0 → (0 ≤ tkV t n c ∧ tkV t n c ≤ most) → ∀ M', Fp tkset M M' → K0 M' t n (tkE t n c) → P (tkV t n c) M') (hn : numF t n c most ≠ 0 → ∀ M', Fp wrset M M' → RB M' (numF t n c most) (tkP t n c) → P 0 M') : CI m11_numeral 4 [(20, ((59 : Nat) : Int)), (0, 0), (0, most)] M P := by
  have hk := hK.2.1
  unfold numF at hy hn
  apply q_11_numeral
  refine ⟨fun _ => ⟨fun q => ?_, fun q => ?_⟩, fun q => absurd hK.2.2.1 q⟩
  · have s2 : tkS t n c = 2 := by have := hk.2.2.1; omega
    obtain ⟨n1, n2, n3, n4, n5⟩ := hk.2.2.2.2.1 s2
    have hv0 := tkV_2 s2
    rw [if_neg (fun z => z s2)] at hy hn
    refine ⟨fun q1 => absurd q1 (by omega), fun _ => ⟨fun q1 => ⟨fun _ => ?_, fun z => absurd hK.2.2.1 z⟩, fun q1 => ?_⟩⟩
    · have ev : M 59 22 = tkV t n c := by have := n4 (by omega); omega
      rw [if_neg (by omega)] at hy
      rw [ev]
      exact s_tokenW hWR hK (fun M' hF hK' => hy rfl (by omega) M' hF hK')
    · have hgt : most < tkV t n c := by
        rcases Int.lt_or_le 9999 (M 59 22) with y | y
        · have := n5 y; omega
        · have := n4 y; omega
      rw [if_pos hgt] at hn
      refine s_wrongW (f := 2) hK (fun M' hF hB => ⟨fun z => absurd z (hB.ne (by decide)), fun _ => hn (by decide) M' hF hB⟩)
  · have s2 : tkS t n c ≠ 2 := fun z => q (by rw [hk.2.2.1, z]; rfl)
    rw [if_pos s2] at hn
    exact s_wrongW (f := 1) hK (fun M' hF hB => ⟨fun z => absurd z (hB.ne (by decide)), fun _ => hn (by decide) M' hF hB⟩)
theorem f_numeral {x y : Int} {M : Mem} {P : Int → Mem → Prop} (h : M 59 23 ≠ 0) (hp : P x M) : CI m11_numeral 4 [(20, ((59 : Nat) : Int)), (0, x), (0, y)] M P := by
  apply q_11_numeral
  exact ⟨fun q => absurd q h, fun _ => hp⟩
theorem KR_1 {M : Mem} {t : Nat → Int} {n c : Nat} (h : KR M t n c) : (M 59 21 = 1 ↔ tkS t n c = 1) ∧ (tkS t n c = 1 → M 59 22 = tkV t n c) := ⟨⟨fun q => by have := h.2.2.1; omega, fun q => by rw [h.2.2.1, q]; rfl⟩, fun q => h.2.2.2.1 (Or.inr (Or.inl q))⟩
theorem s_fresh (hWR : WordR) {t : Nat → Int} {n c r m : Nat} {N : Nat → Int} {M : Mem} {P : Int → Mem → Prop} (hK : K0 M t n c) (hr : r = 62 ∨ r = 64) (hm : m ≤ 5) (hN : ∀ i, i < m → M r (5 + i) = N i)
    (hy : tkS t n c = 1 → fndN N (tkV t n c) m 0 = -1 → ∀ M', Fp tkset M M' → K0 M' t n (tkE t n c) → P (tkV t n c) M') (h1 : tkS t n c ≠ 1 → ∀ M', Fp wrset M M' → RB M' 1 (tkP t n c) → P 0 M') (h3 : tkS t n c = 1 → fndN N (tkV t n c) m 0 ≠ -1 → ∀ M', Fp wrset M M' → RB M' 3 (tkP t n c) → P 0 M') : CI m11_fresh 4 [(20, ((59 : Nat) : Int)), (30, (r : Int)), (0, 5), (0, (m : Int))] M P := by
  have ar : aln r = 10 := by rcases hr with rfl | rfl <;> decide
  obtain ⟨k1, k2⟩ := KR_1 hK.2.1
  apply q_11_fresh
  refine ⟨fun _ => ⟨fun q => ?_, fun q => ?_⟩, fun q => absurd hK.2.2.1 q⟩
  · have s1 := k1.mp q
    rw [k2 s1]
    apply s_found (r := r) (b := 5) (m := m) (by omega) (by omega)
    rw [fndN_congr (N' := N) _ _ (fun j hj => hN j (by omega))]
    refine ⟨fun q1 => ⟨fun _ => ?_, fun z => absurd hK.2.2.1 z⟩, fun q1 => ?_⟩
    · rw [k2 s1]
      exact s_tokenW hWR hK (fun M' hF hK' => hy s1 q1 M' hF hK')
    · exact s_wrongW (f := 3) hK (fun M' hF hB => ⟨fun z => absurd z (hB.ne (by decide)), fun _ => h3 s1 q1 M' hF hB⟩)
  · exact s_wrongW (f := 1) hK (fun M' hF hB => ⟨fun z => absurd z (hB.ne (by decide)), fun _ => h1 (fun z => q (k1.mpr z)) M' hF hB⟩)
theorem s_fresherW {w : Nat} {v : Int} {M : Mem} {P : Int → Mem → Prop} (hw : w < 5) (hv : M 61 (5 + w) = v) (h : P v M) : CI m11_fresher 1 [(20, ((59 : Nat) : Int)), (0, (w : Int))] M P := by
  have e : w32 (5 + (w : Int)) = ((5 + w : Nat) : Int) := by rw [w32_id (by omega) (by omega)]; omega
  apply q_11_fresher
  rw [e, Int.toNat_natCast, hv]
  exact ⟨by omega, h⟩
theorem s_oneMoreW {w v : Nat} {M : Mem} {P : Mem → Prop} (hw : w < 5) (hv : M 61 (5 + w) = (v : Int)) (hv2 : v < 2000) (h : P (mset M 61 (5 + w) ((v + 1 : Nat) : Int))) : CD m11_oneMore 1 [(20, ((59 : Nat) : Int)), (0, (w : Int))] M P := by
  have e : w32 (5 + (w : Int)) = ((5 + w : Nat) : Int) := by rw [w32_id (by omega) (by omega)]; omega
  apply q_11_oneMore
  rw [e, Int.toNat_natCast, hv, w_1 (i := v) (by omega)]
  exact ⟨by omega, by omega, h⟩
theorem s_personR {t : Nat → Int} {n c : Nat} {L : LnS} {M : Mem} {P : Int → Mem → Prop} (hK : K0 M t n c) (h5 : L.1 1 ≤ 5) (h61 : M 61 5 = (L.1 1 : Int)) (hN : ∀ i, i < L.1 1 → M 62 (5 + i) = L.2.1 0 i)
    (hy : pnF t n L c = 0 → P (pnV t n L c) M) (hn : pnF t n L c ≠ 0 → ∀ M', Fp wrset M M' → RB M' (pnF t n L c) (tkP t n c) → P 0 M') : CI m11_person 3 [(20, ((59 : Nat) : Int))] M P := by
  have ar : aln 62 = 10 := by decide
  obtain ⟨k1, k2⟩ := KR_1 hK.2.1
  have look : ∀ Q : Int → Mem → Prop, Q (fndN (L.2.1 0) (tkV t n c) (L.1 1) 0) M → CI m11_found 1 [(30, ((62 : Nat) : Int)), (0, 5), (0, (L.1 1 : Int)), (0, tkV t n c)] M Q := fun Q hq => by
    apply s_found (r := 62) (b := 5) (m := L.1 1) (by omega) (by omega)
    rw [fndN_congr (N' := L.2.1 0) _ _ (fun j hj => hN j (by omega))]
    exact hq
  apply q_11_person
  refine ⟨fun _ => ⟨fun q => ?_, fun q => ?_⟩, fun q => absurd hK.2.2.1 q⟩
  · have s1 := k1.mp q
    apply s_fresherW (w := 0) (by omega) h61
    rw [k2 s1]
    apply look
    refine ⟨fun q1 => ⟨fun _ => ?_, fun z => absurd hK.2.2.1 z⟩, fun q1 => ?_⟩
    · apply s_fresherW (w := 0) (by omega) h61
      rw [k2 s1]
      apply look
      exact hy (by unfold pnF; rw [if_neg (fun z => z s1), if_neg q1])
    · have e : pnF t n L c = 4 := by unfold pnF; rw [if_neg (fun z => z s1), if_pos q1]
      rw [e] at hn
      exact s_wrongW (f := 4) hK (fun M' hF hB => ⟨fun z => absurd z (hB.ne (by decide)), fun _ => hn (by decide) M' hF hB⟩)
  · have e : pnF t n L c = 1 := by unfold pnF; rw [if_pos (fun z => q (k1.mpr z))]
    rw [e] at hn
    exact s_wrongW (f := 1) hK (fun M' hF hB => ⟨fun z => absurd z (hB.ne (by decide)), fun _ => hn (by decide) M' hF hB⟩)
theorem f_person {M : Mem} {P : Int → Mem → Prop} (h : M 59 23 ≠ 0) (hp : P 0 M) : CI m11_person 3 [(20, ((59 : Nat) : Int))] M P := by
  apply q_11_person
  exact ⟨fun q => absurd q h, fun _ => hp⟩
