/-! feed and text on both sides -/
theorem and255 (z : Int) : 0 ≤ iand z 255 ∧ iand z 255 ≤ 255 := by
  have h : ((Int32.ofInt z).toBitVec &&& 255#32).toNat ≤ 255 := by
    rw [BitVec.toNat_and]; exact Nat.and_le_right
  have e : iand z 255 = ((Int32.ofInt z).toBitVec &&& 255#32).toInt := rfl
  rw [e, BitVec.toInt_eq_toNat_of_lt (by omega)]
  omega
theorem fedB_bd (x1 x2 x3 x4 x5 : Int) (i : Nat) : 0 ≤ fedB x1 x2 x3 x4 x5 i ∧ fedB x1 x2 x3 x4 x5 i ≤ 255 := by
  unfold fedB byt
  repeat' split
  all_goals exact and255 _
section
variable {M : Mem} {Q : Int → Int → Mem → Prop}
theorem p_feed {x1 x2 x3 x4 x5 : Int} (h : INV M) (hQ : ∀ v M', INV M' → Q v v M') : CI m10_feed 3 [(19, ((0 : Nat) : Int)), (0, x1), (0, x2), (0, x3), (0, x4), (0, x5)] M (fun v M1 => CI m11_feed 1 [(20, ((59 : Nat) : Int)), (0, x1), (0, x2), (0, x3), (0, x4), (0, x5)] M1 (fun w M2 => Q v w M2)) := by
  obtain ⟨⟨t, T, ⟨a1, a2, a3, a4⟩, b1, b2⟩, hF, hG, pp, n, nf, s, F, ag, C, Bg, E, hX⟩ := id h
  refine s_feed a1 a2 (fun hl M1 f1 c1 c2 c3 => ?_) (fun hl => s_feed_r b1 a2 (fun q => absurd q hl) (fun _ => hQ _ _ (h.q th_q)))
  have b1' : M1 59 2 = (T : Int) := by rw [f1 59 2 (by unfold tset; omega)]; exact b1
  refine s_feed_r b1' a2 (fun _ M2 f2 d1 d2 d3 => ?_) (fun q => absurd hl q)
  have f := two f1 f2
  have g := thf f2
  have e60 : M1 60 = M 60 := f1.row (fun j q => by unfold tset at q; omega)
  have e1 : M2 1 = M1 1 := g.row (fun j q => by unfold trs at q; omega)
  have e0 : M2 0 = M1 0 := g.row (fun j q => by unfold trs at q; omega)
  have key : ∀ (R : Nat → Int), (∀ j, j < T → R j = t j) → (∀ i, i < 20 → R (T + i) = fedB x1 x2 x3 x4 x5 i) → ∀ j, j < T + 20 → R j = (if j < T then t j else fedB x1 x2 x3 x4 x5 (j - T)) := fun R h1 h2 j hj => by
    by_cases q : j < T
    · rw [if_pos q]; exact h1 j q
    · rw [if_neg q]
      have := h2 (j - T) (by omega)
      rwa [show T + (j - T) = j by omega] at this
  refine hQ _ M2 ⟨⟨fun j => if j < T then t j else fedB x1 x2 x3 x4 x5 (j - T), T + 20, ⟨?_, by omega, key _ (fun j hj => ?_) (fun i hi => ?_), fun j hj => ?_⟩, d1, key _ (fun j hj => ?_) d3⟩, hF.fp f (fun k j q => ?_), hG.fp f (fun k j q => ?_), pp, n, nf, s, F, ag, C, Bg, E, hX.fp f (fun k j q => ?_)⟩
  · rw [e0]; exact c1
  · rw [e1, c2 j hj]; exact a3 j hj
  · rw [e1]; exact c3 i hi
  · show 0 ≤ (if j < T then t j else fedB x1 x2 x3 x4 x5 (j - T)) ∧ (if j < T then t j else fedB x1 x2 x3 x4 x5 (j - T)) ≤ 255
    by_cases q : j < T
    · rw [if_pos q]; exact a4 j q
    · rw [if_neg q]; exact fedB_bd _ _ _ _ _ _
  · rw [d2 j hj, e60]; exact b2 j hj
  · unfold tset trs at q; unfold vF; omega
  · unfold tset trs at q; unfold vG; omega
  · unfold tset trs at q; unfold vC vRf vH vI; omega
theorem p_text (hWR : WordR) {x1 : Int} (h : INV M) (hQ : ∀ v M', INV M' → Q v v M') : CI m10_text 7 [(19, ((0 : Nat) : Int)), (0, x1)] M (fun v M1 => CI m11_text 902 [(20, ((59 : Nat) : Int)), (0, x1)] M1 (fun w M2 => Q v w M2)) := by
  obtain ⟨⟨t, T, hTc, hTr⟩, hF, hG, pp, n, nf, s, F, ag, C, Bg, E, hX⟩ := id h
  have hb : bys t T := hTc.2.2.2
  have h7 : T ≤ 700 := hTc.2.1
  refine s_text hTc hG.1 (fun hx => s_text_r hWR hTr h7 hb (fun _ => hQ _ _ (h.q th_q)) (fun n e hn => absurd ⟨by omega, by omega⟩ hx) (fun n e hn => absurd ⟨by omega, by omega⟩ hx)) ?_ ?_
  · intro m e hm f pl hx hf M1 f1 c1 c2 c3
    have tr1 : TPr M1 t T := ⟨by rw [f1 59 2 (by unfold txC; omega)]; exact hTr.1, fun j hj => by rw [f1 60 j (by unfold txC; omega)]; exact hTr.2 j hj⟩
    refine s_text_r hWR tr1 h7 hb (fun q => absurd (show 0 ≤ x1 ∧ x1 ≤ (T : Int) by omega) q) ?_ ?_
    · intro m' e' hm' f' pl' hx' hf' M2 f2 d1 d2 d3
      have em : m' = m := by omega
      subst em
      have e2 := hx.symm.trans hx'
      have e3 : (f, pl) = (f', pl') := Sum.inr.inj e2
      have ef : f = f' := congrArg Prod.fst e3
      have ep : pl = pl' := congrArg Prod.snd e3
      have ff := two f1 f2
      have g := thf f2
      have e0 : M2 0 = M1 0 := g.row (fun j q => by unfold txR lnR at q; omega)
      have e2' : M2 2 = M1 2 := g.row (fun j q => by unfold txR lnR at q; omega)
      refine hQ _ M2 ⟨⟨t, 0, ⟨by rw [e0]; exact c1, Nat.zero_le _, fun j hj => absurd hj (Nat.not_lt_zero j), fun j hj => absurd hj (Nat.not_lt_zero j)⟩, d1, fun j hj => absurd hj (Nat.not_lt_zero j)⟩, ⟨?_, ?_⟩, hG.fp ff (fun k j q => ?_), pp, n, nf, s, F, ag, C, Bg, E, hX.fp ff (fun k j q => ?_)⟩
      · rw [e2', c2, d2, ef]
      · rw [e2', c3, d3, ep]
      · unfold txC txR lnR at q; unfold vG; omega
      · unfold txC txR lnR at q; unfold vC vRf vH vI; omega
    · intro m' e' hm' L hx'
      have em : m' = m := by omega
      subst em
      rw [hx] at hx'; cases hx'
  · intro m e hm L hx hW M1 f1 c1 c2 c3 hs
    have tr1 : TPr M1 t T := ⟨by rw [f1 59 2 (by unfold txC tlC; omega)]; exact hTr.1, fun j hj => by rw [f1 60 j (by unfold txC tlC; omega)]; exact hTr.2 j hj⟩
    refine s_text_r hWR tr1 h7 hb (fun q => absurd (show 0 ≤ x1 ∧ x1 ≤ (T : Int) by omega) q) ?_ ?_
    · intro m' e' hm' f' pl' hx'
      have em : m' = m := by omega
      subst em
      rw [hx] at hx'; cases hx'
    · intro m' e' hm' L' hx' _ M2 f2 d1 d2 d3 hr
      have em : m' = m := by omega
      subst em
      have eL : L = L' := Sum.inl.inj (hx.symm.trans hx')
      subst eL
      have ff := two f1 f2
      have g := thf f2
      have hg : ∀ k j, ((txR k j ∨ tlR k j) ∨ (k = 59 ∧ j = 0)) → 59 ≤ k ∧ k ≤ 75 := fun k j q => by
        unfold txR lnR tlR at q; omega
      have el : ∀ k, k < 59 → M2 k = M1 k := fun k hk => g.row (fun j q => by have := hg k j q; omega)
      have hC := hs.2.2.2.2.2.2.2.1
      have hGo := h.2.2.1
      obtain ⟨_, _, _, _, k5, ns, qs', _, _, _, _, m1, m2, m3, m4⟩ := id hs
      obtain ⟨_, _, _, k6, ns', qs'', _, _, _, _, _, m5, m6, m7⟩ := id hr
      obtain ⟨_, _, _, _, _, _, ⟨nh, kb, H, _, _, _, ho⟩, _⟩ := hX
      have hsc := (SC_told hs hW).fv g (fun k j q => by have := hg k j q; unfold vC; omega)
      have w1 := hW.1
      have w3 := hW.2.2.1
      refine hQ _ M2 ⟨⟨t, 0, ⟨by rw [el 0 (by decide)]; exact c1, Nat.zero_le _, fun j hj => absurd hj (Nat.not_lt_zero j), fun j hj => absurd hj (Nat.not_lt_zero j)⟩, d1, fun j hj => absurd hj (Nat.not_lt_zero j)⟩, ⟨?_, ?_⟩, hGo.fp ff (fun k j q => ?_), L.1 1, L.1 3, L.1 2, (L.1 5 : Int), L.2.2.1, L.2.1 1, M1 26, bgL L, enL L, hsc, SR_told hr hW hC, SF_told hW, ⟨fun j hj => ?_, fun j hj => ?_⟩, ⟨L.1 7, ?_, k6⟩, ⟨decide (L.1 6 = 1), ?_, RTR_told hr hW hC⟩, ⟨0, -1, fun _ _ => 0, ⟨?_, ?_, fun i hi => absurd hi (Nat.not_lt_zero i)⟩, ⟨m5, m6, fun i hi => absurd hi (Nat.not_lt_zero i)⟩, ⟨Nat.zero_le _, by decide, fun i hi => absurd hi (Nat.not_lt_zero i)⟩, ⟨fun q hq => ?_, fun q => absurd ?_ q⟩⟩, ⟨0, 0, 0, fun _ _ => 0, ⟨?_, fun q => absurd rfl q⟩, ⟨m7, fun q => absurd rfl q⟩, fun q => absurd rfl q⟩⟩
      · rw [el 2 (by decide), c2, d2]
      · rw [el 2 (by decide), c3, d3]
      · unfold txC tlC txR lnR tlR at q; unfold vG; omega
      · rw [el 22 (by decide), (ns j hj).1, (ns' j hj).1]
      · rw [el 24 (by decide), qs' j hj, qs'' j hj]
      · rw [el 25 (by decide)]; exact k5
      · have := RTC_told hs hW
        unfold RTC at this ⊢
        rw [el 21 (by decide), el 27 (by decide), el 28 (by decide)]
        exact this
      · rw [el 43 (by decide)]; exact m1
      · rw [el 43 (by decide)]; exact m2
      · have e49 : ∀ j, j ≠ 4 → M1 49 j = M 49 j := fun j hj => f1 49 j (by unfold txC tlC; omega)
        have e50 : M1 50 = M 50 := f1.row (fun j q => by unfold txC tlC at q; omega)
        rw [el 49 (by decide), e49 2 (by decide)] at hq
        have := ho.1 q hq
        unfold OM at this ⊢
        rw [el 49 (by decide), el 50 (by decide), e49 0 (by decide), e50]
        exact this
      · rw [el 49 (by decide)]; exact m3
      · rw [el 0 (by decide)]; exact m4
end
