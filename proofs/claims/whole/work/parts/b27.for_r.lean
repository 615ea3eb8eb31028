/-! the reference: an E in a line -/
/-- an E in a line: where it begins is told, then it is read, then where it ends is told -/
theorem s_forR (hWR : WordR) {t : Nat → Int} {n c f : Nat} {L : LnS} {M0 M : Mem} {P G : Mem → Prop} (hf : f < 6) (hF0 : Fp lnR M0 M) (hK : K0 M t n c) (hD : LRx (mset M 61 7 (L.1 3 : Int)) L f) (hT : TD M (L.1 4) (L.1 6)) (hz : L.1 1 ≤ 5 ∧ L.1 2 ≤ 24 ∧ L.1 3 ≤ 5 ∧ L.1 7 ≤ 64 ∧ L.1 8 < 2000 ∧ L.2.2.2.length = L.1 7) (h65 : M 65 (6 + f) = (L.2.2.2.length : Int)) (hr6 : f = 5 → L.1 6 ≠ 0)
    (hG : ∀ M' ro : Mem, Fp exR M M' → M' = ro → (∀ v : Int, M' 61 9 = v → A m11_line 901 0 353 [(20, ((59 : Nat) : Int)), (2, 0), (2, 0), (2, 0)] [] (mset (mset M' 66 (6 + f) v) 61 7 (L.1 3 : Int)) (Kd P)) → G M')
    (hok : ∀ L', forF t n L f c = .inl L' → ∀ M', Fp lnR M0 M' → K0 M' t n (L'.1 0) → LRd M' L' → P M') (hbad : ∀ f' pl, forF t n L f c = .inr (f', pl) → f' ≠ 0 → ∀ M', Fp lnR M0 M' → RB M' f' pl → P M') : CD m11_expression 900 [(20, ((59 : Nat) : Int))] M G := by
  obtain ⟨z1, z2, z3, z7, z8, zl⟩ := hz
  have hDm : LRx (mset M 61 7 (L.1 3 : Int)) L f := hD
  obtain ⟨⟨u1, u2, u3, u4, u5⟩, d17, d61, d62, d63, d64, dn, dq, df, dr, dF⟩ := hDm
  have em : ∀ k j, ¬ (k = 61 ∧ j = 7) → mset M 61 7 (L.1 3 : Int) k j = M k j := fun k j hn => by
    have f0 : Fp (fun k j => k = 61 ∧ j = 7) M (mset M 61 7 (L.1 3 : Int)) := Fp.rf.set ⟨rfl, rfl⟩
    exact f0 k j hn
  have emr : ∀ k, k ≠ 61 → mset M 61 7 (L.1 3 : Int) k = M k := fun k hk => funext fun j => mset_k hk
  have dR : RY M 0 (L.1 7) L.2.2.2 := by
    refine ⟨by rw [← em 59 23 (by omega)]; exact u1, by rw [← em 59 27 (by omega)]; exact u2, by rw [← em 59 28 (by omega)]; exact u3, by rw [← em 61 9 (by omega)]; exact u4, fun i hi => ?_⟩
    have := u5 i hi
    rwa [emr 67 (by decide), emr 68 (by decide)] at this
  rw [em 59 17 (by omega)] at d17
  rw [em 61 5 (by omega)] at d61
  rw [em 61 6 (by omega)] at d62
  rw [em 61 8 (by omega)] at d64
  rw [emr 62 (by decide), emr 63 (by decide)] at dn
  rw [emr 64 (by decide)] at dq
  rw [emr 65 (by decide), emr 66 (by decide)] at df dr
  unfold FrT at dF
  rw [emr 69 (by decide), emr 70 (by decide), emr 71 (by decide), emr 72 (by decide), emr 73 (by decide)] at dF
  unfold forF at hok hbad
  have ex : ∀ {M' : Mem}, Fp exR M M' → Fp lnR M0 M' := fun hF => hF0.tr (hF.mono (fun k j q => by unfold exR tkset at q; unfold lnR; omega))
  apply s_exprR hWR hK.1 hK.2.2.2 hK.2.1 dR z7 zl
  · intro z' e hc' hk' M' hF hK' hR'
    rw [e] at hok hbad
    refine hG M' M' hF rfl (fun v hv => ?_)
    have hv' : v = ((outE z').length : Int) := hv.symm.trans hR'.2.2.2.1
    subst hv'
    have fx : Fp (fun k j => (k = 66 ∧ j = 6 + f) ∨ (k = 61 ∧ j = 7)) M' (mset (mset M' 66 (6 + f) ((outE z').length : Int)) 61 7 (L.1 3 : Int)) := (Fp.rf.set (Or.inl ⟨rfl, rfl⟩)).set (Or.inr ⟨rfl, rfl⟩)
    have hKf : K0 (mset (mset M' 66 (6 + f) ((outE z').length : Int)) 61 7 (L.1 3 : Int)) t n z'.1 := ⟨(exR_T hK.1 hF).fp fx (fun k j q => by omega), hK'.fp fx (fun j _ _ => by omega), by rw [mset_k (by decide), mset_k (by decide)]; exact hR'.1, hc'⟩
    have hFf : Fp lnR M0 (mset (mset M' 66 (6 + f) ((outE z').length : Int)) 61 7 (L.1 3 : Int)) := (ex hF).tr (fx.mono (fun k j q => by unfold lnR; omega))
    have hFd : Fp (fun k j => exR k j ∨ (k = 66 ∧ j = 6 + f) ∨ (k = 61 ∧ j = 7)) M (mset (mset M' 66 (6 + f) ((outE z').length : Int)) 61 7 (L.1 3 : Int)) := (hF.mono (fun k j q => Or.inl q)).tr (fx.mono (fun k j q => Or.inr q))
    have eD : ∀ k j, ¬ (exR k j ∨ (k = 66 ∧ j = 6 + f) ∨ (k = 61 ∧ j = 7)) → mset (mset M' 66 (6 + f) ((outE z').length : Int)) 61 7 (L.1 3 : Int) k j = M k j := fun k j hq => hFd k j hq
    have eR : ∀ k, (62 ≤ k ∧ k ≤ 65) ∨ 69 ≤ k → mset (mset M' 66 (6 + f) ((outE z').length : Int)) 61 7 (L.1 3 : Int) k = M k := fun k hk => hFd.row (fun j => by unfold exR tkset; omega)
    obtain ⟨r1, r2, r3, r4, r5⟩ := hR'
    have hlen' : (outE z').length ≤ 64 ∨ True := Or.inr trivial
    have g66 : mset (mset M' 66 (6 + f) ((outE z').length : Int)) 61 7 (L.1 3 : Int) 66 (6 + f) = ((outE z').length : Int) := by rw [mset_k (by decide), mset_s]
    have g617 : mset (mset M' 66 (6 + f) ((outE z').length : Int)) 61 7 (L.1 3 : Int) 61 7 = (L.1 3 : Int) := mset_s
    have hRf : RY (mset (mset M' 66 (6 + f) ((outE z').length : Int)) 61 7 (L.1 3 : Int)) 0 z'.2.2.2.2.1 (outE z') := ⟨by rw [mset_k (by decide), mset_k (by decide)]; exact r1, by rw [mset_k (by decide), mset_k (by decide)]; exact r2, by rw [mset_k (by decide), mset_k (by decide)]; exact r3, by rw [mset_j (by decide), mset_k (by decide)]; exact r4, fun i hi => by rw [mset_k (by decide), mset_k (by decide), mset_k (by decide), mset_k (by decide)]; exact r5 i hi⟩
    generalize mset (mset M' 66 (6 + f) ((outE z').length : Int)) 61 7 (L.1 3 : Int) = M9 at hKf hFf hFd eD eR g66 g617 hRf
    by_cases hl : (outE z').length ≤ 64
    · refine s_endR hWR (L := LSmk (udg L.1 7 z'.2.2.2.2.1) (ud2 (ud2 L.2.1 3 f (L.2.2.2.length : Int)) 4 f ((outE z').length : Int)) L.2.2.1 (outE z')) hKf ⟨⟨hRf, ?_, ?_, ?_, ?_, ?_, ?_, ?_, ?_, ?_, ?_⟩, ?_⟩ ⟨z1, z2, z3, by show L.1 8 < 2000; omega, hl⟩ (fun L' e M' hF hK' hD' => hok L' e M' (hFf.tr hF) hK' hD') (fun f pl e hf M' hF hB => hbad f pl e hf M' (hFf.tr hF) hB)
      · rw [eD 59 17 (by unfold exR tkset; omega)]; exact d17
      · rw [eD 61 5 (by unfold exR tkset; omega)]; exact d61
      · rw [eD 61 6 (by unfold exR tkset; omega)]; exact d62
      · exact g617
      · rw [eD 61 8 (by unfold exR tkset; omega)]; exact d64
      · rw [eR 62 (by omega), eR 63 (by omega)]
        intro i hi
        show _ = ud2 (ud2 L.2.1 3 f (L.2.2.2.length : Int)) 4 f ((outE z').length : Int) 0 i ∧ _ = ud2 (ud2 L.2.1 3 f (L.2.2.2.length : Int)) 4 f ((outE z').length : Int) 1 i
        rw [ud2_o (by omega), ud2_o (by omega), ud2_o (by omega), ud2_o (by omega)]
        exact dn i hi
      · rw [eR 64 (by omega)]
        intro i hi
        show _ = ud2 (ud2 L.2.1 3 f (L.2.2.2.length : Int)) 4 f ((outE z').length : Int) 2 i
        rw [ud2_o (by omega), ud2_o (by omega)]
        exact dq i hi
      · rw [eR 65 (by omega)]
        intro i hi hne
        have hi : i < L.1 3 ∨ (i = 5 ∧ L.1 6 = 1) := hi
        show _ = ud2 (ud2 L.2.1 3 f (L.2.2.2.length : Int)) 4 f ((outE z').length : Int) 3 i ∧ _ = ud2 (ud2 L.2.1 3 f (L.2.2.2.length : Int)) 4 f ((outE z').length : Int) 4 i
        rw [ud2_o (show ¬ (3 = 4 ∧ i = f) by omega)]
        by_cases z : i = f
        · subst z
          rw [ud2_s, ud2_s]
          exact ⟨h65, g66⟩
        · rw [ud2_o (by omega), ud2_o (by omega), ud2_o (by omega), eD 66 (6 + i) (by unfold exR tkset; omega)]
          exact df i hi z
      · intro h0
        have h0 : L.1 6 = 0 := h0
        rw [eR 65 (by omega)]
        have hne : f ≠ 5 := fun y => hr6 y h0
        rw [eD 66 11 (by unfold exR tkset; omega)]
        exact dr h0
      · unfold FrT
        rw [eR 69 (by omega), eR 70 (by omega), eR 71 (by omega), eR 72 (by omega), eR 73 (by omega)]
        exact dF
      · exact hT.fp hFd (by unfold exR tkset; omega)
    · exfalso
      apply hl
      have hb := hK.1.2.2.2
      have hZ0 : ZI n L.2.2.2 (z0E c (L.1 7) L.2.2.2) := ⟨hK.2.2.2, z7, by show 0 ≤ 8; omega, rfl, fun x hx => (by cases hx), by show L.2.2.2.length + 0 = L.1 7; omega, [], by show L.2.2.2 = L.2.2.2 ++ []; rw [List.append_nil], rfl⟩
      obtain ⟨hZ, hs⟩ := EZ_ok hb _ _ _ hZ0 (by show n + 1 ≤ c + (n + 2 - c); omega) e
      have := (E_fin hZ hs).2.2.2.1
      have h2 := hZ.2.1
      show (outE z').length ≤ 64
      unfold outE
      omega
  · intro c' kn' ro M' e hne hF hK' hR' hro
    rw [e] at hbad
    refine hG M' M' hF rfl (fun v hv => ?_)
    have fx : Fp (fun k j => (k = 66 ∧ j = 6 + f) ∨ (k = 61 ∧ j = 7)) M' (mset (mset M' 66 (6 + f) v) 61 7 (L.1 3 : Int)) := (Fp.rf.set (Or.inl ⟨rfl, rfl⟩)).set (Or.inr ⟨rfl, rfl⟩)
    have hKR := hK'.fp fx (fun j _ _ => by omega)
    have h0 : mset (mset M' 66 (6 + f) v) 61 7 (L.1 3 : Int) 59 23 = 0 := by rw [mset_k (by decide), mset_k (by decide)]; exact hR'.1
    have hFf : Fp lnR M0 (mset (mset M' 66 (6 + f) v) 61 7 (L.1 3 : Int)) := (ex hF).tr (fx.mono (fun k j q => by unfold lnR; omega))
    apply r_11_line_353
    refine ⟨fun _ => ?_, fun q => absurd h0 q⟩
    apply s_isSign h0 hKR (by omega)
    rw [show ksg 59 = 10032 by decide]
    refine ⟨fun q => absurd (bi_ne q) hne, fun _ => ?_⟩
    refine s_wrongR (f := 1) h0 hKR.2.1 (fun M2 hF2 hB2 => ?_)
    apply r_11_line_382
    exact hbad 1 _ rfl (by decide) _ ((hFf.tr (hF2.mono (fun k j q => by unfold exR tkset at q; unfold lnR; omega))).set (by unfold lnR; omega)) ⟨by rw [mset_j (by decide)]; exact hB2.1, by rw [mset_j (by decide)]; exact hB2.2⟩
  · intro f' pl M' e hf' hF hB
    rw [e] at hbad
    refine hG M' M' hF rfl (fun v hv => ?_)
    have fx : Fp (fun k j => (k = 66 ∧ j = 6 + f) ∨ (k = 61 ∧ j = 7)) M' (mset (mset M' 66 (6 + f) v) 61 7 (L.1 3 : Int)) := (Fp.rf.set (Or.inl ⟨rfl, rfl⟩)).set (Or.inr ⟨rfl, rfl⟩)
    have hB7 := hB.fp fx (by omega)
    exact f_353 (hB7.ne hf') (hbad f' pl rfl hf' _ ((ex hF).tr (fx.mono (fun k j q => by unfold lnR; omega))) hB7)
