/-! what holds all along an E -/
def nO : List Int → Nat
  | [] => 0
  | x :: W => nO W + (if x = 10030 then 0 else 1)
def nB : List Int → Nat
  | [] => 0
  | x :: W => nB W + (if x = 10030 ∨ x = 10012 then 0 else 1)
def nP : List Int → Nat
  | [] => 0
  | x :: W => nP W + (if x = 10030 then 1 else 0)
def okWt (W : List Int) : Prop := ∀ x ∈ W, (10010 ≤ x ∧ x ≤ 10022) ∨ x = 10030
def wdl : List Int → Nat → Option Nat
  | [], d => some d
  | x :: l, d => (wd x d).bind (wdl l)
theorem wdl_app : ∀ (l1 l2 : List Int) (d : Nat), wdl (l1 ++ l2) d = (wdl l1 d).bind (wdl l2)
  | [], l2, d => rfl
  | x :: l1, l2, d => by
    show (wd x d).bind (wdl (l1 ++ l2)) = ((wd x d).bind (wdl l1)).bind (wdl l2)
    cases wd x d with
    | none => rfl
    | some d' => exact wdl_app l1 l2 d'
theorem bnd_op {x : Int} (h : 1 ≤ bnd x) : 10010 ≤ x ∧ x ≤ 10022 := by
  unfold bnd at h
  split at h
  · omega
  · split at h
    · omega
    · split at h
      · omega
      · split at h
        · omega
        · split at h
          · omega
          · split at h
            · omega
            · omega
theorem op_bnd {x : Int} (h : 10010 ≤ x ∧ x ≤ 10022) : 1 ≤ bnd x := by
  unfold bnd
  split
  · omega
  · split
    · omega
    · split
      · omega
      · split
        · omega
        · split
          · omega
          · split
            · omega
            · omega
theorem bnd_3 {x : Int} : bnd x = 3 ↔ x = 10012 := by
  unfold bnd
  split
  · omega
  · split
    · omega
    · split
      · omega
      · split
        · omega
        · split
          · omega
          · split <;> omega
theorem wd_leaf {k : Int} {d : Nat} (h : 0 ≤ k ∧ (k < 10000 ∨ (10000 ≤ k ∧ k < 10008))) : wd k d = some (d + 1) := if_pos h
theorem wd_not {d : Nat} (h : 1 ≤ d) : wd 10012 d = some d := by
  unfold wd
  rw [if_neg (by omega), if_pos ⟨rfl, h⟩]
theorem wd_bin {k : Int} {d : Nat} (h : 10010 ≤ k ∧ k ≤ 10022) (hk : k ≠ 10012) (hd : 2 ≤ d) : wd k d = some (d - 1) := by
  unfold wd
  rw [if_neg (by omega), if_neg (by omega), if_pos ⟨h.1, h.2, hk, hd⟩]
theorem pop_wd {b : Nat} (hb : 1 ≤ b) : ∀ (W seg : List Int), okWt W → wdl seg 0 = some (nB W + 1) → wdl (seg ++ popd b W) 0 = some (nB (wrst b W) + 1)
  | [], seg, _, h => by show wdl (seg ++ []) 0 = _; rw [List.append_nil]; exact h
  | x :: W, seg, hW, h => by
    by_cases q : b ≤ bnd x
    · rw [(popd_y q).1, (popd_y q).2]
      have hx := bnd_op (show 1 ≤ bnd x by omega)
      have hW' : okWt W := fun y hy => hW y (List.mem_cons_of_mem _ hy)
      have e : seg ++ x :: popd b W = (seg ++ [x]) ++ popd b W := by simp
      rw [e]
      refine pop_wd hb W (seg ++ [x]) hW' ?_
      rw [wdl_app, h]
      show (wd x (nB (x :: W) + 1)).bind (wdl []) = _
      by_cases z : x = 10012
      · subst z
        have en : nB (10012 :: W) = nB W := by show nB W + (if (10012 : Int) = 10030 ∨ (10012 : Int) = 10012 then 0 else 1) = _; rw [if_pos (Or.inr rfl)]; rfl
        rw [en, wd_not (by omega)]; rfl
      · have en : nB (x :: W) = nB W + 1 := by show nB W + (if x = 10030 ∨ x = 10012 then 0 else 1) = _; rw [if_neg (by omega)]
        rw [en, wd_bin hx z (by omega)]; rfl
    · rw [(popd_n q).1, (popd_n q).2, List.append_nil]; exact h
theorem pop_cnt {b : Nat} (hb : 1 ≤ b) : ∀ W : List Int, (popd b W).length + nO (wrst b W) = nO W ∧ nP (wrst b W) = nP W ∧ (okWt W → okWt (wrst b W))
  | [] => ⟨rfl, rfl, fun h => h⟩
  | x :: W => by
    obtain ⟨h1, h2, h3⟩ := pop_cnt hb W
    by_cases q : b ≤ bnd x
    · rw [(popd_y q).1, (popd_y q).2]
      have hx := bnd_op (show 1 ≤ bnd x by omega)
      refine ⟨?_, ?_, fun h => h3 (fun y hy => h y (List.mem_cons_of_mem _ hy))⟩
      · show (popd b W).length + 1 + nO (wrst b W) = nO W + (if x = 10030 then 0 else 1)
        rw [if_neg (by omega)]; omega
      · show nP (wrst b W) = nP W + (if x = 10030 then 1 else 0)
        rw [if_neg (by omega)]; omega
    · rw [(popd_n q).1, (popd_n q).2]
      refine ⟨?_, rfl, fun h => h⟩
      show 0 + _ = _
      omega
theorem kz_in (t : Nat → Int) (n c : Nat) : kz t n c = -1 ∨ (10000 ≤ kz t n c ∧ kz t n c < 10008) ∨ (10010 ≤ kz t n c ∧ kz t n c ≤ 10022) ∨ kz t n c = 10030 ∨ kz t n c = 10031 ∨ kz t n c = 10032 := by
  unfold kz
  split
  · next h =>
    have hv : -1 ≤ tkV t n c ∧ tkV t n c < 18 := by
      unfold tkS at h
      unfold tkV
      split at h
      · omega
      · next q1 =>
        rw [if_neg q1]
        split at h
        · next q2 =>
          rw [if_pos q2]
          split at h
          · split at h
            · omega
            · next q3 =>
              rw [if_neg q3]
              have := wdx_bd (nmN t (tkP t n c) (tkE t n c)); omega
          · omega
        · split at h
          · omega
          · split at h <;> omega
    unfold kwd
    split
    · omega
    · split
      · omega
      · split
        · omega
        · split <;> omega
  · split
    · unfold ksg
      repeat' split
      all_goals omega
    · omega
def ZI (n : Nat) (base : List Int) (z : Zs) : Prop := z.1 ≤ n ∧ z.2.2.2.2.1 ≤ 64 ∧ z.2.2.2.1 ≤ 8 ∧ nP z.2.2.1 = z.2.2.2.1 ∧ okWt z.2.2.1 ∧ z.2.2.2.2.2.length + nO z.2.2.1 = z.2.2.2.2.1 ∧ ∃ seg, z.2.2.2.2.2 = base ++ seg ∧ wdl seg 0 = some (nB z.2.2.1 + if z.2.1 = true then 0 else 1)
theorem topP {W : List Int} (h : okWt W) (hp : 0 < nP W) : ∃ W', wrst 1 W = 10030 :: W' ∧ nP W' + 1 = nP W ∧ nO W' = nO (wrst 1 W) ∧ nB W' = nB (wrst 1 W) := by
  induction W with
  | nil => exact absurd hp (by show ¬ 0 < 0; omega)
  | cons x W ih =>
    by_cases q : 1 ≤ bnd x
    · rw [(popd_y q).2]
      have hx := bnd_op q
      have en : nP (x :: W) = nP W := by show nP W + (if x = 10030 then 1 else 0) = _; rw [if_neg (by omega)]; rfl
      rw [en] at hp ⊢
      exact ih (fun y hy => h y (List.mem_cons_of_mem _ hy)) hp
    · rw [(popd_n q).2]
      rcases h x List.mem_cons_self with z | z
      · exact absurd (op_bnd z) q
      · subst z
        exact ⟨W, rfl, by show nP W + 1 = nP W + (if (10030 : Int) = 10030 then 1 else 0); rw [if_pos rfl], by show _ = nO W + (if (10030 : Int) = 10030 then 0 else 1); rw [if_pos rfl]; rfl, by show _ = nB W + (if (10030 : Int) = 10030 ∨ (10030 : Int) = 10012 then 0 else 1); rw [if_pos (Or.inl rfl)]; rfl⟩
theorem noP {W : List Int} (h : okWt W) (hp : nP W = 0) : wrst 1 W = [] := by
  induction W with
  | nil => rfl
  | cons x W ih =>
    by_cases q : 1 ≤ bnd x
    · rw [(popd_y q).2]
      have hx := bnd_op q
      have en : nP (x :: W) = nP W := by show nP W + (if x = 10030 then 1 else 0) = _; rw [if_neg (by omega)]; rfl
      exact ih (fun y hy => h y (List.mem_cons_of_mem _ hy)) (by omega)
    · rcases h x List.mem_cons_self with z | z
      · exact absurd (op_bnd z) q
      · subst z
        have : nP (10030 :: W) = nP W + 1 := by show nP W + (if (10030 : Int) = 10030 then 1 else 0) = _; rw [if_pos rfl]
        omega
theorem ZI_wait {n : Nat} {base W out : List Int} {op kn e : Nat} {k : Int} {z1 : Zs} (he : e ≤ n) (hk64 : kn ≤ 64) (hop : op ≤ 8) (hP : nP W = op) (hok : okWt W) (hlen : out.length + nO W = kn) (hk : 10010 ≤ k ∧ k ≤ 10022) (hs : ∃ seg, out = base ++ seg ∧ wdl seg 0 = some (nB W + if k = 10012 then 0 else 1)) (h : waitZ e W op kn out k = .inl (some z1)) : ZI n base z1 := by
  unfold waitZ at h
  split at h
  · cases h
  · cases h
    obtain ⟨seg, e1, e2⟩ := hs
    refine ⟨he, by show kn + 1 ≤ 64; omega, hop, ?_, ?_, ?_, seg, e1, ?_⟩
    · show nP W + (if k = 10030 then 1 else 0) = op
      rw [if_neg (by omega)]; exact hP
    · intro x hx
      rcases List.mem_cons.mp hx with rfl | hx
      · exact Or.inl hk
      · exact hok x hx
    · show out.length + (nO W + (if k = 10030 then 0 else 1)) = kn + 1
      rw [if_neg (by omega)]; omega
    · rw [e2]
      show some (nB W + if k = 10012 then 0 else 1) = some (nB W + (if k = 10030 ∨ k = 10012 then 0 else 1) + if true = true then 0 else 1)
      rw [if_pos (show true = true from rfl)]
      by_cases z : k = 10012
      · rw [if_pos z, if_pos (Or.inr z)]
      · rw [if_neg z, if_neg (by omega)]
theorem ZI_step {t : Nat → Int} {n : Nat} {base : List Int} {z z1 : Zs} (hb : bys t n) (hz : ZI n base z) (h : stepZ t n z = .inl (some z1)) : ZI n base z1 := by
  have hsc := step_c hb hz.1 h
  obtain ⟨c, due, W, op, kn, out⟩ := z
  obtain ⟨o1, o2, o3, o4, o5, o6, seg, o7, o8⟩ := hz
  have z2 : kn ≤ 64 := o2
  have z3 : op ≤ 8 := o3
  have z4 : nP W = op := o4
  have z5 : okWt W := o5
  have z6 : out.length + nO W = kn := o6
  have z7 : out = base ++ seg := o7
  have he : tkE t n c ≤ n := by rw [← hsc.2.2.1]; exact hsc.2.1
  have leaf : ∀ x : Int, 0 ≤ x ∧ (x < 10000 ∨ (10000 ≤ x ∧ x < 10008)) → due = true → leafZ (tkE t n c) W op kn out x = .inl (some z1) → ZI n base z1 := fun x hx hd h => by
    unfold leafZ at h
    split at h
    · cases h
    · cases h
      refine ⟨he, by show kn + 1 ≤ 64; omega, z3, z4, z5, by show (out ++ [x]).length + nO W = kn + 1; rw [List.length_append]; show out.length + 1 + _ = _; omega, seg ++ [x], by show out ++ [x] = _; rw [z7, List.append_assoc], ?_⟩
      have z8 : wdl seg 0 = some (nB W + if due = true then 0 else 1) := o8
      rw [if_pos hd] at z8
      rw [wdl_app, z8]
      show (wd x (nB W + 0)).bind (wdl []) = some (nB W + if false = true then 0 else 1)
      rw [wd_leaf hx]; rfl
  have hkz := kz_in t n c
  unfold stepZ at h
  cases due with
  | true =>
    have z8 : wdl seg 0 = some (nB W) := o8
    have h : stepO t n c W op kn out = .inl (some z1) := h
    unfold stepO at h
    split at h
    · next q =>
      split at h
      · cases h
      · next q2 =>
        refine leaf _ ⟨?_, Or.inl (by omega)⟩ rfl h
        unfold tkS at q
        unfold tkV
        split at q
        · omega
        · next q1 =>
          rw [if_neg q1]
          split at q
          · split at q
            · split at q <;> omega
            · omega
          · next q3 =>
            rw [if_neg q3]
            split at q
            · next q4 => rw [if_pos q4]; omega
            · split at q <;> omega
    · split at h
      · next q => exact leaf _ ⟨by omega, Or.inr q⟩ rfl h
      · split at h
        · split at h
          · cases h
          · cases h
            refine ⟨he, z2, by show op + 1 ≤ 8; omega, ?_, ?_, ?_, seg, z7, ?_⟩
            · show nP W + (if (10030 : Int) = 10030 then 1 else 0) = op + 1
              rw [if_pos rfl]; omega
            · intro x hx
              rcases List.mem_cons.mp hx with rfl | hx
              · exact Or.inr rfl
              · exact z5 x hx
            · show out.length + (nO W + (if (10030 : Int) = 10030 then 0 else 1)) = kn
              rw [if_pos rfl]; exact z6
            · rw [z8]
              show some (nB W) = some (nB W + (if (10030 : Int) = 10030 ∨ (10030 : Int) = 10012 then 0 else 1) + if true = true then 0 else 1)
              rw [if_pos (Or.inl rfl), if_pos rfl]; rfl
        · split at h
          · exact ZI_wait he z2 z3 z4 z5 z6 (by omega) ⟨seg, z7, by rw [z8, if_pos rfl]; rfl⟩ h
          · cases h
  | false =>
    have z8 : wdl seg 0 = some (nB W + 1) := o8
    have pw : ∀ b, 1 ≤ b → out ++ popd b W = base ++ (seg ++ popd b W) ∧ wdl (seg ++ popd b W) 0 = some (nB (wrst b W) + 1) ∧ (out ++ popd b W).length + nO (wrst b W) = kn ∧ nP (wrst b W) = op ∧ okWt (wrst b W) := fun b hb1 => by
      obtain ⟨p1, p2, p3⟩ := pop_cnt hb1 W
      refine ⟨by rw [z7, List.append_assoc], pop_wd hb1 W seg z5 z8, ?_, by omega, p3 z5⟩
      rw [List.length_append]; omega
    have h : stepS t n c W op kn out = .inl (some z1) := h
    unfold stepS at h
    split at h
    · next q =>
      cases h
      obtain ⟨p1, p2, p3, p4, p5⟩ := pw 1 (by omega)
      obtain ⟨W', w1, w2, w3, w4⟩ := topP z5 (by omega)
      rw [w1] at p4 p5
      have et : (wrst 1 W).tail = W' := by rw [w1]; rfl
      refine ⟨he, z2, by show op - 1 ≤ 8; omega, ?_, ?_, ?_, seg ++ popd 1 W, p1, ?_⟩
      · show nP (wrst 1 W).tail = op - 1
        rw [et]; omega
      · show okWt (wrst 1 W).tail
        rw [et]
        exact fun x hx => p5 x (List.mem_cons_of_mem _ hx)
      · show (out ++ popd 1 W).length + nO (wrst 1 W).tail = kn
        rw [et, w3]; exact p3
      · rw [p2]
        show _ = some (nB (wrst 1 W).tail + 1)
        rw [et, w4]
    · split at h
      · split at h <;> cases h
      · next q =>
        have hkk : 10010 ≤ kz t n c ∧ kz t n c ≤ 10022 ∧ kz t n c ≠ 10012 := by
          have hb1 : 1 ≤ bnd (kz t n c) := by
            rcases Nat.eq_zero_or_pos (bnd (kz t n c)) with y | y
            · exact absurd (Or.inl y) q
            · exact y
          have := bnd_op hb1
          exact ⟨this.1, this.2, fun y => q (Or.inr y)⟩
        split at h
        · split at h
          · cases h
          · obtain ⟨p1, p2, p3, p4, p5⟩ := pw 5 (by omega)
            exact ZI_wait he z2 z3 p4 p5 p3 ⟨hkk.1, hkk.2.1⟩ ⟨_, p1, by rw [p2, if_neg hkk.2.2]⟩ h
        · obtain ⟨p1, p2, p3, p4, p5⟩ := pw (bnd (kz t n c)) (op_bnd ⟨hkk.1, hkk.2.1⟩)
          exact ZI_wait he z2 z3 p4 p5 p3 ⟨hkk.1, hkk.2.1⟩ ⟨_, p1, by rw [p2, if_neg hkk.2.2]⟩ h
theorem EZ_ok {t : Nat → Int} {n : Nat} {base : List Int} (hb : bys t n) : ∀ f (z z' : Zs), ZI n base z → n + 1 ≤ z.1 + f → runZ t n f z = .inl z' → ZI n base z' ∧ stepZ t n z' = .inl none
  | 0, z, z', hz, hf, h => by have := hz.1; omega
  | f + 1, z, z', hz, hf, h => by
    unfold runZ at h
    cases hs : stepZ t n z with
    | inr k => rw [hs] at h; cases h
    | inl o =>
      rw [hs] at h
      cases o with
      | none =>
        have h : Sum.inl z = (Sum.inl z' : Sum Zs (Nat × Nat)) := h
        cases h
        exact ⟨hz, hs⟩
      | some z1 =>
        obtain ⟨s1, s2, _⟩ := step_c hb hz.1 hs
        exact EZ_ok hb f z1 z' (ZI_step hb hz hs) (by omega) h
/-- an E that ends is laid down whole: one value stands -/
theorem E_fin {t : Nat → Int} {n : Nat} {base : List Int} {z : Zs} (hz : ZI n base z) (hs : stepZ t n z = .inl none) : z.2.1 = false ∧ z.2.2.2.1 = 0 ∧ wrst 1 z.2.2.1 = [] ∧ (z.2.2.2.2.2 ++ popd 1 z.2.2.1).length = z.2.2.2.2.1 ∧ ∃ seg, z.2.2.2.2.2 ++ popd 1 z.2.2.1 = base ++ seg ∧ wdl seg 0 = some 1 := by
  obtain ⟨c, due, W, op, kn, out⟩ := z
  obtain ⟨o1, o2, o3, o4, o5, o6, seg, o7, o8⟩ := hz
  have z4 : nP W = op := o4
  have z5 : okWt W := o5
  have z6 : out.length + nO W = kn := o6
  have z7 : out = base ++ seg := o7
  unfold stepZ at hs
  cases due with
  | true =>
    exfalso
    have hs : stepO t n c W op kn out = .inl none := hs
    unfold stepO leafZ waitZ at hs
    repeat' split at hs
    all_goals cases hs
  | false =>
    have z8 : wdl seg 0 = some (nB W + 1) := o8
    have hs : stepS t n c W op kn out = .inl none := hs
    have hop : op = 0 := by
      unfold stepS waitZ at hs
      split at hs
      · cases hs
      · split at hs
        · split at hs
          · cases hs
          · omega
        · split at hs
          · split at hs
            · cases hs
            · split at hs <;> cases hs
          · split at hs <;> cases hs
    have hw := noP z5 (by omega)
    obtain ⟨p1, p2, p3⟩ := pop_cnt (b := 1) (Nat.le_refl 1) W
    rw [hw] at p1
    have p1 : (popd 1 W).length + 0 = nO W := p1
    have hwd := pop_wd (Nat.le_refl 1) W seg z5 z8
    rw [hw] at hwd
    refine ⟨rfl, hop, hw, ?_, seg ++ popd 1 W, ?_, hwd⟩
    · show (out ++ popd 1 W).length = kn
      rw [List.length_append]; omega
    · show out ++ popd 1 W = _
      rw [z7, List.append_assoc]
