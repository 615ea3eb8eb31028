/-! an E: signs wait until those behind them that bind closer are laid down -/
def bnd (k : Int) : Nat := if k = 10010 then 1 else if k = 10011 then 2 else if k = 10012 then 3 else if 10013 ≤ k ∧ k ≤ 10018 then 4 else if k = 10019 ∨ k = 10020 then 5 else if k = 10021 ∨ k = 10022 then 6 else 0
def popd (b : Nat) : List Int → List Int
  | [] => []
  | x :: W => if b ≤ bnd x then x :: popd b W else []
def wrst (b : Nat) : List Int → List Int
  | [] => []
  | x :: W => if b ≤ bnd x then wrst b W else x :: W
theorem popd_y {b : Nat} {x : Int} {W : List Int} (h : b ≤ bnd x) : popd b (x :: W) = x :: popd b W ∧ wrst b (x :: W) = wrst b W := ⟨if_pos h, if_pos h⟩
theorem popd_n {b : Nat} {x : Int} {W : List Int} (h : ¬ b ≤ bnd x) : popd b (x :: W) = [] ∧ wrst b (x :: W) = x :: W := ⟨if_neg h, if_neg h⟩
theorem popd_app (b : Nat) : ∀ W : List Int, popd b W ++ wrst b W = W
  | [] => rfl
  | x :: W => by
    by_cases q : b ≤ bnd x
    · rw [(popd_y q).1, (popd_y q).2]; show x :: (popd b W ++ wrst b W) = _; rw [popd_app b W]
    · rw [(popd_n q).1, (popd_n q).2]; rfl
theorem popd_all {b : Nat} : ∀ (D W : List Int), (∀ x ∈ D, b ≤ bnd x) → popd b (D ++ W) = D ++ popd b W ∧ wrst b (D ++ W) = wrst b W
  | [], W, _ => ⟨rfl, rfl⟩
  | x :: D, W, h => by
    obtain ⟨h1, h2⟩ := popd_all D W (fun y hy => h y (List.mem_cons_of_mem _ hy))
    have hx := h x List.mem_cons_self
    exact ⟨by show popd b (x :: (D ++ W)) = _; rw [(popd_y hx).1, h1]; rfl, by show wrst b (x :: (D ++ W)) = _; rw [(popd_y hx).2, h2]⟩
def topW (W : List Int) : Int := match W with | [] => 0 | x :: _ => x
/-- the knot of the TOKEN behind c -/
def kz (t : Nat → Int) (n c : Nat) : Int := if tkS t n c = 0 then kwd (tkV t n c) else if tkS t n c = 3 then ksg (tkV t n c) else -1
/-- how far an E is: the place, an operand is due, what waits, how many are open, how many knots, what is laid -/
def Zs : Type := Nat × Bool × List Int × Nat × Nat × List Int
def Zmk (c : Nat) (due : Bool) (W : List Int) (op kn : Nat) (out : List Int) : Zs := (c, due, W, op, kn, out)
def leafZ (e : Nat) (W : List Int) (op kn : Nat) (out : List Int) (x : Int) : Sum (Option Zs) Nat := if 64 ≤ kn then .inr 2 else .inl (some (Zmk e false W op (kn + 1) (out ++ [x])))
def waitZ (e : Nat) (W : List Int) (op kn : Nat) (out : List Int) (k : Int) : Sum (Option Zs) Nat := if 64 ≤ kn then .inr 2 else .inl (some (Zmk e true (k :: W) op (kn + 1) out))
def stepO (t : Nat → Int) (n c : Nat) (W : List Int) (op kn : Nat) (out : List Int) : Sum (Option Zs) Nat :=
  if tkS t n c = 2 then (if 9999 < tkV t n c then .inr 2 else leafZ (tkE t n c) W op kn out (tkV t n c))
  else if 10000 ≤ kz t n c ∧ kz t n c < 10008 then leafZ (tkE t n c) W op kn out (kz t n c)
  else if kz t n c = 10030 then (if 8 ≤ op then .inr 2 else .inl (some (Zmk (tkE t n c) true (10030 :: W) (op + 1) kn out)))
  else if kz t n c = 10012 ∧ bnd (topW W) < 4 then waitZ (tkE t n c) W op kn out 10012
  else .inr 1
def stepS (t : Nat → Int) (n c : Nat) (W : List Int) (op kn : Nat) (out : List Int) : Sum (Option Zs) Nat :=
  if kz t n c = 10031 ∧ 0 < op then .inl (some (Zmk (tkE t n c) false (wrst 1 W).tail (op - 1) kn (out ++ popd 1 W)))
  else if bnd (kz t n c) = 0 ∨ kz t n c = 10012 then (if 0 < op then .inr 1 else .inl none)
  else if bnd (kz t n c) = 4 then (if bnd (topW (wrst 5 W)) = 4 then .inr 1 else waitZ (tkE t n c) (wrst 5 W) op kn (out ++ popd 5 W) (kz t n c))
  else waitZ (tkE t n c) (wrst (bnd (kz t n c)) W) op kn (out ++ popd (bnd (kz t n c)) W) (kz t n c)
def stepZ (t : Nat → Int) (n : Nat) (z : Zs) : Sum (Option Zs) Nat := if z.2.1 = true then stepO t n z.1 z.2.2.1 z.2.2.2.1 z.2.2.2.2.1 z.2.2.2.2.2 else stepS t n z.1 z.2.2.1 z.2.2.2.1 z.2.2.2.2.1 z.2.2.2.2.2
def runZ (t : Nat → Int) (n : Nat) : Nat → Zs → Sum Zs (Nat × Nat)
  | 0, z => .inl z
  | f + 1, z => match stepZ t n z with
    | .inl (some z1) => runZ t n f z1
    | .inl none => .inl z
    | .inr k => .inr (k, tkP t n z.1)
/-- the outcome of an E: where it ends, or its fault and place -/
def EZ (t : Nat → Int) (n : Nat) (z : Zs) : Sum Zs (Nat × Nat) := runZ t n (n + 2 - z.1) z
theorem kz_rng (t : Nat → Int) (n c : Nat) : tkS t n c = 4 → kz t n c = -1 := fun h => by
  unfold kz; rw [h]; rfl
theorem step_c {t : Nat → Int} {n : Nat} {z z1 : Zs} (hb : bys t n) (hc : z.1 ≤ n) (h : stepZ t n z = .inl (some z1)) : z.1 < z1.1 ∧ z1.1 ≤ n ∧ z1.1 = tkE t n z.1 ∧ tkP t n z.1 < z1.1 := by
  obtain ⟨c, due, W, op, kn, out⟩ := z
  have hcc : c ≤ n := hc
  have hp := tkP_p t n c
  have he := tkE_p hb hcc
  have hne : tkS t n c ≠ 4 → tkP t n c < n := fun q => by
    rcases Nat.lt_or_ge (tkP t n c) n with y | y
    · exact y
    · exact absurd (if_pos y) q
  have key : z1.1 = tkE t n c ∧ tkS t n c ≠ 4 := by
    have lf : ∀ (x : Int) (W : List Int) (op kn : Nat) (out : List Int), leafZ (tkE t n c) W op kn out x = .inl (some z1) → z1.1 = tkE t n c := fun x W op kn out h => by
      unfold leafZ at h
      split at h
      · cases h
      · cases h; rfl
    have wt : ∀ (x : Int) (W : List Int) (op kn : Nat) (out : List Int), waitZ (tkE t n c) W op kn out x = .inl (some z1) → z1.1 = tkE t n c := fun x W op kn out h => by
      unfold waitZ at h
      split at h
      · cases h
      · cases h; rfl
    have k4 := kz_rng t n c
    unfold stepZ at h
    cases due with
    | true =>
      have h : stepO t n c W op kn out = .inl (some z1) := h
      unfold stepO at h
      split at h
      · next q =>
        split at h
        · cases h
        · exact ⟨lf _ _ _ _ _ h, by omega⟩
      · split at h
        · exact ⟨lf _ _ _ _ _ h, fun q => by have := k4 q; omega⟩
        · split at h
          · split at h
            · cases h
            · cases h; exact ⟨rfl, fun q => by have := k4 q; omega⟩
          · split at h
            · exact ⟨wt _ _ _ _ _ h, fun q => by have := k4 q; omega⟩
            · cases h
    | false =>
      have h : stepS t n c W op kn out = .inl (some z1) := h
      unfold stepS at h
      split at h
      · cases h; exact ⟨rfl, fun q => by have := k4 q; omega⟩
      · split at h
        · split at h <;> cases h
        · next q0 =>
          have hn4 : tkS t n c ≠ 4 := fun q => q0 (Or.inl (by rw [k4 q]; decide))
          split at h
          · split at h
            · cases h
            · exact ⟨wt _ _ _ _ _ h, hn4⟩
          · exact ⟨wt _ _ _ _ _ h, hn4⟩
  have := hne key.2
  have he3 := he.2.2 this
  have he2 := he.2.1
  have hp1 := hp.1
  refine ⟨?_, ?_, key.1, by rw [key.1]; exact he3⟩
  · show c < z1.1
    rw [key.1]; omega
  · rw [key.1]; exact he2
theorem run_fuel {t : Nat → Int} {n : Nat} (hb : bys t n) : ∀ f g (z : Zs), z.1 ≤ n → n + 1 ≤ z.1 + f → n + 1 ≤ z.1 + g → runZ t n f z = runZ t n g z
  | 0, _, z, hc, h1, _ => by omega
  | f + 1, 0, z, hc, _, h2 => by omega
  | f + 1, g + 1, z, hc, h1, h2 => by
    unfold runZ
    cases hs : stepZ t n z with
    | inr k => rfl
    | inl o =>
      cases o with
      | none => rfl
      | some z1 =>
        obtain ⟨s1, s2, _⟩ := step_c hb hc hs
        exact run_fuel hb f g z1 s2 (by omega) (by omega)
theorem EZ_go {t : Nat → Int} {n : Nat} {z z1 : Zs} (hb : bys t n) (hc : z.1 ≤ n) (hs : stepZ t n z = .inl (some z1)) : EZ t n z = EZ t n z1 := by
  obtain ⟨s1, s2, _⟩ := step_c hb hc hs
  have e : EZ t n z = runZ t n (n + 1 - z.1) z1 := by
    unfold EZ
    rw [show n + 2 - z.1 = (n + 1 - z.1) + 1 by omega]
    show (match stepZ t n z with | .inl (some z1) => _ | .inl none => _ | .inr k => _) = _
    rw [hs]
  rw [e]
  exact run_fuel hb _ _ z1 s2 (by omega) (by omega)
theorem EZ_end {t : Nat → Int} {n : Nat} {z : Zs} (hc : z.1 ≤ n) (hs : stepZ t n z = .inl none) : EZ t n z = .inl z := by
  unfold EZ
  rw [show n + 2 - z.1 = (n + 1 - z.1) + 1 by omega]
  show (match stepZ t n z with | .inl (some z1) => _ | .inl none => _ | .inr k => _) = _
  rw [hs]
theorem EZ_bad {t : Nat → Int} {n : Nat} {z : Zs} {k : Nat} (hc : z.1 ≤ n) (hs : stepZ t n z = .inr k) : EZ t n z = .inr (k, tkP t n z.1) := by
  unfold EZ
  rw [show n + 2 - z.1 = (n + 1 - z.1) + 1 by omega]
  show (match stepZ t n z with | .inl (some z1) => _ | .inl none => _ | .inr k => _) = _
  rw [hs]
