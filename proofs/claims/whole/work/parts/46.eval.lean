/-! E: its value, on both sides -/
def LIM : Int := 1000000000000
def wi (z : Int) : Option Int := if -1000000000000 ≤ z ∧ z ≤ 1000000000000 then some z else none
/-- a sign with two sides -/
def jnv (k x y : Int) : Option Int :=
  if k = 10010 then some (bi (x ≠ 0 ∨ y ≠ 0)) else if k = 10011 then some (bi (x ≠ 0 ∧ y ≠ 0)) else if k = 10013 then some (bi (x < y)) else if k = 10014 then some (bi (x ≤ y))
  else if k = 10015 then some (bi (x = y)) else if k = 10016 then some (bi (x ≠ y)) else if k = 10017 then some (bi (y ≤ x)) else if k = 10018 then some (bi (y < x))
  else if k = 10019 then wi (x + y) else if k = 10020 then wi (x - y) else if k = 10021 then wi (x * y) else if y = 0 then none else some (x.tdiv y)
/-- one knot -/
def sk (N : Nat → Int) (k : Int) (st : List Int) : Option (List Int) :=
  if k < 10000 then some (k :: st) else if k < 10010 then some (N (k - 10000).toNat :: st)
  else match st with
    | [] => none
    | y :: st' => if k = 10012 then some (bi (y = 0) :: st') else match st' with
      | [] => none
      | x :: st'' => (jnv k x y).map (fun v => v :: st'')
def evl (C : Nat → Int) (N : Nat → Int) : Nat → Nat → List Int → Option (List Int)
  | _, 0, st => some st
  | i, n + 1, st => (sk N (C i) st).bind (evl C N (i + 1) n)
/-- how deep it lies behind a knot -/
def wd (k : Int) (d : Nat) : Option Nat :=
  if 0 ≤ k ∧ (k < 10000 ∨ (10000 ≤ k ∧ k < 10008)) then some (d + 1) else if k = 10012 ∧ 1 ≤ d then some d
  else if 10010 ≤ k ∧ k ≤ 10022 ∧ k ≠ 10012 ∧ 2 ≤ d then some (d - 1) else none
def wfc (C : Nat → Int) : Nat → Nat → Nat → Option Nat
  | _, 0, d => some d
  | i, n + 1, d => (wd (C i) d).bind (wfc C (i + 1) n)
def bdd (st : List Int) : Prop := ∀ x ∈ st, -1000000000000 ≤ x ∧ x ≤ 1000000000000
theorem bdd_h {x : Int} {st : List Int} (h : bdd (x :: st)) : -1000000000000 ≤ x ∧ x ≤ 1000000000000 := h x List.mem_cons_self
theorem bdd_t {x : Int} {st : List Int} (h : bdd (x :: st)) : bdd st := fun y hy => h y (List.mem_cons_of_mem _ hy)
theorem bdd_c {x : Int} {st : List Int} (h1 : -1000000000000 ≤ x ∧ x ≤ 1000000000000) (h : bdd st) : bdd (x :: st) := fun y hy => by
  rcases List.mem_cons.mp hy with e | e
  · exact e ▸ h1
  · exact h y e
def onst (M : Mem) (r : Nat) : List Int → Prop
  | [] => True
  | x :: st => M r st.length = x ∧ onst M r st
theorem onst_set {M : Mem} {r j : Nat} {v : Int} : ∀ {st : List Int}, onst M r st → st.length ≤ j → onst (mset M r j v) r st
  | [], _, _ => trivial
  | x :: st, h, hj => ⟨by rw [mset_j (by simp at hj; omega)]; exact h.1, onst_set h.2 (by simp at hj; omega)⟩
theorem onst_fr {M M' : Mem} {r : Nat} (e : M' r = M r) : ∀ {st : List Int}, onst M r st → onst M' r st
  | [], _ => trivial
  | x :: st, h => ⟨by rw [e]; exact h.1, onst_fr e h.2⟩
theorem bi_bd (p : Prop) [Decidable p] : -1000000000000 ≤ bi p ∧ bi p ≤ 1000000000000 := by unfold bi; split <;> omega
theorem wi_bd {z v : Int} (h : wi z = some v) : v = z ∧ -1000000000000 ≤ v ∧ v ≤ 1000000000000 := by
  unfold wi at h
  split at h
  · cases h; exact ⟨rfl, by assumption⟩
  · cases h
theorem tdiv_bd {x y : Int} (hx : -1000000000000 ≤ x ∧ x ≤ 1000000000000) : -1000000000000 ≤ x.tdiv y ∧ x.tdiv y ≤ 1000000000000 := by
  have h1 : (x.tdiv y).natAbs = x.natAbs / y.natAbs := Int.natAbs_tdiv x y
  have h2 : x.natAbs / y.natAbs ≤ x.natAbs := Nat.div_le_self _ _
  omega
theorem jnv_bd {k x y v : Int} (hx : -1000000000000 ≤ x ∧ x ≤ 1000000000000) (h : jnv k x y = some v) : -1000000000000 ≤ v ∧ v ≤ 1000000000000 := by
  unfold jnv at h
  repeat' split at h
  all_goals first | (cases h; exact bi_bd _) | exact (wi_bd h).2 | (cases h; done) | (cases h; exact tdiv_bd hx)
theorem sk_bd {N : Nat → Int} {k : Int} {st st' : List Int} (hN : ∀ i, i < 8 → -1000000000000 ≤ N i ∧ N i ≤ 1000000000000) {d d' : Nat} (hw : wd k d = some d') (hb : bdd st) (h : sk N k st = some st') : bdd st' := by
  unfold sk at h
  unfold wd at hw
  split at h
  · cases h
    refine bdd_c ?_ hb
    split at hw
    · omega
    · split at hw
      · omega
      · split at hw
        · omega
        · cases hw
  · split at h
    · cases h
      refine bdd_c (hN _ ?_) hb
      split at hw
      · omega
      · split at hw
        · omega
        · split at hw
          · omega
          · cases hw
    · split at h
      · cases h
      · split at h
        · cases h; exact bdd_c (bi_bd _) (bdd_t hb)
        · split at h
          · cases h
          · rename_i x st''
            cases hj : jnv k x _ with
            | none => rw [hj] at h; cases h
            | some v =>
              rw [hj] at h; cases h
              exact bdd_c (jnv_bd (bdd_h (bdd_t hb)) hj) (bdd_t (bdd_t hb))
theorem sk_len {N : Nat → Int} {k : Int} {st st' : List Int} {d' : Nat} (hw : wd k st.length = some d') (h : sk N k st = some st') : st'.length = d' := by
  unfold sk at h
  unfold wd at hw
  split at hw
  · cases hw
    split at h
    · cases h; rfl
    · split at h
      · cases h; rfl
      · omega
  · split at hw
    · rename_i h1 h2
      cases hw
      rw [if_neg (by omega), if_neg (by omega)] at h
      split at h
      · cases h
      · rw [if_pos h2.1] at h; cases h; rfl
    · split at hw
      · rename_i h1 h2 h3
        cases hw
        rw [if_neg (by omega), if_neg (by omega)] at h
        split at h
        · cases h
        · rw [if_neg (by omega)] at h
          split at h
          · cases h
          · rename_i x st''
            cases hj : jnv k x _ with
            | none => rw [hj] at h; cases h
            | some v => rw [hj] at h; cases h; simp
      · cases hw
/-- the product is within the limit -/
theorem prod_lim {x y : Int} (hx : -1000000000000 ≤ x ∧ x ≤ 1000000000000) (hy : -1000000000000 ≤ y ∧ y ≤ 1000000000000) (h0 : y ≠ 0) : ((x.natAbs : Int) ≤ Int.tdiv 1000000000000 (y.natAbs : Int)) ↔ (-1000000000000 ≤ x * y ∧ x * y ≤ 1000000000000) := by
  have hp : 0 < (y.natAbs : Int) := by omega
  rw [Int.tdiv_eq_ediv_of_nonneg (by omega), Int.le_ediv_iff_mul_le hp]
  have h1 : ((x * y).natAbs : Int) = (x.natAbs : Int) * (y.natAbs : Int) := by rw [Int.natAbs_mul]; norm_cast
  rw [← h1]
  omega
theorem habs (x : Int) (hx : -1000000000000 ≤ x ∧ x ≤ 1000000000000) : (if 0 < x then x else w64 (-x)) = (x.natAbs : Int) := by
  split
  · omega
  · rw [w64_id (by omega) (by omega)]; omega
theorem s_within {x : Int} {M : Mem} {P : Int → Mem → Prop} (h : P (match wi x with | some v => v | none => -9223372036854775808) M) : CL m3_within 1 [(1, x)] M P := by
  apply q_3_within
  unfold wi at h
  refine ⟨fun q => ?_, fun q => ⟨fun q2 => ?_, fun q2 => ?_⟩⟩
  · rwa [if_neg (by omega)] at h
  · rwa [if_pos ⟨q2, q⟩] at h
  · rwa [if_neg (by omega)] at h
theorem mul_small {x y : Int} (hx : -1000000000000 ≤ x ∧ x ≤ 1000000000000) (hy : -1000000000000 ≤ y ∧ y ≤ 1000000000000) (h : -1000000000000 ≤ x * y ∧ x * y ≤ 1000000000000) : w64 (x * y) = x * y := w64_id (by omega) (by omega)
theorem s_product {x y : Int} {M : Mem} {P : Int → Mem → Prop} (hx : -1000000000000 ≤ x ∧ x ≤ 1000000000000) (hy : -1000000000000 ≤ y ∧ y ≤ 1000000000000) (h : P (match wi (x * y) with | some v => v | none => -9223372036854775808) M) : CL m3_product 2 [(1, x), (1, y)] M P := by
  apply q_3_product
  rw [habs x hx, habs y hy]
  unfold wi at h
  refine ⟨fun q => ?_, fun q => ⟨q, fun q2 => ?_, fun q2 => ?_⟩⟩
  · have : y = 0 := by omega
    subst this
    rw [Int.mul_zero] at h ⊢
    exact h
  · rw [w64_id (by have := tdiv_bd (y := (y.natAbs : Int)) (x := 1000000000000) (by omega); omega) (by have := tdiv_bd (y := (y.natAbs : Int)) (x := 1000000000000) (by omega); omega)] at q2
    have := (prod_lim hx hy (by omega)).mp q2
    rw [if_pos this] at h
    rw [mul_small hx hy this]; exact h
  · rw [w64_id (by have := tdiv_bd (y := (y.natAbs : Int)) (x := 1000000000000) (by omega); omega) (by have := tdiv_bd (y := (y.natAbs : Int)) (x := 1000000000000) (by omega); omega)] at q2
    rw [if_neg (fun z => by have := (prod_lim hx hy (by omega)).mpr z; omega)] at h
    exact h
theorem s_joined {k x y : Int} {M : Mem} {P : Int → Mem → Prop} (hk : 10010 ≤ k ∧ k ≤ 10022 ∧ k ≠ 10012) (hx : -1000000000000 ≤ x ∧ x ≤ 1000000000000) (hy : -1000000000000 ≤ y ∧ y ≤ 1000000000000) (h : P (match jnv k x y with | some v => v | none => -9223372036854775808) M) : CL m3_joined 3 [(0, k), (1, x), (1, y)] M P := by
  apply q_3_joined
  refine ⟨fun e => ?_, fun e => ?_, fun e => ?_, fun e => ?_, fun e => ?_, fun e => ?_, fun e => ?_, fun e => ?_, fun e => ?_, fun e => ?_, fun e => ?_, fun e => ?_, fun e => ?_, fun e => ?_⟩
  · subst e
    rw [show jnv 10010 x y = some (bi (x ≠ 0 ∨ y ≠ 0)) from rfl] at h
    exact ⟨fun q => by rwa [bi_t (Or.inl q)] at h, fun q => ⟨fun q2 => by rwa [bi_f (by omega)] at h, fun q2 => by rwa [bi_t (Or.inr q2)] at h⟩⟩
  · subst e
    rw [show jnv 10011 x y = some (bi (x ≠ 0 ∧ y ≠ 0)) from rfl] at h
    exact ⟨fun q => by rwa [bi_f (by omega)] at h, fun q => ⟨fun q2 => by rwa [bi_f (by omega)] at h, fun q2 => by rwa [bi_t ⟨q, q2⟩] at h⟩⟩
  · omega
  · subst e
    rw [show jnv 10013 x y = some (bi (x < y)) from rfl] at h
    exact ⟨fun q => by rwa [bi_f (by omega)] at h, fun q => by rwa [bi_t q] at h⟩
  · subst e
    rw [show jnv 10014 x y = some (bi (x ≤ y)) from rfl] at h
    exact ⟨fun q => by rwa [bi_f (by omega)] at h, fun q => by rwa [bi_t q] at h⟩
  · subst e
    rw [show jnv 10015 x y = some (bi (x = y)) from rfl] at h
    exact ⟨fun q => by rwa [bi_f q] at h, fun q => by rwa [bi_t q] at h⟩
  · subst e
    rw [show jnv 10016 x y = some (bi (x ≠ y)) from rfl] at h
    exact ⟨fun q => by rwa [bi_f (by omega)] at h, fun q => by rwa [bi_t q] at h⟩
  · subst e
    rw [show jnv 10017 x y = some (bi (y ≤ x)) from rfl] at h
    exact ⟨fun q => by rwa [bi_f (by omega)] at h, fun q => by rwa [bi_t q] at h⟩
  · subst e
    rw [show jnv 10018 x y = some (bi (y < x)) from rfl] at h
    exact ⟨fun q => by rwa [bi_f (by omega)] at h, fun q => by rwa [bi_t q] at h⟩
  · subst e
    rw [w64_id (by omega) (by omega)]
    exact s_within h
  · subst e
    rw [w64_id (by omega) (by omega)]
    exact s_within h
  · subst e
    exact s_product hx hy h
  · subst e
    rw [show jnv 10022 x y = if y = 0 then none else some (x.tdiv y) from rfl] at h
    refine ⟨fun q => ⟨q, ?_⟩, fun q => ?_⟩
    · rw [if_neg q] at h
      have := tdiv_bd (y := y) hx
      rwa [w64_id (by omega) (by omega)]
    · rwa [if_pos q] at h
  · omega
