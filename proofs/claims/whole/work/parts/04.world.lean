/-! THE WORLD: all cells of the class and of the reference, one memory of whole numbers (cell, place) -/
abbrev AV : Type := Nat × Int
abbrev Mem : Type := Nat → Nat → Int
def mset (M : Mem) (k j : Nat) (v : Int) : Mem := fun k' j' => if k' = k ∧ j' = j then v else M k' j'
theorem mset_s {M : Mem} {k j : Nat} {v : Int} : mset M k j v k j = v := by simp [mset]
theorem mset_k {M : Mem} {k j k' j' : Nat} {v : Int} (h : k' ≠ k) : mset M k j v k' j' = M k' j' := by simp [mset, h]
theorem mset_j {M : Mem} {k j k' j' : Nat} {v : Int} (h : j' ≠ j) : mset M k j v k' j' = M k' j' := by simp [mset, h]
/-- a value of the stack or of a local: its kind (0 int, 1 long, 2 not known, else a cell of that kind) and its number -/
def tv (ad : Nat → Nat) (v : AV) : Value := if v.1 = 0 then .int (Int32.ofInt v.2) else if v.1 = 1 then .long (Int64.ofInt v.2) else .ref (ad v.2.toNat)
theorem tv_0 (ad : Nat → Nat) (x : Int) : tv ad (0, x) = .int (Int32.ofInt x) := rfl
theorem tv_1 (ad : Nat → Nat) (x : Int) : tv ad (1, x) = .long (Int64.ofInt x) := rfl
theorem tv_r (ad : Nat → Nat) {t : Nat} {x : Int} (h : 2 ≤ t) : tv ad (t, x) = .ref (ad x.toNat) := by
  unfold tv; rw [if_neg (by simp; omega), if_neg (by simp; omega)]
def vok (v : AV) : Prop := if v.1 = 0 then in32 v.2 else if v.1 = 1 then in64 v.2 else 5 ≤ v.1 ∧ 0 ≤ v.2 ∧ v.2 < 100 ∧ kd v.2.toNat = v.1
theorem vok_0 {x : Int} : vok (0, x) ↔ in32 x := by simp [vok]
theorem vok_1 {x : Int} : vok (1, x) ↔ in64 x := by simp [vok]
theorem vok_r {t : Nat} {x : Int} (h : 2 ≤ t) : vok (t, x) ↔ (5 ≤ t ∧ 0 ≤ x ∧ x < 100 ∧ kd x.toNat = t) := by
  unfold vok; rw [if_neg (by simp; omega), if_neg (by simp; omega)]
def lok (v : AV) : Prop := v.1 = 2 ∨ vok v
abbrev CS : Type := ClassId × ClassId × ClassId
def flds (ad : Nat → Nat) (M : Mem) (k : Nat) : List Value := (FT.getD (kd k - 10) []).map (fun f => if f.1 = 0 ∨ f.1 = 3 then .int (Int32.ofInt (M k f.2.toNat)) else .ref (ad ((k : Int) + f.2).toNat))
def ent (ad : Nat → Nat) (cs : CS) (M : Mem) (k : Nat) : va_E :=
  if kd k = 30 then .inl (cs.1, (aln k, .inl (fun j => Int32.ofInt (M k j))))
  else if kd k = 31 then .inl (cs.2.2, (aln k, .inl (fun j => Int32.ofInt (M k j))))
  else if kd k = 32 then .inl (cs.2.1, (aln k, .inr (.inl (fun j => Int64.ofInt (M k j)))))
  else .inr (kd k - 10, flds ad M k)
def wl (ad : Nat → Nat) (cs : CS) (M : Mem) : va_W := (List.range NW).map (fun k => (ad k, ent ad cs M k))
theorem wl_get {ad : Nat → Nat} {cs : CS} {M : Mem} {k : Nat} (h : k < NW) : (wl ad cs M)[k]? = some (ad k, ent ad cs M k) := by
  unfold wl; rw [List.getElem?_map, List.getElem?_range h]; rfl
theorem wl_some {ad : Nat → Nat} {cs : CS} {M : Mem} {k : Nat} {q : Nat × va_E} (h : (wl ad cs M)[k]? = some q) : k < NW ∧ q = (ad k, ent ad cs M k) := by
  have hk : k < NW := by
    have := (List.getElem?_eq_some_iff.mp h).1
    unfold wl at this; simpa using this
  rw [wl_get hk] at h
  exact ⟨hk, (Option.some.inj h).symm⟩
theorem ent_congr {ad : Nat → Nat} {cs : CS} {M M' : Mem} {k : Nat} (h : ∀ j, M' k j = M k j) : ent ad cs M' k = ent ad cs M k := by
  have : M' k = M k := funext h
  simp only [ent, flds, this]
theorem wl_put {ad : Nat → Nat} {cs : CS} {M M' : Mem} {k : Nat} {e : va_E} (hk : k < NW) (he : e = ent ad cs M' k) (ho : ∀ k', k' ≠ k → ∀ j, M' k' j = M k' j) : (wl ad cs M).set k (ad k, e) = wl ad cs M' := by
  apply List.ext_getElem?
  intro i
  by_cases hi : i = k
  · subst hi
    rw [List.getElem?_set_self (by unfold wl; simpa using hk), wl_get hk, he]
  · rw [List.getElem?_set_ne (Ne.symm hi)]
    by_cases h : i < NW
    · rw [wl_get h, wl_get h, ent_congr (fun j => ho i hi j)]
    · rw [List.getElem?_eq_none (by unfold wl; simp; omega), List.getElem?_eq_none (by unfold wl; simp; omega)]
theorem ent_30 {ad : Nat → Nat} {cs : CS} {M : Mem} {k : Nat} (h : kd k = 30) : ent ad cs M k = .inl (cs.1, (aln k, .inl (fun j => Int32.ofInt (M k j)))) := by simp [ent, h]
theorem ent_31 {ad : Nat → Nat} {cs : CS} {M : Mem} {k : Nat} (h : kd k = 31) : ent ad cs M k = .inl (cs.2.2, (aln k, .inl (fun j => Int32.ofInt (M k j)))) := by simp [ent, h]
theorem ent_32 {ad : Nat → Nat} {cs : CS} {M : Mem} {k : Nat} (h : kd k = 32) : ent ad cs M k = .inl (cs.2.1, (aln k, .inr (.inl (fun j => Int64.ofInt (M k j))))) := by simp [ent, h]
theorem ent_o {ad : Nat → Nat} {cs : CS} {M : Mem} {k t : Nat} (h : kd k = t) (ht : t < 30) : ent ad cs M k = .inr (t - 10, flds ad M k) := by
  unfold ent; rw [if_neg (by omega), if_neg (by omega), if_neg (by omega), h]
theorem kd_out {k : Nat} (h : 100 ≤ k) : kd k = 0 := by
  unfold kd; rw [List.getD_eq_getElem?_getD, List.getElem?_eq_none (by simp [KL]; omega)]; rfl
theorem kd_nw_all : ∀ k, k < 100 → (kd k ≠ 33 ∧ kd k ≠ 34 ∧ kd k ≠ 5) → k < NW := by decide +kernel
theorem kd_nw {k t : Nat} (h : kd k = t) (h0 : t ≠ 0) (h1 : t ≠ 33) (h2 : t ≠ 34) (h3 : t ≠ 5) : k < NW := by
  by_cases hk : k < 100
  · exact kd_nw_all k hk ⟨by omega, by omega, by omega⟩
  · rw [kd_out (by omega)] at h; omega
theorem aln_all : ∀ k, k < 100 → aln k < 20000 := by decide +kernel
theorem aln_lt (k : Nat) : aln k < 20000 := by
  by_cases hk : k < 100
  · exact aln_all k hk
  · unfold aln; rw [List.getD_eq_getElem?_getD, List.getElem?_eq_none (by simp [AL]; omega)]; decide
/-- numbers in their ranges; what lies behind NW never changes -/
def MR (SM M : Mem) : Prop := (∀ k j, in64 (M k j)) ∧ (∀ k j, kd k ≠ 32 → in32 (M k j)) ∧ ∀ k, NW ≤ k → M k = SM k
theorem MR.set {SM M : Mem} (h : MR SM M) {k j : Nat} {v : Int} (hk : k < NW) (h64 : in64 v) (h32 : kd k ≠ 32 → in32 v) : MR SM (mset M k j v) := by
  refine ⟨fun k' j' => ?_, fun k' j' hk' => ?_, fun k' hk' => ?_⟩
  · unfold mset; split
    · exact h64
    · exact h.1 k' j'
  · unfold mset; split
    · rename_i e; exact h32 (e.1 ▸ hk')
    · exact h.2.1 k' j' hk'
  · rw [← h.2.2 k' hk']; funext j'; exact mset_k (by omega)
theorem in32_64 {x : Int} (h : in32 x) : in64 x := by unfold in32 at h; unfold in64; omega
/-- the locals -/
def lav (ad : Nat → Nat) : Nat → List AV → List (Nat × Value)
  | _, [] => []
  | i, v :: l => if v.1 = 2 then lav ad (i + 1) l else (i, tv ad v) :: lav ad (i + 1) l
theorem lav_mem {ad : Nat → Nat} : ∀ (l : List AV) (i : Nat) (q : Nat × Value), q ∈ lav ad i l ↔ ∃ j v, l[j]? = some v ∧ v.1 ≠ 2 ∧ q = (i + j, tv ad v)
  | [], i, q => by simp [lav]
  | v :: l, i, q => by
    have ih := lav_mem (ad := ad) l (i + 1) q
    constructor
    · intro h
      unfold lav at h
      split at h
      · obtain ⟨j, w, h1, h2, h3⟩ := ih.mp h
        exact ⟨j + 1, w, by simpa using h1, h2, by rw [h3]; congr 1; omega⟩
      · rcases List.mem_cons.mp h with h | h
        · exact ⟨0, v, rfl, by assumption, by simpa using h⟩
        · obtain ⟨j, w, h1, h2, h3⟩ := ih.mp h
          exact ⟨j + 1, w, by simpa using h1, h2, by rw [h3]; congr 1; omega⟩
    · rintro ⟨j, w, h1, h2, h3⟩
      unfold lav
      cases j with
      | zero =>
        simp at h1; subst h1
        rw [if_neg h2, h3]; simp
      | succ j =>
        have : q ∈ lav ad (i + 1) l := ih.mpr ⟨j, w, by simpa using h1, h2, by rw [h3]; congr 1; omega⟩
        split
        · exact this
        · exact List.mem_cons_of_mem _ this
theorem lv_mono {ls : Array Slot} {nL : Nat} {l l' : List (Nat × Value)} (h : lv_has ls nL l) (hm : ∀ q ∈ l', q ∈ l) : lv_has ls nL l' := ⟨h.1, h.2.1, fun q hq => h.2.2 q (hm q hq)⟩
theorem lav_at {ad : Nat → Nat} {jl : Array Slot} {nL : Nat} {ls : List AV} (h : lv_has jl nL (lav ad 0 ls)) {i : Nat} {v : AV} (hi : ls[i]? = some v) (h2 : v.1 ≠ 2) : jl[i]? = some (.val (tv ad v)) :=
  h.2.2 (i, tv ad v) ((lav_mem ls 0 _).mpr ⟨i, v, hi, h2, by simp⟩)
theorem tv_cat (ad : Nat → Nat) (v : AV) : (tv ad v).category = if v.1 = 1 then 2 else 1 := by
  unfold tv
  by_cases h0 : v.1 = 0
  · rw [if_pos h0, if_neg (by omega)]; rfl
  · by_cases h1 : v.1 = 1
    · rw [if_neg h0, if_pos h1, if_pos h1]; rfl
    · rw [if_neg h0, if_neg h1, if_neg h1]; rfl
/-- a store into a local of one word -/
theorem lav_st1 {ad : Nat → Nat} {ls : List AV} {i : Nat} {v : AV} (hv : v.1 ≠ 1) (hp : ∀ w, i ≠ 0 → ls[i - 1]? = some w → w.1 ≠ 1) :
    ∀ q ∈ lav ad 0 (ls.set i v), q ∈ (i, tv ad v) :: (lav ad 0 ls).filter (fun q => !(q.1 == i) && !(q.1 + 1 == i && q.2.category == 2)) := by
  intro q hq
  obtain ⟨j, w, h1, h2, h3⟩ := (lav_mem _ 0 q).mp hq
  rw [Nat.zero_add] at h3
  by_cases hj : j = i
  · subst hj
    have : w = v := by
      rw [List.getElem?_set] at h1
      simp at h1
      exact h1.2.symm
    subst this; rw [h3]; exact List.mem_cons_self
  · rw [List.getElem?_set_ne (Ne.symm hj)] at h1
    refine List.mem_cons_of_mem _ (List.mem_filter.mpr ⟨(lav_mem _ 0 q).mpr ⟨j, w, h1, h2, by rw [h3, Nat.zero_add]⟩, ?_⟩)
    rw [h3]
    simp only [tv_cat]
    by_cases hj1 : j + 1 = i
    · have : w.1 ≠ 1 := hp w (by omega) (by rw [← hj1]; exact h1)
      simp [hj, this]
    · simp [hj, hj1]
/-- a store into a local of two words -/
theorem lav_st2 {ad : Nat → Nat} {ls : List AV} {i : Nat} {v : AV} {y : Int} (hp : ∀ w, i ≠ 0 → ls[i - 1]? = some w → w.1 ≠ 1) :
    ∀ q ∈ lav ad 0 ((ls.set i v).set (i + 1) (2, y)), q ∈ (i, tv ad v) :: (lav ad 0 ls).filter (fun q => !(q.1 == i) && (!(q.1 == i + 1) && !(q.1 + 1 == i && q.2.category == 2))) := by
  intro q hq
  obtain ⟨j, w, h1, h2, h3⟩ := (lav_mem _ 0 q).mp hq
  rw [Nat.zero_add] at h3
  by_cases hj2 : j = i + 1
  · subst hj2
    rw [List.getElem?_set] at h1
    simp at h1
    exact absurd (by rw [← h1.2]) h2
  rw [List.getElem?_set_ne (Ne.symm hj2)] at h1
  by_cases hj : j = i
  · subst hj
    have : w = v := by
      rw [List.getElem?_set] at h1
      simp at h1
      exact h1.2.symm
    subst this; rw [h3]; exact List.mem_cons_self
  · rw [List.getElem?_set_ne (Ne.symm hj)] at h1
    refine List.mem_cons_of_mem _ (List.mem_filter.mpr ⟨(lav_mem _ 0 q).mpr ⟨j, w, h1, h2, by rw [h3, Nat.zero_add]⟩, ?_⟩)
    rw [h3]
    simp only [tv_cat]
    by_cases hj1 : j + 1 = i
    · have : w.1 ≠ 1 := hp w (by omega) (by rw [← hj1]; exact h1)
      simp [hj, hj2, this]
    · simp [hj, hj2, hj1]
/-- forgetting locals -/
def lsub (l l' : List AV) : Prop := ∀ (j : Nat) (v : AV), l'[j]? = some v → v.1 ≠ 2 → l[j]? = some v
theorem lav_sub {ad : Nat → Nat} {l l' : List AV} (h : lsub l l') : ∀ q ∈ lav ad 0 l', q ∈ lav ad 0 l := by
  intro q hq
  obtain ⟨j, w, h1, h2, h3⟩ := (lav_mem _ 0 q).mp hq
  exact (lav_mem _ 0 q).mpr ⟨j, w, h j w h1 h2, h2, h3⟩
