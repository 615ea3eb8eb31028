/-! the start: what the Statement gives, as the walk wants it (made by wip/whole/gstart.py) -/
def shL : List Nat := [0, 18, 16, 14, 12, 18, 0, 10, 8, 6, 16, 10, 0, 4, 2, 14, 8, 4, 0, 0, 12, 6, 2, 0, 0]
/-- the memory behind the constructors -/
def M0 (S : Nat → Int) : Mem := fun k j => match k with
  | 2 => if j = 4 then -1 else 0
  | 3 => if j < 18 then (lgw.getD j 0 : Int) else 0
  | 43 => if j = 6 then -1 else 0
  | 49 => if j = 2 then -1 else 0
  | 59 => if j = 26 then -1 else if j = 47 then -1 else 0
  | 94 => (onT j : Int)
  | 95 => (otT j : Int)
  | 96 => (shL.getD j 0 : Int)
  | 97 => S j
  | _ => 0
def scS (L : Nat) (xs : Nat → Int32) : Nat → Int := fun j => if j = 4000 then (L : Int) else (xs j).toInt
theorem getD_bd {l : List Nat} {b : Nat} (h : ∀ x ∈ l, x ≤ b) (j : Nat) : l.getD j 0 ≤ b := by
  rw [List.getD_eq_getElem?_getD]
  cases e : l[j]? with
  | none => exact Nat.zero_le _
  | some x => exact h x (List.mem_of_getElem? e)
theorem M0_in {S : Nat → Int} (hS : ∀ j, in32 (S j)) (k j : Nat) : in32 (M0 S k j) := by
  unfold M0
  have b1 := getD_bd (l := lgw) (b := 680956928) (by decide) j
  have b2 := getD_bd (l := shL) (b := 18) (by decide) j
  have b3 : onT j ≤ 3 := getD_bd (by decide) j
  have b4 : otT j ≤ 4 := getD_bd (by decide) j
  split
  · split <;> (unfold in32; omega)
  · split <;> (unfold in32; omega)
  · split <;> (unfold in32; omega)
  · split <;> (unfold in32; omega)
  · split
    · unfold in32; omega
    · split <;> (unfold in32; omega)
  · unfold in32; omega
  · unfold in32; omega
  · unfold in32; omega
  · exact hS j
  · unfold in32; omega
theorem scS_in {L : Nat} {xs : Nat → Int32} (hL : L ≤ 3072) (j : Nat) : in32 (scS L xs j) := by
  unfold scS
  split
  · unfold in32; omega
  · exact toI_in _
theorem M0_MR {S : Nat → Int} (hS : ∀ j, in32 (S j)) : MR (M0 S) (M0 S) := ⟨fun k j => in32_64 (M0_in hS k j), fun k j _ => M0_in hS k j, fun _ _ => rfl⟩
theorem M0_INV {S : Nat → Int} : INV (M0 S) := by
  refine ⟨⟨fun _ => 0, 0, ⟨rfl, Nat.zero_le _, fun j hj => absurd hj (Nat.not_lt_zero j), fun j hj => absurd hj (Nat.not_lt_zero j)⟩, rfl, fun j hj => absurd hj (Nat.not_lt_zero j)⟩, ⟨rfl, rfl⟩, ⟨fun w hw => if_pos hw, fun d _ => rfl, fun d _ => rfl, fun a b ha hb hne => ?_⟩, 0, 0, 0, 0, fun _ _ => 0, fun _ => 0, M0 S 26, fun _ => 0, fun _ => 0, ⟨rfl, rfl, ⟨Or.inr rfl, by decide, rfl, rfl, fun j hj => absurd hj (Nat.not_lt_zero j), fun j hj => absurd hj (Nat.not_lt_zero j), fun j hj => absurd hj (Nat.not_lt_zero j)⟩, fun j hj => absurd hj (Nat.not_lt_zero j), rfl, fun i hi => absurd hi (Nat.not_lt_zero i)⟩, ⟨rfl, rfl, ⟨by decide, rfl, fun j hj => absurd hj (Nat.not_lt_zero j), fun j hj => absurd hj (Nat.not_lt_zero j), fun j hj => absurd hj (Nat.not_lt_zero j), fun j hj => absurd hj (Nat.not_lt_zero j)⟩, fun j hj => absurd hj (Nat.not_lt_zero j), rfl, fun i hi => absurd hi (Nat.not_lt_zero i)⟩, SF_told L0_wf, ⟨fun j hj => absurd hj (Nat.not_lt_zero j), fun j hj => absurd hj (Nat.not_lt_zero j)⟩, ⟨0, rfl, rfl⟩, ⟨false, ⟨rfl, fun q => nomatch q⟩, fun _ => rfl, fun q => nomatch q⟩, ⟨0, -1, fun _ _ => 0, ⟨rfl, rfl, fun i hi => absurd hi (Nat.not_lt_zero i)⟩, ⟨rfl, rfl, fun i hi => absurd hi (Nat.not_lt_zero i)⟩, ⟨Nat.zero_le _, by decide, fun i hi => absurd hi (Nat.not_lt_zero i)⟩, ⟨fun q hq => ?_, fun q => absurd rfl q⟩⟩, ⟨0, 0, 0, fun _ _ => 0, ⟨rfl, fun q => absurd rfl q⟩, ⟨rfl, fun q => absurd rfl q⟩, fun q => absurd rfl q⟩⟩
  · have h : ∀ a, a < 5 → ∀ b, b < 5 → a ≠ b → shL.getD (5 * a + b) 0 = 2 * (9 - pix (min a b) (max a b)) := by decide
    show ((shL.getD (5 * a + b) 0 : Nat) : Int) = _
    rw [h a ha b hb hne]
  · have h : (-1 : Int) = (q : Int) := hq
    omega

set_option maxRecDepth 100000 in
theorem st_ONES {s : State} {b : Nat} (hts : ∀ w ∈ lw_tbl, w.before #[Value.ref b] s = true) (hs : ∀ w ∈ flatC (Jvm.Cond.and given_1 narrow_1), w.before #[Value.ref b] s = true) : ∃ t : Nat, va_Z RX6 "ONES" "[I" (.ref t) (fun q => s.heap.size ≤ q) s s.heap ∧ va_T .int t 10 (fun j => .int (Int32.ofInt (onT j : Int))) (fun q => s.heap.size ≤ q) s s.heap := by
  have hA : ∀ a : Nat, a < s.heap.size → ¬ (fun q : Nat => s.heap.size ≤ q) a := fun a h => Nat.not_le.mpr h
  obtain ⟨t, ht, hT⟩ := va_Tof (tm := .static "CourtTongue$Orders" "ONES" "[I") (ty := .int) (N := 10) (f := fun j => .int (Int32.ofInt (onT j : Int))) (A := fun q => s.heap.size ≤ q) (by decide) (hs (.arrayOf (.static "CourtTongue$Orders" "ONES" "[I") .int) (by decide +kernel)) (va_eqt (hs (.eq (.length (.static "CourtTongue$Orders" "ONES" "[I")) (.int 10)) (by decide +kernel))) (fun j hj => va_eqt (hs (.eq (.elem (.static "CourtTongue$Orders" "ONES" "[I") (.int (Int32.ofNat j))) (.int (Int32.ofInt (onT j : Int)))) (by
    have h : ∀ j, j < 10 → Cond.eq (.elem (.static "CourtTongue$Orders" "ONES" "[I") (.int (Int32.ofNat j))) (.int (Int32.ofInt (onT j : Int))) ∈ flatC (Jvm.Cond.and given_1 narrow_1) := by decide +kernel
    exact h j hj))) hA
  exact ⟨t, va_Zof (hts (.laysStatic "CourtTongue$Orders" "ONES" "[I") (List.mem_of_getElem? (i := 1119) (by decide +kernel))) (hts (.initialized "CourtTongue$Orders") (List.mem_of_getElem? (i := 130) (by decide +kernel))) ht hA, hT⟩
set_option maxRecDepth 100000 in
theorem st_OTHERS {s : State} {b : Nat} (hts : ∀ w ∈ lw_tbl, w.before #[Value.ref b] s = true) (hs : ∀ w ∈ flatC (Jvm.Cond.and given_1 narrow_1), w.before #[Value.ref b] s = true) : ∃ t : Nat, va_Z RX6 "OTHERS" "[I" (.ref t) (fun q => s.heap.size ≤ q) s s.heap ∧ va_T .int t 10 (fun j => .int (Int32.ofInt (otT j : Int))) (fun q => s.heap.size ≤ q) s s.heap := by
  have hA : ∀ a : Nat, a < s.heap.size → ¬ (fun q : Nat => s.heap.size ≤ q) a := fun a h => Nat.not_le.mpr h
  obtain ⟨t, ht, hT⟩ := va_Tof (tm := .static "CourtTongue$Orders" "OTHERS" "[I") (ty := .int) (N := 10) (f := fun j => .int (Int32.ofInt (otT j : Int))) (A := fun q => s.heap.size ≤ q) (by decide) (hs (.arrayOf (.static "CourtTongue$Orders" "OTHERS" "[I") .int) (by decide +kernel)) (va_eqt (hs (.eq (.length (.static "CourtTongue$Orders" "OTHERS" "[I")) (.int 10)) (by decide +kernel))) (fun j hj => va_eqt (hs (.eq (.elem (.static "CourtTongue$Orders" "OTHERS" "[I") (.int (Int32.ofNat j))) (.int (Int32.ofInt (otT j : Int)))) (by
    have h : ∀ j, j < 10 → Cond.eq (.elem (.static "CourtTongue$Orders" "OTHERS" "[I") (.int (Int32.ofNat j))) (.int (Int32.ofInt (otT j : Int))) ∈ flatC (Jvm.Cond.and given_1 narrow_1) := by decide +kernel
    exact h j hj))) hA
  exact ⟨t, va_Zof (hts (.laysStatic "CourtTongue$Orders" "OTHERS" "[I") (List.mem_of_getElem? (i := 1113) (by decide +kernel))) (hts (.initialized "CourtTongue$Orders") (List.mem_of_getElem? (i := 130) (by decide +kernel))) ht hA, hT⟩
set_option maxRecDepth 100000 in
theorem st_SHIFTS {s : State} {b : Nat} (hts : ∀ w ∈ lw_tbl, w.before #[Value.ref b] s = true) (hs : ∀ w ∈ flatC (Jvm.Cond.and given_1 narrow_1), w.before #[Value.ref b] s = true) : ∃ t : Nat, va_Z RX6 "SHIFTS" "[I" (.ref t) (fun q => s.heap.size ≤ q) s s.heap ∧ va_T .int t 25 (fun j => .int (Int32.ofInt (shL.getD j 0 : Int))) (fun q => s.heap.size ≤ q) s s.heap := by
  have hA : ∀ a : Nat, a < s.heap.size → ¬ (fun q : Nat => s.heap.size ≤ q) a := fun a h => Nat.not_le.mpr h
  obtain ⟨t, ht, hT⟩ := va_Tof (tm := .static "CourtTongue$Orders" "SHIFTS" "[I") (ty := .int) (N := 25) (f := fun j => .int (Int32.ofInt (shL.getD j 0 : Int))) (A := fun q => s.heap.size ≤ q) (by decide) (hs (.arrayOf (.static "CourtTongue$Orders" "SHIFTS" "[I") .int) (by decide +kernel)) (va_eqt (hs (.eq (.length (.static "CourtTongue$Orders" "SHIFTS" "[I")) (.int 25)) (by decide +kernel))) (fun j hj => va_eqt (hs (.eq (.elem (.static "CourtTongue$Orders" "SHIFTS" "[I") (.int (Int32.ofNat j))) (.int (Int32.ofInt (shL.getD j 0 : Int)))) (by
    have h : ∀ j, j < 25 → Cond.eq (.elem (.static "CourtTongue$Orders" "SHIFTS" "[I") (.int (Int32.ofNat j))) (.int (Int32.ofInt (shL.getD j 0 : Int))) ∈ flatC (Jvm.Cond.and given_1 narrow_1) := by decide +kernel
    exact h j hj))) hA
  exact ⟨t, va_Zof (hts (.laysStatic "CourtTongue$Orders" "SHIFTS" "[I") (List.mem_of_getElem? (i := 1124) (by decide +kernel))) (hts (.initialized "CourtTongue$Orders") (List.mem_of_getElem? (i := 130) (by decide +kernel))) ht hA, hT⟩
def tmS (i : Nat) : Term := if i = 0 then .string "CourtTongue$Reader" 54 else .string "CourtTongueModel" 160
set_option maxRecDepth 100000 in
theorem st_texts {s : State} {b : Nat} (hs : ∀ w ∈ flatC (Jvm.Cond.and given_1 narrow_1), w.before #[Value.ref b] s = true) : ∃ adK adV : Nat → Nat, vk_S 2 [108, 92] txB adK adV (fun q => s.heap.size ≤ q) s s.heap ∧ ∀ i : Nat, i < 2 → (tmS i).eval #[Value.ref b] s none [] s = some (.ref (adK i)) := by
  have hA : ∀ a : Nat, a < s.heap.size → ¬ (fun q : Nat => s.heap.size ≤ q) a := fun a h => Nat.not_le.mpr h
  have h1 : ∀ i, i < 2 → Cond.exactly (tmS i) "java/lang/String" ∈ flatC (Jvm.Cond.and given_1 narrow_1) ∧ Cond.eq (.field (tmS i) "java/lang/String" "coder" "B") (.int 0) ∈ flatC (Jvm.Cond.and given_1 narrow_1) ∧ Cond.arrayOf (.field (tmS i) "java/lang/String" "value" "[B") .byte ∈ flatC (Jvm.Cond.and given_1 narrow_1) ∧ Cond.eq (.length (.field (tmS i) "java/lang/String" "value" "[B")) (.int (Int32.ofNat ([108, 92].getD i 0))) ∈ flatC (Jvm.Cond.and given_1 narrow_1) := by decide +kernel
  have h20 : ((flatC (Jvm.Cond.and given_1 narrow_1)).drop 93).take 108 = (List.range 108).map (fun j => Cond.eq (.elem (.field (tmS 0) "java/lang/String" "value" "[B") (.int (Int32.ofNat j))) (.int ((txB.getD 0 []).getD j 0))) := by decide +kernel
  have h21 : ((flatC (Jvm.Cond.and given_1 narrow_1)).drop 205).take 92 = (List.range 92).map (fun j => Cond.eq (.elem (.field (tmS 1) "java/lang/String" "value" "[B") (.int (Int32.ofNat j))) (.int ((txB.getD 1 []).getD j 0))) := by decide +kernel
  have h2 : ∀ i, i < 2 → ∀ j, j < [108, 92].getD i 0 → Cond.eq (.elem (.field (tmS i) "java/lang/String" "value" "[B") (.int (Int32.ofNat j))) (.int ((txB.getD i []).getD j 0)) ∈ flatC (Jvm.Cond.and given_1 narrow_1) := fun i hi j hj => by
    rcases (show i = 0 ∨ i = 1 by omega) with rfl | rfl
    · exact List.mem_of_mem_drop (List.mem_of_mem_take (h20 ▸ List.mem_map.mpr ⟨j, List.mem_range.mpr hj, rfl⟩))
    · exact List.mem_of_mem_drop (List.mem_of_mem_take (h21 ▸ List.mem_map.mpr ⟨j, List.mem_range.mpr hj, rfl⟩))
  have h3 : Cond.not (.eq (tmS 0) (tmS 1)) ∈ flatC (Jvm.Cond.and given_1 narrow_1) := by decide +kernel
  refine vk_Sof (tm := tmS) (fun i hi => ?_) (fun i hi => hs _ (h1 i hi).1) (fun i hi => hs _ (h1 i hi).2.1) (fun i hi => hs _ (h1 i hi).2.2.1) (fun i hi => hs _ (h1 i hi).2.2.2) (fun i hi j hj => hs _ (h2 i hi j hj)) (fun i j hi hj hij => ?_) hA
  · rcases (show i = 0 ∨ i = 1 by omega) with rfl | rfl <;> decide
  · rcases (show (i = 0 ∧ j = 1) ∨ (i = 1 ∧ j = 0) by omega) with ⟨rfl, rfl⟩ | ⟨rfl, rfl⟩
    · exact Or.inl (hs _ h3)
    · exact Or.inr (hs _ h3)
theorem vk_S.cg {N : Nat} {len : List Nat} {byt : List (List Int32)} {adK adK' adV : Nat → Nat} {A : Nat → Prop} {U : State} {H : Heap} (h : vk_S N len byt adK adV A U H) (e : ∀ i, i < N → adK' i = adK i) : vk_S N len byt adK' adV A U H :=
  ⟨fun i hi => by rw [e i hi]; exact h.1 i hi, fun i j hi hj q => h.2 i j hi hj (by rw [← e i hi, ← e j hj]; exact q)⟩
set_option maxRecDepth 100000 in
theorem RS_start {s : State} {b L : Nat} {xs : Nat → Int32} (hL : L ≤ 3072) (hts : ∀ w ∈ lw_tbl, w.before #[Value.ref b] s = true) (hgv : (Jvm.Cond.and given_1 narrow_1).before #[Value.ref b] s = true) (hX : va_X b L xs s s.heap) (hbl : b < s.heap.size) :
    ∃ t94 t95 t96 k0 k1 : Nat, ∀ ad : Nat → Nat, ad 94 = t94 → ad 95 = t95 → ad 96 = t96 → ad 97 = b → ad 98 = k0 → ad 99 = k1 → RS ad (M0 (scS L xs)) (fun q => s.heap.size ≤ q) s s.heap := by
  have hs := flat_of_before _ hgv
  have hA : ∀ a : Nat, a < s.heap.size → ¬ (fun q : Nat => s.heap.size ≤ q) a := fun a h => Nat.not_le.mpr h
  obtain ⟨t94, z1, T1⟩ := st_ONES hts hs
  obtain ⟨t95, z2, T2⟩ := st_OTHERS hts hs
  obtain ⟨t96, z3, T3⟩ := st_SHIFTS hts hs
  obtain ⟨adK, adV, hv, hk⟩ := st_texts hs
  refine ⟨t94, t95, t96, adK 0, adK 1, fun ad e1 e2 e3 e4 e5 e6 => ⟨⟨by rw [e1]; exact z1, by rw [e2]; exact z2, by rw [e3]; exact z3⟩, fun k h1 h2 => ?_, ?_, ?_, adV, ?_, ?_, ?_, ?_, ?_, ?_⟩⟩
  · have h1 : 94 ≤ k := h1
    rcases (show k = 94 ∨ k = 95 ∨ k = 96 ∨ k = 97 by omega) with rfl | rfl | rfl | rfl
    · rw [e1]; exact T1
    · rw [e2]; exact T2
    · rw [e3]; exact T3
    · rw [e4]
      obtain ⟨scr, x1, x2, x3, x4, x5⟩ := hX
      have eL : tlen (M0 (scS L xs)) 97 = L := by
        show ((scS L xs 4000).toNat) = L
        unfold scS
        rw [if_pos rfl, Int.toNat_natCast]
      rw [eL]
      refine ⟨scr, x1, x2, x3, Nat.le_of_eq x4.symm, by rw [x4], fun j hj => ?_, hA b hbl⟩
      rw [x5 j hj]
      have e : M0 (scS L xs) 97 j = (xs j).toInt := by
        show scS L xs j = _
        unfold scS
        rw [if_neg (by omega)]
      show some (Value.int (xs j)) = some (Value.int (Int32.ofInt (M0 (scS L xs) 97 j)))
      rw [e, Int32.ofInt_toInt]
  · rw [e5]
    exact vk_R.of (hts (.stringRef "CourtTongue$Reader" 54 txL) (List.mem_of_getElem? (i := 279) (by decide +kernel))) (hk 0 (by omega))
  · rw [e6]
    exact vk_R.of (hts (.stringRef "CourtTongueModel" 160 txW) (List.mem_of_getElem? (i := 1567) (by decide +kernel))) (hk 1 (by omega))
  · exact hv.cg (fun i hi => by
      rcases (show i = 0 ∨ i = 1 by omega) with rfl | rfl
      · exact e5
      · exact e6)
  · exact va_Zof (hts (.laysStatic "java/lang/String" "COMPACT_STRINGS" "Z") (List.mem_of_getElem? (i := 289) (by decide +kernel))) (hts (.initialized "java/lang/String") (List.mem_of_getElem? (i := 124) (by decide +kernel))) (va_eqt (hs (.eq (.static "java/lang/String" "COMPACT_STRINGS" "Z") (.int 1)) (by decide +kernel))) hA
  · exact va_Zqof (hts (.laysStatic "jdk/internal/util/Preconditions" "SIOOBE_FORMATTER" "Ljava/util/function/BiFunction;") (List.mem_of_getElem? (i := 305) (by decide +kernel))) (hts (.initialized "jdk/internal/util/Preconditions") (List.mem_of_getElem? (i := 126) (by decide +kernel))) (hs (.isRef (.static "jdk/internal/util/Preconditions" "SIOOBE_FORMATTER" "Ljava/util/function/BiFunction;")) (by decide +kernel)) hA
  · exact vx_Zqof (hts (.laysStatic Bundle.tN "UNASSIGNED_STACK" Bundle.steD) (List.mem_of_getElem? (i := 1296) (by decide +kernel))) (hts (.initialized Bundle.tN) (List.mem_of_getElem? (i := 135) (by decide +kernel))) (hs (.isRef (.static Bundle.tN "UNASSIGNED_STACK" Bundle.steD)) (by decide +kernel)) hA
  · exact vx_Zqof (hts (.laysStatic Bundle.tN "SUPPRESSED_SENTINEL" Bundle.listD) (List.mem_of_getElem? (i := 1298) (by decide +kernel))) (hts (.initialized Bundle.tN) (List.mem_of_getElem? (i := 135) (by decide +kernel))) (hs (.isRef (.static Bundle.tN "SUPPRESSED_SENTINEL" Bundle.listD)) (by decide +kernel)) hA
  · exact va_Nc.of (hs (.not (.castable "java/util/NoSuchElementException" "java/lang/IndexOutOfBoundsException")) (by decide +kernel))
theorem Kn_start {s : State} {b : Nat} (hts : ∀ w ∈ lw_tbl, w.before #[Value.ref b] s = true) : ∃ D : va_G, ∀ (k : Nat) (q : vw_C), wcl[k]? = some q → u_Kn s q.1 q.2.1 q.2.2 (D.1 k) (D.2 k) := by
  have h : ∀ k : Nat, ∃ x : ClassId × (Nat → Nat), ∀ q : vw_C, wcl[k]? = some q → u_Kn s q.1 q.2.1 q.2.2 x.1 x.2 := by
    intro k
    have hin : ∀ q : vw_C, wcl[k]? = some q → ∀ w ∈ u_ws q.1 q.2.1 q.2.2, w ∈ lw_tbl := fun q hq w hw => (List.mem_filter.mp (wcl_in hq w hw)).1
    match k, hin with
    | 0, hin =>
      obtain ⟨cC, iS, h⟩ := u_known (C := RX0) (T := TX0) (N := 9) (n := 9) hts (hin _ rfl) (hts (.instantiable RX0 9) (List.mem_of_getElem? (i := 157) (by decide +kernel)))
      exact ⟨(cC, iS), fun q hq => by cases hq; exact h⟩
    | 1, hin =>
      obtain ⟨cC, iS, h⟩ := u_known (C := RX1) (T := TX1) (N := 9) (n := 9) hts (hin _ rfl) (hts (.instantiable RX1 9) (List.mem_of_getElem? (i := 473) (by decide +kernel)))
      exact ⟨(cC, iS), fun q hq => by cases hq; exact h⟩
    | 2, hin =>
      obtain ⟨cC, iS, h⟩ := u_known (C := RX2) (T := TX2) (N := 2) (n := 2) hts (hin _ rfl) (hts (.instantiable RX2 2) (List.mem_of_getElem? (i := 239) (by decide +kernel)))
      exact ⟨(cC, iS), fun q hq => by cases hq; exact h⟩
    | 3, hin =>
      obtain ⟨cC, iS, h⟩ := u_known (C := RX3) (T := TX3) (N := 6) (n := 6) hts (hin _ rfl) (hts (.instantiable RX3 6) (List.mem_of_getElem? (i := 163) (by decide +kernel)))
      exact ⟨(cC, iS), fun q hq => by cases hq; exact h⟩
    | 4, hin =>
      obtain ⟨cC, iS, h⟩ := u_known (C := RX4) (T := TX4) (N := 7) (n := 7) hts (hin _ rfl) (hts (.instantiable RX4 7) (List.mem_of_getElem? (i := 417) (by decide +kernel)))
      exact ⟨(cC, iS), fun q hq => by cases hq; exact h⟩
    | 5, hin =>
      obtain ⟨cC, iS, h⟩ := u_known (C := RX5) (T := TX5) (N := 5) (n := 5) hts (hin _ rfl) (hts (.instantiable RX5 5) (List.mem_of_getElem? (i := 255) (by decide +kernel)))
      exact ⟨(cC, iS), fun q hq => by cases hq; exact h⟩
    | 6, hin =>
      obtain ⟨cC, iS, h⟩ := u_known (C := RX6) (T := TX6) (N := 6) (n := 6) hts (hin _ rfl) (hts (.instantiable RX6 6) (List.mem_of_getElem? (i := 447) (by decide +kernel)))
      exact ⟨(cC, iS), fun q hq => by cases hq; exact h⟩
    | 7, hin =>
      obtain ⟨cC, iS, h⟩ := u_known (C := RX7) (T := TX7) (N := 18) (n := 18) hts (hin _ rfl) (hts (.instantiable RX7 18) (List.mem_of_getElem? (i := 151) (by decide +kernel)))
      exact ⟨(cC, iS), fun q hq => by cases hq; exact h⟩
    | 8, hin =>
      obtain ⟨cC, iS, h⟩ := u_known (C := RX9) (T := TX9) (N := 3) (n := 3) hts (hin _ rfl) (hts (.instantiable RX9 3) (List.mem_of_getElem? (i := 400) (by decide +kernel)))
      exact ⟨(cC, iS), fun q hq => by cases hq; exact h⟩
    | 9, hin =>
      obtain ⟨cC, iS, h⟩ := u_known (C := RX10) (T := TX10) (N := 13) (n := 13) hts (hin _ rfl) (hts (.instantiable RX10 13) (List.mem_of_getElem? (i := 143) (by decide +kernel)))
      exact ⟨(cC, iS), fun q hq => by cases hq; exact h⟩
    | 10, hin =>
      obtain ⟨cC, iS, h⟩ := u_known (C := RX11) (T := TX11) (N := 59) (n := 59) hts (hin _ rfl) (hts (.instantiable RX11 59) (List.mem_of_getElem? (i := 1357) (by decide +kernel)))
      exact ⟨(cC, iS), fun q hq => by cases hq; exact h⟩
    | k + 11, _ => exact ⟨(0, fun _ => 0), fun q hq => by simp [wcl] at hq⟩
  obtain ⟨D, hD⟩ := Classical.axiomOfChoice h
  exact ⟨(fun k => (D k).1, fun k => (D k).2), fun k q hq => hD k q hq⟩
theorem arr_of {args : Array Value} {s : State} {ty : FieldType} (h : (Cond.arrayClass ty).before args s = true) (ht : ∀ C, ty ≠ .object C) : ∃ cA : ClassId, ArrOfT s cA ty ∧ va_RA s cA ty := by
  obtain ⟨cA, kA, comp, h1, h2, h3⟩ := Cond.arrayClass_spec h
  refine ⟨cA, fun n z => ⟨fun k h => (by cases h), kA, h2, comp, h3⟩, ?_⟩
  cases ty with
  | object C => exact absurd rfl (ht C)
  | _ => exact h1
theorem K_start {s : State} {b : Nat} (hts : ∀ w ∈ lw_tbl, w.before #[Value.ref b] s = true) : ∃ (D : va_G) (cs : CS), va_K D wcl (atys cs) s := by
  obtain ⟨D, hD⟩ := Kn_start hts
  obtain ⟨c1, a1, b1⟩ := arr_of (hts _ (List.mem_filter.mp ar_int).1) (fun C z => nomatch z)
  obtain ⟨c2, a2, b2⟩ := arr_of (hts _ (List.mem_filter.mp ar_long).1) (fun C z => nomatch z)
  obtain ⟨c3, a3, b3⟩ := arr_of (hts _ (List.mem_filter.mp ar_boolean).1) (fun C z => nomatch z)
  refine ⟨D, (c1, c2, c3), hD, fun k q hk => ?_⟩
  match k, hk with
  | 0, hk => cases hk; exact ⟨a1, b1⟩
  | 1, hk => cases hk; exact ⟨a2, b2⟩
  | 2, hk => cases hk; exact ⟨a3, b3⟩
  | k + 3, hk => simp at hk
theorem nst_start {s : State} {b : Nat} (hts : ∀ w ∈ lw_tbl, w.before #[Value.ref b] s = true) : ∀ w ∈ nstW, va_Nw w s := fun w hw => by
  have h1 : ∀ w ∈ nstW, w.onTables = true ∧ w ∈ lw_tbl := by decide +kernel
  exact va_Nw.of (h1 w hw).1 (hts w (h1 w hw).2)
