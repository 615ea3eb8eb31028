/-! one law for each instruction, over A -/
section STEP
variable {mt : MT} {d al pc : Nat} {ls st : List AV} {M : Mem} {K : List AV → Mem → Prop}
theorem vk_t {v : AV} {st : List AV} (h : ∀ w ∈ v :: st, vok w) : ∀ w ∈ st, vok w := fun w hw => h w (List.mem_cons_of_mem _ hw)
theorem vk_h {v : AV} {st : List AV} (h : ∀ w ∈ v :: st, vok w) : vok v := h v List.mem_cons_self
theorem vk_c {v : AV} {st : List AV} (hv : vok v) (h : ∀ w ∈ st, vok w) : ∀ w ∈ v :: st, vok w := fun w hw => by
  rcases List.mem_cons.mp hw with e | e
  · exact e ▸ hv
  · exact h w e
theorem lok_set {ls : List AV} {i : Nat} {v : AV} (h : ∀ w ∈ ls, lok w) (hv : lok v) : ∀ w ∈ ls.set i v, lok w := fun w hw => by
  rcases List.mem_or_eq_of_mem_set hw with e | e
  · exact h w e
  · exact e ▸ hv
theorem in8 {a : Int} (h : (Int8.ofInt a).toInt32 = Int32.ofInt a) : True := trivial
theorem A_iconst {a : Int} (h : decode mt.2.1 pc = .ok (.iconst a, 1)) (ha : in32 a) (k : A mt d al (pc + 1) ls ((0, a) :: st) M K) : A mt d al pc ls st M K := by
  intro X jl H locs cells slots hE hS hL hv hR hc hs
  refine lv_iconst (v := Int32.ofInt a) hE.1 hE.2.1 h rfl ?_
  exact k X jl H locs cells slots hE hS hL (vk_c (vok_0.mpr ha) hv) hR hc hs
theorem A_bipush {a : Int} (h : decode mt.2.1 pc = .ok (.bipush a, 2)) (ha : in32 a) (hc8 : (Int8.ofInt a).toInt32 = Int32.ofInt a) (k : A mt d al (pc + 2) ls ((0, a) :: st) M K) : A mt d al pc ls st M K := by
  intro X jl H locs cells slots hE hS hL hv hR hc hs
  refine lv_bipush (v := Int32.ofInt a) hE.1 hE.2.1 h hc8 ?_
  exact k X jl H locs cells slots hE hS hL (vk_c (vok_0.mpr ha) hv) hR hc hs
theorem A_sipush {a : Int} (h : decode mt.2.1 pc = .ok (.sipush a, 3)) (ha : in32 a) (hc8 : (Int16.ofInt a).toInt32 = Int32.ofInt a) (k : A mt d al (pc + 3) ls ((0, a) :: st) M K) : A mt d al pc ls st M K := by
  intro X jl H locs cells slots hE hS hL hv hR hc hs
  refine lv_sipush (v := Int32.ofInt a) hE.1 hE.2.1 h hc8 ?_
  exact k X jl H locs cells slots hE hS hL (vk_c (vok_0.mpr ha) hv) hR hc hs
theorem A_ldc {a : Int} {idx pl : Nat} (h : decode mt.2.1 pc = .ok (.ldc idx, 2)) (ha : in32 a) (hw : lw_tbl[pl]? = some (.constant mt.1.cls idx (Int32.ofInt a))) (hg : goodWord (.constant mt.1.cls idx (Int32.ofInt a)) = true) (k : A mt d al (pc + 2) ls ((0, a) :: st) M K) : A mt d al pc ls st M K := by
  intro X jl H locs cells slots hE hS hL hv hR hc hs
  refine lv_ldc (v := Int32.ofInt a) hE.1 hE.2.1 hE.2.2.2.2.2.1 (hE.2.2.2.2.2.2.1 _ (List.mem_of_getElem? hw) hg) h ?_
  exact k X jl H locs cells slots hE hS hL (vk_c (vok_0.mpr ha) hv) hR hc hs
theorem A_ldcw {a : Int} {idx pl : Nat} (h : decode mt.2.1 pc = .ok (.ldc_w idx, 3)) (ha : in32 a) (hw : lw_tbl[pl]? = some (.constant mt.1.cls idx (Int32.ofInt a))) (hg : goodWord (.constant mt.1.cls idx (Int32.ofInt a)) = true) (k : A mt d al (pc + 3) ls ((0, a) :: st) M K) : A mt d al pc ls st M K := by
  intro X jl H locs cells slots hE hS hL hv hR hc hs
  refine lv_ldcw (v := Int32.ofInt a) hE.1 hE.2.1 hE.2.2.2.2.2.1 (hE.2.2.2.2.2.2.1 _ (List.mem_of_getElem? hw) hg) h ?_
  exact k X jl H locs cells slots hE hS hL (vk_c (vok_0.mpr ha) hv) hR hc hs
theorem A_lconst {a : Int} {n : Fin 2} (h : decode mt.2.1 pc = .ok (.lconst n, 1)) (ha : in64 a) (hn : Int64.ofNat (n : Nat) = Int64.ofInt a) (k : A mt d al (pc + 1) ls ((1, a) :: st) M K) : A mt d al pc ls st M K := by
  intro X jl H locs cells slots hE hS hL hv hR hc hs
  refine lv_lconst (v := Int64.ofInt a) hE.1 hE.2.1 h hn ?_
  exact k X jl H locs cells slots hE hS hL (vk_c (vok_1.mpr ha) hv) hR hc hs
theorem A_ldc2 {a : Int} {idx pl : Nat} (h : decode mt.2.1 pc = .ok (.ldc2_w idx, 3)) (ha : in64 a) (hw : lw_tbl[pl]? = some (.constantLong mt.1.cls idx (Int64.ofInt a))) (hg : goodWord (.constantLong mt.1.cls idx (Int64.ofInt a)) = true) (k : A mt d al (pc + 3) ls ((1, a) :: st) M K) : A mt d al pc ls st M K := by
  intro X jl H locs cells slots hE hS hL hv hR hc hs
  refine lv_ldc2 (v := Int64.ofInt a) hE.1 hE.2.1 hE.2.2.2.2.2.1 (hE.2.2.2.2.2.2.1 _ (List.mem_of_getElem? hw) hg) h ?_
  exact k X jl H locs cells slots hE hS hL (vk_c (vok_1.mpr ha) hv) hR hc hs
theorem A_iload_n {i : Nat} {x : Int} {f : Fin 4} (hi : (f : Nat) = i) (h : decode mt.2.1 pc = .ok (.iload_n f, 1)) (hl : ls[i]? = some (0, x)) (k : A mt d al (pc + 1) ls ((0, x) :: st) M K) : A mt d al pc ls st M K := by
  intro X jl H locs cells slots hE hS hL hv hR hc hs
  have hlk := lav_at hL.1 hl (show _ ≠ 2 by simp)
  have hx : vok (0, x) := (hL.2 _ (List.mem_of_getElem? hl)).resolve_left (by simp)
  refine lv_iload_n (x := Int32.ofInt x) hE.1 hE.2.1 h hi hlk ?_
  exact k X jl H locs cells slots hE hS hL (vk_c hx hv) hR hc hs
theorem A_iload {i : Nat} {x : Int} (h : decode mt.2.1 pc = .ok (.iload i, 2)) (hl : ls[i]? = some (0, x)) (k : A mt d al (pc + 2) ls ((0, x) :: st) M K) : A mt d al pc ls st M K := by
  intro X jl H locs cells slots hE hS hL hv hR hc hs
  have hlk := lav_at hL.1 hl (show _ ≠ 2 by simp)
  have hx : vok (0, x) := (hL.2 _ (List.mem_of_getElem? hl)).resolve_left (by simp)
  refine lv_iload (x := Int32.ofInt x) hE.1 hE.2.1 h  hlk ?_
  exact k X jl H locs cells slots hE hS hL (vk_c hx hv) hR hc hs
theorem A_lload_n {i : Nat} {x : Int} {f : Fin 4} (hi : (f : Nat) = i) (h : decode mt.2.1 pc = .ok (.lload_n f, 1)) (hl : ls[i]? = some (1, x)) (k : A mt d al (pc + 1) ls ((1, x) :: st) M K) : A mt d al pc ls st M K := by
  intro X jl H locs cells slots hE hS hL hv hR hc hs
  have hlk := lav_at hL.1 hl (show _ ≠ 2 by simp)
  have hx : vok (1, x) := (hL.2 _ (List.mem_of_getElem? hl)).resolve_left (by simp)
  refine lv_lload_n (x := Int64.ofInt x) hE.1 hE.2.1 h hi hlk ?_
  exact k X jl H locs cells slots hE hS hL (vk_c hx hv) hR hc hs
theorem A_lload {i : Nat} {x : Int} (h : decode mt.2.1 pc = .ok (.lload i, 2)) (hl : ls[i]? = some (1, x)) (k : A mt d al (pc + 2) ls ((1, x) :: st) M K) : A mt d al pc ls st M K := by
  intro X jl H locs cells slots hE hS hL hv hR hc hs
  have hlk := lav_at hL.1 hl (show _ ≠ 2 by simp)
  have hx : vok (1, x) := (hL.2 _ (List.mem_of_getElem? hl)).resolve_left (by simp)
  refine lv_lload (x := Int64.ofInt x) hE.1 hE.2.1 h  hlk ?_
  exact k X jl H locs cells slots hE hS hL (vk_c hx hv) hR hc hs
theorem A_aload_n {i t : Nat} {x : Int} (ht : 5 ≤ t) {f : Fin 4} (hi : (f : Nat) = i) (h : decode mt.2.1 pc = .ok (.aload_n f, 1)) (hl : ls[i]? = some (t, x)) (k : A mt d al (pc + 1) ls ((t, x) :: st) M K) : A mt d al pc ls st M K := by
  intro X jl H locs cells slots hE hS hL hv hR hc hs
  have hlk := lav_at hL.1 hl (by show t ≠ 2; omega)
  have hx : vok (t, x) := (hL.2 _ (List.mem_of_getElem? hl)).resolve_left (by show t ≠ 2; omega)
  rw [tv_r _ (by omega)] at hlk
  have hk := k X jl H locs cells slots hE hS hL (vk_c hx hv) hR hc hs
  rw [List.map_cons, tv_r _ (by omega)] at hk
  exact lv_aload_n (x := jad X x.toNat) hE.1 hE.2.1 h hi hlk hk
theorem A_aload {i t : Nat} {x : Int} (ht : 5 ≤ t) (h : decode mt.2.1 pc = .ok (.aload i, 2)) (hl : ls[i]? = some (t, x)) (k : A mt d al (pc + 2) ls ((t, x) :: st) M K) : A mt d al pc ls st M K := by
  intro X jl H locs cells slots hE hS hL hv hR hc hs
  have hlk := lav_at hL.1 hl (by show t ≠ 2; omega)
  have hx : vok (t, x) := (hL.2 _ (List.mem_of_getElem? hl)).resolve_left (by show t ≠ 2; omega)
  rw [tv_r _ (by omega)] at hlk
  have hk := k X jl H locs cells slots hE hS hL (vk_c hx hv) hR hc hs
  rw [List.map_cons, tv_r _ (by omega)] at hk
  exact lv_aload (x := jad X x.toNat) hE.1 hE.2.1 h  hlk hk
theorem A_istore_n {i : Nat} {x : Int} {f : Fin 4} (hi : (f : Nat) = i) (h : decode mt.2.1 pc = .ok (.istore_n f, 1)) (hn : i < mt.2.2.1) (hp : ∀ w, i ≠ 0 → ls[i - 1]? = some w → w.1 ≠ 1) (k : A mt d al (pc + 1) (ls.set i (0, x)) st M K) : A mt d al pc ls ((0, x) :: st) M K := by
  intro X jl H locs cells slots hE hS hL hv hR hc hs
  refine lv_istore_n (x := Int32.ofInt x) hE.1 hE.2.1 h hi hL.1 hn rfl (fun jl2 hL2 => ?_)
  exact k X jl2 H locs cells slots hE hS ⟨lv_mono hL2 (lav_st1 (by simp) hp), lok_set hL.2 (Or.inr (vk_h hv))⟩ (vk_t hv) hR hc hs
theorem A_istore {i : Nat} {x : Int} (h : decode mt.2.1 pc = .ok (.istore i, 2)) (hn : i < mt.2.2.1) (hp : ∀ w, i ≠ 0 → ls[i - 1]? = some w → w.1 ≠ 1) (k : A mt d al (pc + 2) (ls.set i (0, x)) st M K) : A mt d al pc ls ((0, x) :: st) M K := by
  intro X jl H locs cells slots hE hS hL hv hR hc hs
  refine lv_istore (x := Int32.ofInt x) hE.1 hE.2.1 h  hL.1 hn rfl (fun jl2 hL2 => ?_)
  exact k X jl2 H locs cells slots hE hS ⟨lv_mono hL2 (lav_st1 (by simp) hp), lok_set hL.2 (Or.inr (vk_h hv))⟩ (vk_t hv) hR hc hs
theorem A_lstore_n {i : Nat} {x : Int} {f : Fin 4} (hi : (f : Nat) = i) (h : decode mt.2.1 pc = .ok (.lstore_n f, 1)) (hn : i + 1 < mt.2.2.1) (hp : ∀ w, i ≠ 0 → ls[i - 1]? = some w → w.1 ≠ 1) (k : A mt d al (pc + 1) ((ls.set i (1, x)).set (i + 1) (2, 0)) st M K) : A mt d al pc ls ((1, x) :: st) M K := by
  intro X jl H locs cells slots hE hS hL hv hR hc hs
  refine lv_lstore_n (x := Int64.ofInt x) hE.1 hE.2.1 h hi hL.1 hn rfl (fun jl2 hL2 => ?_)
  exact k X jl2 H locs cells slots hE hS ⟨lv_mono hL2 (lav_st2 hp), lok_set (lok_set hL.2 (Or.inr (vk_h hv))) (Or.inl rfl)⟩ (vk_t hv) hR hc hs
theorem A_lstore {i : Nat} {x : Int} (h : decode mt.2.1 pc = .ok (.lstore i, 2)) (hn : i + 1 < mt.2.2.1) (hp : ∀ w, i ≠ 0 → ls[i - 1]? = some w → w.1 ≠ 1) (k : A mt d al (pc + 2) ((ls.set i (1, x)).set (i + 1) (2, 0)) st M K) : A mt d al pc ls ((1, x) :: st) M K := by
  intro X jl H locs cells slots hE hS hL hv hR hc hs
  refine lv_lstore (x := Int64.ofInt x) hE.1 hE.2.1 h  hL.1 hn rfl (fun jl2 hL2 => ?_)
  exact k X jl2 H locs cells slots hE hS ⟨lv_mono hL2 (lav_st2 hp), lok_set (lok_set hL.2 (Or.inr (vk_h hv))) (Or.inl rfl)⟩ (vk_t hv) hR hc hs
theorem A_astore_n {i t : Nat} {x : Int} (ht : 5 ≤ t) {f : Fin 4} (hi : (f : Nat) = i) (h : decode mt.2.1 pc = .ok (.astore_n f, 1)) (hn : i < mt.2.2.1) (hp : ∀ w, i ≠ 0 → ls[i - 1]? = some w → w.1 ≠ 1) (k : A mt d al (pc + 1) (ls.set i (t, x)) st M K) : A mt d al pc ls ((t, x) :: st) M K := by
  intro X jl H locs cells slots hE hS hL hv hR hc hs
  rw [List.map_cons, tv_r _ (by omega)]
  refine lv_astore_n (x := jad X x.toNat) hE.1 hE.2.1 h hi hL.1 hn rfl (fun jl2 hL2 => ?_)
  rw [← tv_r (jad X) (x := x) (show 2 ≤ t by omega)] at hL2
  exact k X jl2 H locs cells slots hE hS ⟨lv_mono hL2 (lav_st1 (by show t ≠ 1; omega) hp), lok_set hL.2 (Or.inr (vk_h hv))⟩ (vk_t hv) hR hc hs
theorem A_astore {i t : Nat} {x : Int} (ht : 5 ≤ t) (h : decode mt.2.1 pc = .ok (.astore i, 2)) (hn : i < mt.2.2.1) (hp : ∀ w, i ≠ 0 → ls[i - 1]? = some w → w.1 ≠ 1) (k : A mt d al (pc + 2) (ls.set i (t, x)) st M K) : A mt d al pc ls ((t, x) :: st) M K := by
  intro X jl H locs cells slots hE hS hL hv hR hc hs
  rw [List.map_cons, tv_r _ (by omega)]
  refine lv_astore (x := jad X x.toNat) hE.1 hE.2.1 h  hL.1 hn rfl (fun jl2 hL2 => ?_)
  rw [← tv_r (jad X) (x := x) (show 2 ≤ t by omega)] at hL2
  exact k X jl2 H locs cells slots hE hS ⟨lv_mono hL2 (lav_st1 (by show t ≠ 1; omega) hp), lok_set hL.2 (Or.inr (vk_h hv))⟩ (vk_t hv) hR hc hs
theorem A_iinc {i : Nat} {x n : Int} (h : decode mt.2.1 pc = .ok (.iinc i n, 3)) (hn : i < mt.2.2.1) (hl : ls[i]? = some (0, x)) (hp : ∀ w, i ≠ 0 → ls[i - 1]? = some w → w.1 ≠ 1) (k : A mt d al (pc + 3) (ls.set i (0, w32 (x + n))) st M K) : A mt d al pc ls st M K := by
  intro X jl H locs cells slots hE hS hL hv hR hc hs
  have hm : (i, tv (jad X) (0, x)) ∈ lav (jad X) 0 ls := (lav_mem ls 0 _).mpr ⟨i, _, hl, by simp, by simp⟩
  obtain ⟨p, hp2⟩ := List.getElem?_of_mem hm
  refine lv_iinc (k := p) (x := Int32.ofInt x) (v := Int32.ofInt (w32 (x + n))) hE.1 hE.2.1 h hL.1 hp2 (ofI_add x n) hn rfl (fun jl2 hL2 => ?_)
  exact k X jl2 H locs cells slots hE hS ⟨lv_mono hL2 (lav_st1 (v := (0, w32 (x + n))) (by simp) hp), lok_set hL.2 (Or.inr (vok_0.mpr (w32_in _)))⟩ hv hR hc hs
theorem A_iadd {x y : Int} (h : decode mt.2.1 pc = .ok (.iadd, 1)) (k : A mt d al (pc + 1) ls ((0, w32 (x + y)) :: st) M K) : A mt d al pc ls ((0, y) :: (0, x) :: st) M K := by
  intro X jl H locs cells slots hE hS hL hv hR hc hs
  refine lv_iadd (x := Int32.ofInt x) (y := Int32.ofInt y) hE.1 hE.2.1 h ?_
  rw [ofI_add]
  exact k X jl H locs cells slots hE hS hL (vk_c (vok_0.mpr (w32_in _)) (vk_t (vk_t hv))) hR hc hs
theorem A_isub {x y : Int} (h : decode mt.2.1 pc = .ok (.isub, 1)) (k : A mt d al (pc + 1) ls ((0, w32 (x - y)) :: st) M K) : A mt d al pc ls ((0, y) :: (0, x) :: st) M K := by
  intro X jl H locs cells slots hE hS hL hv hR hc hs
  refine lv_isub (x := Int32.ofInt x) (y := Int32.ofInt y) hE.1 hE.2.1 h ?_
  rw [ofI_sub]
  exact k X jl H locs cells slots hE hS hL (vk_c (vok_0.mpr (w32_in _)) (vk_t (vk_t hv))) hR hc hs
theorem A_imul {x y : Int} (h : decode mt.2.1 pc = .ok (.imul, 1)) (k : A mt d al (pc + 1) ls ((0, w32 (x * y)) :: st) M K) : A mt d al pc ls ((0, y) :: (0, x) :: st) M K := by
  intro X jl H locs cells slots hE hS hL hv hR hc hs
  refine lv_imul (x := Int32.ofInt x) (y := Int32.ofInt y) hE.1 hE.2.1 h ?_
  rw [ofI_mul]
  exact k X jl H locs cells slots hE hS hL (vk_c (vok_0.mpr (w32_in _)) (vk_t (vk_t hv))) hR hc hs
theorem A_iand {x y : Int} (h : decode mt.2.1 pc = .ok (.iand, 1)) (k : A mt d al (pc + 1) ls ((0, iand x y) :: st) M K) : A mt d al pc ls ((0, y) :: (0, x) :: st) M K := by
  intro X jl H locs cells slots hE hS hL hv hR hc hs
  refine lv_iand (x := Int32.ofInt x) (y := Int32.ofInt y) hE.1 hE.2.1 h ?_
  rw [ofI_and]
  exact k X jl H locs cells slots hE hS hL (vk_c (vok_0.mpr (toI_in _)) (vk_t (vk_t hv))) hR hc hs
theorem A_ior {x y : Int} (h : decode mt.2.1 pc = .ok (.ior, 1)) (k : A mt d al (pc + 1) ls ((0, ior x y) :: st) M K) : A mt d al pc ls ((0, y) :: (0, x) :: st) M K := by
  intro X jl H locs cells slots hE hS hL hv hR hc hs
  refine lv_ior (x := Int32.ofInt x) (y := Int32.ofInt y) hE.1 hE.2.1 h ?_
  rw [ofI_or]
  exact k X jl H locs cells slots hE hS hL (vk_c (vok_0.mpr (toI_in _)) (vk_t (vk_t hv))) hR hc hs
theorem A_ixor {x y : Int} (h : decode mt.2.1 pc = .ok (.ixor, 1)) (k : A mt d al (pc + 1) ls ((0, ixor x y) :: st) M K) : A mt d al pc ls ((0, y) :: (0, x) :: st) M K := by
  intro X jl H locs cells slots hE hS hL hv hR hc hs
  refine lv_ixor (x := Int32.ofInt x) (y := Int32.ofInt y) hE.1 hE.2.1 h ?_
  rw [ofI_xor]
  exact k X jl H locs cells slots hE hS hL (vk_c (vok_0.mpr (toI_in _)) (vk_t (vk_t hv))) hR hc hs
theorem A_ishl {x y : Int} (h : decode mt.2.1 pc = .ok (.ishl, 1)) (k : A mt d al (pc + 1) ls ((0, ishl x y) :: st) M K) : A mt d al pc ls ((0, y) :: (0, x) :: st) M K := by
  intro X jl H locs cells slots hE hS hL hv hR hc hs
  refine lv_ishl (x := Int32.ofInt x) (y := Int32.ofInt y) hE.1 hE.2.1 h ?_
  rw [ofI_shl]
  exact k X jl H locs cells slots hE hS hL (vk_c (vok_0.mpr (toI_in _)) (vk_t (vk_t hv))) hR hc hs
theorem A_ishr {x y : Int} (h : decode mt.2.1 pc = .ok (.ishr, 1)) (k : A mt d al (pc + 1) ls ((0, ishr x y) :: st) M K) : A mt d al pc ls ((0, y) :: (0, x) :: st) M K := by
  intro X jl H locs cells slots hE hS hL hv hR hc hs
  refine lv_ishr (x := Int32.ofInt x) (y := Int32.ofInt y) hE.1 hE.2.1 h ?_
  rw [ofI_shr]
  exact k X jl H locs cells slots hE hS hL (vk_c (vok_0.mpr (toI_in _)) (vk_t (vk_t hv))) hR hc hs
theorem A_iushr {x y : Int} (h : decode mt.2.1 pc = .ok (.iushr, 1)) (k : A mt d al (pc + 1) ls ((0, iushr x y) :: st) M K) : A mt d al pc ls ((0, y) :: (0, x) :: st) M K := by
  intro X jl H locs cells slots hE hS hL hv hR hc hs
  refine lv_iushr (x := Int32.ofInt x) (y := Int32.ofInt y) (v := Int32.ofInt (iushr x y)) hE.1 hE.2.1 h (ofI_ushr x y) ?_
  exact k X jl H locs cells slots hE hS hL (vk_c (vok_0.mpr (toI_in _)) (vk_t (vk_t hv))) hR hc hs
theorem A_idiv {x y : Int} (h : decode mt.2.1 pc = .ok (.idiv, 1)) (h0 : y ≠ 0) (k : A mt d al (pc + 1) ls ((0, w32 (x.tdiv y)) :: st) M K) : A mt d al pc ls ((0, y) :: (0, x) :: st) M K := by
  intro X jl H locs cells slots hE hS hL hv hR hc hs
  have hy : in32 y := vok_0.mp (vk_h hv)
  have hx : in32 x := vok_0.mp (vk_h (vk_t hv))
  refine lv_idiv (x := Int32.ofInt x) (y := Int32.ofInt y) hE.1 hE.2.1 h (fun e => h0 ((ofI_eq hy (by unfold in32; omega)).mp (e.trans ofI_0.symm))) ?_
  rw [ofI_div hx hy]
  exact k X jl H locs cells slots hE hS hL (vk_c (vok_0.mpr (w32_in _)) (vk_t (vk_t hv))) hR hc hs
theorem A_irem {x y : Int} (h : decode mt.2.1 pc = .ok (.irem, 1)) (h0 : y ≠ 0) (k : A mt d al (pc + 1) ls ((0, w32 (x.tmod y)) :: st) M K) : A mt d al pc ls ((0, y) :: (0, x) :: st) M K := by
  intro X jl H locs cells slots hE hS hL hv hR hc hs
  have hy : in32 y := vok_0.mp (vk_h hv)
  have hx : in32 x := vok_0.mp (vk_h (vk_t hv))
  refine lv_irem (x := Int32.ofInt x) (y := Int32.ofInt y) hE.1 hE.2.1 h (fun e => h0 ((ofI_eq hy (by unfold in32; omega)).mp (e.trans ofI_0.symm))) ?_
  rw [ofI_rem hx hy]
  exact k X jl H locs cells slots hE hS hL (vk_c (vok_0.mpr (w32_in _)) (vk_t (vk_t hv))) hR hc hs
theorem A_ineg {x : Int} (h : decode mt.2.1 pc = .ok (.ineg, 1)) (k : A mt d al (pc + 1) ls ((0, w32 (-x)) :: st) M K) : A mt d al pc ls ((0, x) :: st) M K := by
  intro X jl H locs cells slots hE hS hL hv hR hc hs
  refine lv_ineg (x := Int32.ofInt x) hE.1 hE.2.1 h ?_
  rw [ofI_neg]
  exact k X jl H locs cells slots hE hS hL (vk_c (vok_0.mpr (w32_in _)) (vk_t hv)) hR hc hs
theorem A_ladd {x y : Int} (h : decode mt.2.1 pc = .ok (.ladd, 1)) (k : A mt d al (pc + 1) ls ((1, w64 (x + y)) :: st) M K) : A mt d al pc ls ((1, y) :: (1, x) :: st) M K := by
  intro X jl H locs cells slots hE hS hL hv hR hc hs
  refine lv_ladd (x := Int64.ofInt x) (y := Int64.ofInt y) hE.1 hE.2.1 h ?_
  rw [ofL_add]
  exact k X jl H locs cells slots hE hS hL (vk_c (vok_1.mpr (w64_in _)) (vk_t (vk_t hv))) hR hc hs
theorem A_lsub {x y : Int} (h : decode mt.2.1 pc = .ok (.lsub, 1)) (k : A mt d al (pc + 1) ls ((1, w64 (x - y)) :: st) M K) : A mt d al pc ls ((1, y) :: (1, x) :: st) M K := by
  intro X jl H locs cells slots hE hS hL hv hR hc hs
  refine lv_lsub (x := Int64.ofInt x) (y := Int64.ofInt y) hE.1 hE.2.1 h ?_
  rw [ofL_sub]
  exact k X jl H locs cells slots hE hS hL (vk_c (vok_1.mpr (w64_in _)) (vk_t (vk_t hv))) hR hc hs
theorem A_lmul {x y : Int} (h : decode mt.2.1 pc = .ok (.lmul, 1)) (k : A mt d al (pc + 1) ls ((1, w64 (x * y)) :: st) M K) : A mt d al pc ls ((1, y) :: (1, x) :: st) M K := by
  intro X jl H locs cells slots hE hS hL hv hR hc hs
  refine lv_lmul (x := Int64.ofInt x) (y := Int64.ofInt y) hE.1 hE.2.1 h ?_
  rw [ofL_mul]
  exact k X jl H locs cells slots hE hS hL (vk_c (vok_1.mpr (w64_in _)) (vk_t (vk_t hv))) hR hc hs
theorem A_ldiv {x y : Int} (h : decode mt.2.1 pc = .ok (.ldiv, 1)) (h0 : y ≠ 0) (k : A mt d al (pc + 1) ls ((1, w64 (x.tdiv y)) :: st) M K) : A mt d al pc ls ((1, y) :: (1, x) :: st) M K := by
  intro X jl H locs cells slots hE hS hL hv hR hc hs
  have hy : in64 y := vok_1.mp (vk_h hv)
  have hx : in64 x := vok_1.mp (vk_h (vk_t hv))
  refine lv_ldiv (x := Int64.ofInt x) (y := Int64.ofInt y) hE.1 hE.2.1 h (fun e => h0 ((ofL_eq hy (by unfold in64; omega)).mp (e.trans ofL_0.symm))) ?_
  rw [ofL_div hx hy]
  exact k X jl H locs cells slots hE hS hL (vk_c (vok_1.mpr (w64_in _)) (vk_t (vk_t hv))) hR hc hs
theorem lcmp_of {x y : Int} (hx : in64 x) (hy : in64 y) : lg_cmp (Int64.ofInt x) (Int64.ofInt y) = Int32.ofInt (lcmp x y) := by
  have e1 := ofL_lt hx hy
  have e2 := ofL_lt hy hx
  have e3 := ofL_eq hx hy
  unfold lg_cmp lcmp
  rcases Int.lt_trichotomy x y with h | h | h
  · simp [e1, e2, e3, h, show ¬ y < x by omega, show ¬ x = y by omega]; try rfl
  · subst h; simp [e1]; try rfl
  · simp [e1, e2, e3, h, show ¬ x < y by omega, show ¬ x = y by omega]; try rfl
theorem lcmp_in (x y : Int) : in32 (lcmp x y) := by unfold lcmp in32; split; omega; split <;> omega
theorem A_lcmp {x y : Int} (h : decode mt.2.1 pc = .ok (.lcmp, 1)) (k : A mt d al (pc + 1) ls ((0, lcmp x y) :: st) M K) : A mt d al pc ls ((1, y) :: (1, x) :: st) M K := by
  intro X jl H locs cells slots hE hS hL hv hR hc hs
  have hy : in64 y := vok_1.mp (vk_h hv)
  have hx : in64 x := vok_1.mp (vk_h (vk_t hv))
  refine W.lcmp (x := Int64.ofInt x) (y := Int64.ofInt y) hE.1 hE.2.1 h ?_
  rw [lcmp_of hx hy]
  exact k X jl H locs cells slots hE hS hL (vk_c (vok_0.mpr (lcmp_in _ _)) (vk_t (vk_t hv))) hR hc hs
theorem A_i2l {x : Int} (h : decode mt.2.1 pc = .ok (.i2l, 1)) (k : A mt d al (pc + 1) ls ((1, x) :: st) M K) : A mt d al pc ls ((0, x) :: st) M K := by
  intro X jl H locs cells slots hE hS hL hv hR hc hs
  have hx : in32 x := vok_0.mp (vk_h hv)
  refine lv_i2l (x := Int32.ofInt x) (v := Int64.ofInt x) hE.1 hE.2.1 h (ofI_long hx) ?_
  exact k X jl H locs cells slots hE hS hL (vk_c (vok_1.mpr (in32_64 hx)) (vk_t hv)) hR hc hs
theorem A_dup {v : AV} (h : decode mt.2.1 pc = .ok (.dup, 1)) (h1 : v.1 ≠ 1) (k : A mt d al (pc + 1) ls (v :: v :: st) M K) : A mt d al pc ls (v :: st) M K := by
  intro X jl H locs cells slots hE hS hL hv hR hc hs
  refine lv_dup hE.1 hE.2.1 h (by rw [tv_cat, if_neg h1]) ?_
  exact k X jl H locs cells slots hE hS hL (vk_c (vk_h hv) hv) hR hc hs
theorem A_dup2 {v w : AV} (h : decode mt.2.1 pc = .ok (.dup2, 1)) (h1 : v.1 ≠ 1) (h2 : w.1 ≠ 1) (k : A mt d al (pc + 1) ls (v :: w :: v :: w :: st) M K) : A mt d al pc ls (v :: w :: st) M K := by
  intro X jl H locs cells slots hE hS hL hv hR hc hs
  refine lv_dup2_11 hE.1 hE.2.1 h (by rw [tv_cat, if_neg h1]) (by rw [tv_cat, if_neg h2]) ?_
  exact k X jl H locs cells slots hE hS hL (vk_c (vk_h hv) (vk_c (vk_h (vk_t hv)) hv)) hR hc hs
theorem A_pop {v : AV} (h : decode mt.2.1 pc = .ok (.pop, 1)) (h1 : v.1 ≠ 1) (k : A mt d al (pc + 1) ls st M K) : A mt d al pc ls (v :: st) M K := by
  intro X jl H locs cells slots hE hS hL hv hR hc hs
  refine lv_pop hE.1 hE.2.1 h (by rw [tv_cat, if_neg h1]) ?_
  exact k X jl H locs cells slots hE hS hL (vk_t hv) hR hc hs
theorem A_goto {off : Int} {tgt : Nat} (h : decode mt.2.1 pc = .ok (.goto off, 3)) (ht : (pc : Int) + off = (tgt : Int)) (k : A mt d al tgt ls st M K) : A mt d al pc ls st M K := by
  intro X jl H locs cells slots hE hS hL hv hR hc hs
  refine lv_goto hE.1 hE.2.1 h ht ?_
  exact k X jl H locs cells slots hE hS hL (hv) hR hc hs
theorem A_if_eq {x : Int} {off : Int} {tgt : Nat} (h : decode mt.2.1 pc = .ok (.ifCond .eq off, 3)) (ht : (pc : Int) + off = (tgt : Int)) (kt : x = 0 → A mt d al tgt ls st M K) (kf : ¬ (x = 0) → A mt d al (pc + 3) ls st M K) : A mt d al pc ls ((0, x) :: st) M K := by
  intro X jl H locs cells slots hE hS hL hv hR hc hs
  have hx : in32 x := vok_0.mp (vk_h hv)
  have h00 : in32 0 := by unfold in32; omega
  have hcv := ofI_eq hx h00
  rw [ofI_0] at hcv
  refine lv_if_eq (x := Int32.ofInt x) hE.1 hE.2.1 h ht (fun e => ?_) (fun e => ?_)
  · exact kt (hcv.mp e) X jl H locs cells slots hE hS hL (vk_t hv) hR hc hs
  · exact kf (fun q => e (hcv.mpr q)) X jl H locs cells slots hE hS hL (vk_t hv) hR hc hs
theorem A_if_ne {x : Int} {off : Int} {tgt : Nat} (h : decode mt.2.1 pc = .ok (.ifCond .ne off, 3)) (ht : (pc : Int) + off = (tgt : Int)) (kt : x ≠ 0 → A mt d al tgt ls st M K) (kf : ¬ (x ≠ 0) → A mt d al (pc + 3) ls st M K) : A mt d al pc ls ((0, x) :: st) M K := by
  intro X jl H locs cells slots hE hS hL hv hR hc hs
  have hx : in32 x := vok_0.mp (vk_h hv)
  have h00 : in32 0 := by unfold in32; omega
  have hcv := not_congr (ofI_eq hx h00)
  rw [ofI_0] at hcv
  refine lv_if_ne (x := Int32.ofInt x) hE.1 hE.2.1 h ht (fun e => ?_) (fun e => ?_)
  · exact kt (hcv.mp e) X jl H locs cells slots hE hS hL (vk_t hv) hR hc hs
  · exact kf (fun q => (hcv.mpr q) e) X jl H locs cells slots hE hS hL (vk_t hv) hR hc hs
theorem A_if_lt {x : Int} {off : Int} {tgt : Nat} (h : decode mt.2.1 pc = .ok (.ifCond .lt off, 3)) (ht : (pc : Int) + off = (tgt : Int)) (kt : x < 0 → A mt d al tgt ls st M K) (kf : ¬ (x < 0) → A mt d al (pc + 3) ls st M K) : A mt d al pc ls ((0, x) :: st) M K := by
  intro X jl H locs cells slots hE hS hL hv hR hc hs
  have hx : in32 x := vok_0.mp (vk_h hv)
  have h00 : in32 0 := by unfold in32; omega
  have hcv := ofI_lt hx h00
  rw [ofI_0] at hcv
  refine lv_if_lt (x := Int32.ofInt x) hE.1 hE.2.1 h ht (fun e => ?_) (fun e => ?_)
  · exact kt (hcv.mp e) X jl H locs cells slots hE hS hL (vk_t hv) hR hc hs
  · exact kf (fun q => e (hcv.mpr q)) X jl H locs cells slots hE hS hL (vk_t hv) hR hc hs
theorem A_if_ge {x : Int} {off : Int} {tgt : Nat} (h : decode mt.2.1 pc = .ok (.ifCond .ge off, 3)) (ht : (pc : Int) + off = (tgt : Int)) (kt : 0 ≤ x → A mt d al tgt ls st M K) (kf : ¬ (0 ≤ x) → A mt d al (pc + 3) ls st M K) : A mt d al pc ls ((0, x) :: st) M K := by
  intro X jl H locs cells slots hE hS hL hv hR hc hs
  have hx : in32 x := vok_0.mp (vk_h hv)
  have h00 : in32 0 := by unfold in32; omega
  have hcv := ofI_le h00 hx
  rw [ofI_0] at hcv
  refine lv_if_ge (x := Int32.ofInt x) hE.1 hE.2.1 h ht (fun e => ?_) (fun e => ?_)
  · exact kt (hcv.mp e) X jl H locs cells slots hE hS hL (vk_t hv) hR hc hs
  · exact kf (fun q => e (hcv.mpr q)) X jl H locs cells slots hE hS hL (vk_t hv) hR hc hs
theorem A_if_gt {x : Int} {off : Int} {tgt : Nat} (h : decode mt.2.1 pc = .ok (.ifCond .gt off, 3)) (ht : (pc : Int) + off = (tgt : Int)) (kt : 0 < x → A mt d al tgt ls st M K) (kf : ¬ (0 < x) → A mt d al (pc + 3) ls st M K) : A mt d al pc ls ((0, x) :: st) M K := by
  intro X jl H locs cells slots hE hS hL hv hR hc hs
  have hx : in32 x := vok_0.mp (vk_h hv)
  have h00 : in32 0 := by unfold in32; omega
  have hcv := ofI_lt h00 hx
  rw [ofI_0] at hcv
  refine lv_if_gt (x := Int32.ofInt x) hE.1 hE.2.1 h ht (fun e => ?_) (fun e => ?_)
  · exact kt (hcv.mp e) X jl H locs cells slots hE hS hL (vk_t hv) hR hc hs
  · exact kf (fun q => e (hcv.mpr q)) X jl H locs cells slots hE hS hL (vk_t hv) hR hc hs
theorem A_if_le {x : Int} {off : Int} {tgt : Nat} (h : decode mt.2.1 pc = .ok (.ifCond .le off, 3)) (ht : (pc : Int) + off = (tgt : Int)) (kt : x ≤ 0 → A mt d al tgt ls st M K) (kf : ¬ (x ≤ 0) → A mt d al (pc + 3) ls st M K) : A mt d al pc ls ((0, x) :: st) M K := by
  intro X jl H locs cells slots hE hS hL hv hR hc hs
  have hx : in32 x := vok_0.mp (vk_h hv)
  have h00 : in32 0 := by unfold in32; omega
  have hcv := ofI_le hx h00
  rw [ofI_0] at hcv
  refine lv_if_le (x := Int32.ofInt x) hE.1 hE.2.1 h ht (fun e => ?_) (fun e => ?_)
  · exact kt (hcv.mp e) X jl H locs cells slots hE hS hL (vk_t hv) hR hc hs
  · exact kf (fun q => e (hcv.mpr q)) X jl H locs cells slots hE hS hL (vk_t hv) hR hc hs
theorem A_ic_eq {x y : Int} {off : Int} {tgt : Nat} (h : decode mt.2.1 pc = .ok (.if_icmp .eq off, 3)) (ht : (pc : Int) + off = (tgt : Int)) (kt : x = y → A mt d al tgt ls st M K) (kf : ¬ (x = y) → A mt d al (pc + 3) ls st M K) : A mt d al pc ls ((0, y) :: (0, x) :: st) M K := by
  intro X jl H locs cells slots hE hS hL hv hR hc hs
  have hy : in32 y := vok_0.mp (vk_h hv)
  have hx : in32 x := vok_0.mp (vk_h (vk_t hv))
  have hcv := ofI_eq hx hy
  refine lv_icmp_eq (x := Int32.ofInt x) (y := Int32.ofInt y) hE.1 hE.2.1 h ht (fun e => ?_) (fun e => ?_)
  · exact kt (hcv.mp e) X jl H locs cells slots hE hS hL (vk_t (vk_t hv)) hR hc hs
  · exact kf (fun q => e (hcv.mpr q)) X jl H locs cells slots hE hS hL (vk_t (vk_t hv)) hR hc hs
theorem A_ic_ne {x y : Int} {off : Int} {tgt : Nat} (h : decode mt.2.1 pc = .ok (.if_icmp .ne off, 3)) (ht : (pc : Int) + off = (tgt : Int)) (kt : x ≠ y → A mt d al tgt ls st M K) (kf : ¬ (x ≠ y) → A mt d al (pc + 3) ls st M K) : A mt d al pc ls ((0, y) :: (0, x) :: st) M K := by
  intro X jl H locs cells slots hE hS hL hv hR hc hs
  have hy : in32 y := vok_0.mp (vk_h hv)
  have hx : in32 x := vok_0.mp (vk_h (vk_t hv))
  have hcv := not_congr (ofI_eq hx hy)
  refine lv_icmp_ne (x := Int32.ofInt x) (y := Int32.ofInt y) hE.1 hE.2.1 h ht (fun e => ?_) (fun e => ?_)
  · exact kt (hcv.mp e) X jl H locs cells slots hE hS hL (vk_t (vk_t hv)) hR hc hs
  · exact kf (fun q => (hcv.mpr q) e) X jl H locs cells slots hE hS hL (vk_t (vk_t hv)) hR hc hs
theorem A_ic_lt {x y : Int} {off : Int} {tgt : Nat} (h : decode mt.2.1 pc = .ok (.if_icmp .lt off, 3)) (ht : (pc : Int) + off = (tgt : Int)) (kt : x < y → A mt d al tgt ls st M K) (kf : ¬ (x < y) → A mt d al (pc + 3) ls st M K) : A mt d al pc ls ((0, y) :: (0, x) :: st) M K := by
  intro X jl H locs cells slots hE hS hL hv hR hc hs
  have hy : in32 y := vok_0.mp (vk_h hv)
  have hx : in32 x := vok_0.mp (vk_h (vk_t hv))
  have hcv := ofI_lt hx hy
  refine lv_icmp_lt (x := Int32.ofInt x) (y := Int32.ofInt y) hE.1 hE.2.1 h ht (fun e => ?_) (fun e => ?_)
  · exact kt (hcv.mp e) X jl H locs cells slots hE hS hL (vk_t (vk_t hv)) hR hc hs
  · exact kf (fun q => e (hcv.mpr q)) X jl H locs cells slots hE hS hL (vk_t (vk_t hv)) hR hc hs
theorem A_ic_ge {x y : Int} {off : Int} {tgt : Nat} (h : decode mt.2.1 pc = .ok (.if_icmp .ge off, 3)) (ht : (pc : Int) + off = (tgt : Int)) (kt : y ≤ x → A mt d al tgt ls st M K) (kf : ¬ (y ≤ x) → A mt d al (pc + 3) ls st M K) : A mt d al pc ls ((0, y) :: (0, x) :: st) M K := by
  intro X jl H locs cells slots hE hS hL hv hR hc hs
  have hy : in32 y := vok_0.mp (vk_h hv)
  have hx : in32 x := vok_0.mp (vk_h (vk_t hv))
  have hcv := ofI_le hy hx
  refine lv_icmp_ge (x := Int32.ofInt x) (y := Int32.ofInt y) hE.1 hE.2.1 h ht (fun e => ?_) (fun e => ?_)
  · exact kt (hcv.mp e) X jl H locs cells slots hE hS hL (vk_t (vk_t hv)) hR hc hs
  · exact kf (fun q => e (hcv.mpr q)) X jl H locs cells slots hE hS hL (vk_t (vk_t hv)) hR hc hs
theorem A_ic_gt {x y : Int} {off : Int} {tgt : Nat} (h : decode mt.2.1 pc = .ok (.if_icmp .gt off, 3)) (ht : (pc : Int) + off = (tgt : Int)) (kt : y < x → A mt d al tgt ls st M K) (kf : ¬ (y < x) → A mt d al (pc + 3) ls st M K) : A mt d al pc ls ((0, y) :: (0, x) :: st) M K := by
  intro X jl H locs cells slots hE hS hL hv hR hc hs
  have hy : in32 y := vok_0.mp (vk_h hv)
  have hx : in32 x := vok_0.mp (vk_h (vk_t hv))
  have hcv := ofI_lt hy hx
  refine lv_icmp_gt (x := Int32.ofInt x) (y := Int32.ofInt y) hE.1 hE.2.1 h ht (fun e => ?_) (fun e => ?_)
  · exact kt (hcv.mp e) X jl H locs cells slots hE hS hL (vk_t (vk_t hv)) hR hc hs
  · exact kf (fun q => e (hcv.mpr q)) X jl H locs cells slots hE hS hL (vk_t (vk_t hv)) hR hc hs
theorem A_ic_le {x y : Int} {off : Int} {tgt : Nat} (h : decode mt.2.1 pc = .ok (.if_icmp .le off, 3)) (ht : (pc : Int) + off = (tgt : Int)) (kt : x ≤ y → A mt d al tgt ls st M K) (kf : ¬ (x ≤ y) → A mt d al (pc + 3) ls st M K) : A mt d al pc ls ((0, y) :: (0, x) :: st) M K := by
  intro X jl H locs cells slots hE hS hL hv hR hc hs
  have hy : in32 y := vok_0.mp (vk_h hv)
  have hx : in32 x := vok_0.mp (vk_h (vk_t hv))
  have hcv := ofI_le hx hy
  refine lv_icmp_le (x := Int32.ofInt x) (y := Int32.ofInt y) hE.1 hE.2.1 h ht (fun e => ?_) (fun e => ?_)
  · exact kt (hcv.mp e) X jl H locs cells slots hE hS hL (vk_t (vk_t hv)) hR hc hs
  · exact kf (fun q => e (hcv.mpr q)) X jl H locs cells slots hE hS hL (vk_t (vk_t hv)) hR hc hs
end STEP
