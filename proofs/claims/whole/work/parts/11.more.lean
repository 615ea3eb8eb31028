/-! switches, Math, arraycopy, over A -/
section MORE
variable {mt : MT} {d al pc : Nat} {ls st : List AV} {M : Mem} {K : List AV → Mem → Prop}
theorem A_tin {x : Int} {dflt lo hi : Int} {offs : Array Int} {len : Nat} {off : Int} {tgt : Nat} (h : decode mt.2.1 pc = .ok (.tableswitch dflt lo hi offs, len)) (h1 : lo ≤ x) (h2 : x ≤ hi) (ho : offs[(x - lo).toNat]? = some off) (ht : (pc : Int) + off = (tgt : Int)) (k : A mt d al tgt ls st M K) : A mt d al pc ls ((0, x) :: st) M K := by
  intro X jl H locs cells slots hE hS hL hv hR hc hs
  have hx : in32 x := vok_0.mp (vk_h hv)
  have e : (Int32.ofInt x).toInt = x := by rw [toI_of, w32_of hx]
  exact lv_tableIn (x := Int32.ofInt x) hE.1 hE.2.1 h (by rw [e]; omega) (by rw [e]; omega) (by rw [e]; exact ho) ht (k X jl H locs cells slots hE hS hL (vk_t hv) hR hc hs)
theorem A_tout {x : Int} {dflt lo hi : Int} {offs : Array Int} {len : Nat} {tgt : Nat} (h : decode mt.2.1 pc = .ok (.tableswitch dflt lo hi offs, len)) (h1 : x < lo ∨ hi < x) (ht : (pc : Int) + dflt = (tgt : Int)) (k : A mt d al tgt ls st M K) : A mt d al pc ls ((0, x) :: st) M K := by
  intro X jl H locs cells slots hE hS hL hv hR hc hs
  have hx : in32 x := vok_0.mp (vk_h hv)
  have e : (Int32.ofInt x).toInt = x := by rw [toI_of, w32_of hx]
  exact lv_tableOut (x := Int32.ofInt x) hE.1 hE.2.1 h (by rw [e]; exact h1) ht (k X jl H locs cells slots hE hS hL (vk_t hv) hR hc hs)
theorem A_lkup {x : Int} {dflt : Int} {ps : Array (Int × Int)} {len : Nat} {off : Int} {tgt : Nat} (h : decode mt.2.1 pc = .ok (.lookupswitch dflt ps, len)) (hp : (ps.toList.zip (ps.toList.drop 1)).all (fun (a, next) => a.1 < next.1) = true) (ho : Op.lookupswitch.offset ps.toList dflt x = off) (ht : (pc : Int) + off = (tgt : Int)) (k : A mt d al tgt ls st M K) : A mt d al pc ls ((0, x) :: st) M K := by
  intro X jl H locs cells slots hE hS hL hv hR hc hs
  have hx : in32 x := vok_0.mp (vk_h hv)
  have e : (Int32.ofInt x).toInt = x := by rw [toI_of, w32_of hx]
  exact lv_lookup (x := Int32.ofInt x) hE.1 hE.2.1 h hp (by rw [e]; exact ho) ht (k X jl H locs cells slots hE hS hL (vk_t hv) hR hc hs)
theorem lsz {X : JC} {jl : Array Slot} (hE : EN mt d X) (hL : LSX X mt ls jl) : (jc X).maxLocals = jl.size := hE.2.2.1.trans hL.1.1.symm
theorem rooms {X : JC} {r : Nat} (hE : EN mt d X) (hd : 1 ≤ d) (hr : r ≤ 8) : 1 ≤ (jR X).frames ∧ r + 13 ≤ (jR X).locals := by
  obtain ⟨h1, h2, -⟩ := hE.2.2.2.2.2.2.2.1
  omega
theorem A_max {x y : Int} {idx : Nat} (h : decode mt.2.1 pc = .ok (.invokestatic idx, 3)) (hd : 1 ≤ d) (hr8 : acs st ≤ 8) (h1 : Cond.methodLink mt.1.cls idx Lib.Math.max.name ∈ gtb) (h2 : Cond.static Lib.Math.max.name ∈ gtb) (h3 : Cond.initialized "java/lang/Math" ∈ gtb) (h4 : Cond.code Lib.Math.max.name Lib.Math.max.code 2 (some .int) ∈ gtb)
    (k : A mt d al (pc + 3) ls ((0, if x < y then y else x) :: st) M K) : A mt d al pc ls ((0, y) :: (0, x) :: st) M K := by
  intro X jl H locs cells slots hE hS hL hv hR hc hs
  have hy : in32 y := vok_0.mp (vk_h hv)
  have hx : in32 x := vok_0.mp (vk_h (vk_t hv))
  have hw := gtb_hts hE
  have hrm := rooms hE hd hr8
  have hk := k X jl H locs cells slots hE hS hL (vk_c (vok_0.mpr (by split <;> assumption)) (vk_t (vk_t hv))) hR hc hs
  refine va_mmax (x := Int32.ofInt x) (y := Int32.ofInt y) hE.1 hE.2.1 (lsz hE hL) hE.2.2.2.2.2.1 (hw _ h1) (hw _ h2) (hw _ h3) (hw _ h4) hrm.1 (by have := acs_eq (jad X) st; rw [this]; exact hrm.2) (by have := hE.2.2.2.2.2.2.2.1.2.2.1; omega) (by have := hE.2.2.2.2.2.2.2.1.2.2.2.1; omega) h ?_
  have e : (if Int32.ofInt x < Int32.ofInt y then Int32.ofInt y else Int32.ofInt x) = Int32.ofInt (if x < y then y else x) := by
    by_cases q : x < y
    · rw [if_pos q, if_pos ((ofI_lt hx hy).mpr q)]
    · rw [if_neg q, if_neg (fun z => q ((ofI_lt hx hy).mp z))]
  rw [e]; exact hk
theorem A_min {x y : Int} {idx : Nat} (h : decode mt.2.1 pc = .ok (.invokestatic idx, 3)) (hd : 1 ≤ d) (hr8 : acs st ≤ 8) (h1 : Cond.methodLink mt.1.cls idx Lib.Math.min.name ∈ gtb) (h2 : Cond.static Lib.Math.min.name ∈ gtb) (h3 : Cond.initialized "java/lang/Math" ∈ gtb) (h4 : Cond.code Lib.Math.min.name Lib.Math.min.code 2 (some .int) ∈ gtb)
    (k : A mt d al (pc + 3) ls ((0, if y < x then y else x) :: st) M K) : A mt d al pc ls ((0, y) :: (0, x) :: st) M K := by
  intro X jl H locs cells slots hE hS hL hv hR hc hs
  have hy : in32 y := vok_0.mp (vk_h hv)
  have hx : in32 x := vok_0.mp (vk_h (vk_t hv))
  have hw := gtb_hts hE
  have hrm := rooms hE hd hr8
  have hk := k X jl H locs cells slots hE hS hL (vk_c (vok_0.mpr (by split <;> assumption)) (vk_t (vk_t hv))) hR hc hs
  refine va_mmin (x := Int32.ofInt x) (y := Int32.ofInt y) hE.1 hE.2.1 (lsz hE hL) hE.2.2.2.2.2.1 (hw _ h1) (hw _ h2) (hw _ h3) (hw _ h4) hrm.1 (by have := acs_eq (jad X) st; rw [this]; exact hrm.2) (by have := hE.2.2.2.2.2.2.2.1.2.2.1; omega) (by have := hE.2.2.2.2.2.2.2.1.2.2.2.1; omega) h ?_
  have e : (if Int32.ofInt y < Int32.ofInt x then Int32.ofInt y else Int32.ofInt x) = Int32.ofInt (if y < x then y else x) := by
    by_cases q : y < x
    · rw [if_pos q, if_pos ((ofI_lt hy hx).mpr q)]
    · rw [if_neg q, if_neg (fun z => q ((ofI_lt hy hx).mp z))]
  rw [e]; exact hk
theorem A_labs {x : Int} {idx : Nat} (h : decode mt.2.1 pc = .ok (.invokestatic idx, 3)) (hd : 1 ≤ d) (hr8 : acs st ≤ 8) (h1 : Cond.methodLink mt.1.cls idx Lib.MathLoose.abs_long.x ∈ gtb) (h2 : Cond.static Lib.MathLoose.abs_long.x ∈ gtb) (h3 : Cond.initialized "java/lang/Math" ∈ gtb) (h4 : Cond.code Lib.MathLoose.abs_long.x Lib.MathLoose.abs_long.code 2 (some .long) ∈ gtb)
    (k : A mt d al (pc + 3) ls ((1, if 0 < x then x else w64 (-x)) :: st) M K) : A mt d al pc ls ((1, x) :: st) M K := by
  intro X jl H locs cells slots hE hS hL hv hR hc hs
  have hx : in64 x := vok_1.mp (vk_h hv)
  have hw := gtb_hts hE
  have hrm := rooms hE hd hr8
  have hk := k X jl H locs cells slots hE hS hL (vk_c (vok_1.mpr (by split; assumption; exact w64_in _)) (vk_t hv)) hR hc hs
  refine va_mabs_long (x := Int64.ofInt x) hE.1 hE.2.1 (lsz hE hL) hE.2.2.2.2.2.1 (hw _ h1) (hw _ h2) (hw _ h3) (hw _ h4) hrm.1 (by have := acs_eq (jad X) st; rw [this]; exact hrm.2) (by have := hE.2.2.2.2.2.2.2.1.2.2.1; omega) (by have := hE.2.2.2.2.2.2.2.1.2.2.2.1; omega) h ?_
  have e : (if 0 < Int64.ofInt x then Int64.ofInt x else -Int64.ofInt x) = Int64.ofInt (if 0 < x then x else w64 (-x)) := by
    have e0 := ofL_lt (x := 0) (y := x) (by unfold in64; omega) hx
    rw [ofL_0] at e0
    by_cases q : 0 < x
    · rw [if_pos q, if_pos (e0.mpr q)]
    · rw [if_neg q, if_neg (fun z => q (e0.mp z)), ofL_neg]
  rw [e]; exact hk
theorem copy_room {X : JC} (hE : EN mt d X) (hd : 1 ≤ d) (hr8 : acs st ≤ 8) : ((st.map (tv (jad X))).map fun v => v.category).sum + (nativeFrameWords "java/lang/System" "arraycopy" 5 + 11) ≤ (jR X).locals := by
  have h1 := acs_eq (jad X) st
  have h2 : nativeFrameWords "java/lang/System" "arraycopy" 5 ≤ 40 := by decide +kernel
  have h3 := hE.2.2.2.2.2.2.2.1.2.1
  omega
/-- n places of one row of ints from the first on become those of another -/
def mcpy (M : Mem) (src dst n : Nat) : Mem := fun k j => if k = dst ∧ j < n then M src j else M k j
theorem A_copy {a b n : Int} {idx : Nat} (h : decode mt.2.1 pc = .ok (.invokestatic idx, 3)) (hd : 1 ≤ d) (hr8 : acs st ≤ 8) (h1 : Cond.methodLink mt.1.cls idx arraycopyName ∈ gtb) (h2 : Cond.native arraycopyName ∈ gtb) (h3 : Cond.static arraycopyName ∈ gtb) (h4 : Cond.initialized "java/lang/System" ∈ gtb)
    (hn0 : 0 ≤ n) (hna : n ≤ aln a.toNat) (hnb : n ≤ aln b.toNat) (k : A mt d al (pc + 3) ls st (mcpy M a.toNat b.toNat n.toNat) K) : A mt d al pc ls ((0, n) :: (0, 0) :: (30, b) :: (0, 0) :: (30, a) :: st) M K := by
  intro X jl H locs cells slots hE hS hL hv hR hc hs
  have hn : in32 n := vok_0.mp (vk_h hv)
  obtain ⟨-, hb0, hb1, hkb⟩ := (vok_r (by omega)).mp (vk_h (vk_t (vk_t hv)))
  obtain ⟨-, ha0, ha1, hka⟩ := (vok_r (by omega)).mp (vk_h (vk_t (vk_t (vk_t (vk_t hv)))))
  have hw := gtb_hts hE
  have hnb' := kd_nw hkb (by omega) (by omega) (by omega) (by omega)
  have hna' := kd_nw hka (by omega) (by omega) (by omega) (by omega)
  obtain ⟨hf, hl, -⟩ := hE.2.2.2.2.2.2.2.1
  have h00 : ¬ (Int32.ofInt 0 < 0) := by decide
  have h01 : (Int32.ofInt 0).toNatClampNeg = 0 := by decide
  have hnn : ¬ (Int32.ofInt n < 0) := by
    have := ofI_lt (y := 0) hn (by unfold in32; omega)
    rw [ofI_0] at this
    intro q; have := this.mp q; omega
  rw [List.map_cons, List.map_cons, List.map_cons, List.map_cons, List.map_cons, tv_0, tv_0, tv_r _ (show 2 ≤ 30 by omega), tv_r _ (show 2 ≤ 30 by omega)]
  refine va_copyi (c0 := (jC X).1) (c1 := (jC X).1) (n0 := aln a.toNat) (n1 := aln b.toNat) (f := fun j => Int32.ofInt (M a.toNat j)) (g := fun j => Int32.ofInt (M b.toNat j)) (ty := .int) (sp := Int32.ofInt 0) (dp := Int32.ofInt 0) (n := Int32.ofInt n) hE.1 hE.2.1 (lsz hE hL) hE.2.2.2.2.2.1 (hw _ h1) (hw _ h2) (hw _ h3) (hw _ h4) hE.2.2.2.2.2.2.2.2.1 hS.1 hS.2.1 hS.2.2.1 a.toNat b.toNat 0 0 (by rw [wl_get hna', ent_30 hka]) (by rw [wl_get hnb', ent_30 hkb]) rfl rfl rfl h00 h00 hnn (by rw [h01, nm_clamp hn0 hn]; omega) (by rw [h01, nm_clamp hn0 hn]; omega) (fun i _ => rfl) (by omega) (copy_room hE hd hr8) h (fun H1 locs1 hP hD hS1 => ?_)
  have e1 : (wl (jad X) (jC X) M).set b.toNat (jad X b.toNat, .inl ((jC X).1, aln b.toNat, .inl (va_cpy (fun j => Int32.ofInt (M a.toNat j)) (fun j => Int32.ofInt (M b.toNat j)) (Int32.ofInt 0).toNatClampNeg (Int32.ofInt 0).toNatClampNeg (Int32.ofInt n).toNatClampNeg))) = wl (jad X) (jC X) (mcpy M a.toNat b.toNat n.toNat) :=
    wl_put hnb' (by
      rw [ent_30 hkb, h01, nm_clamp hn0 hn]
      have e2 : va_cpy (fun j => Int32.ofInt (M a.toNat j)) (fun j => Int32.ofInt (M b.toNat j)) 0 0 n.toNat = fun j => Int32.ofInt (mcpy M a.toNat b.toNat n.toNat b.toNat j) := by
        funext j
        unfold va_cpy mcpy
        by_cases hj : j < n.toNat
        · rw [if_pos ⟨Nat.zero_le _, by omega⟩, if_pos ⟨rfl, hj⟩]; simp
        · rw [if_neg (by omega), if_neg (fun z => hj z.2)]
      rw [e2]) (fun k' hk' j' => by unfold mcpy; rw [if_neg (fun z => hk' z.1)])
  rw [e1] at hP hD
  refine k X jl H1 locs1 cells slots hE ⟨hP, hD, hS1, ?_⟩ hL (vk_t (vk_t (vk_t (vk_t (vk_t hv))))) hR hc hs
  obtain ⟨m1, m2, m3⟩ := hS.2.2.2
  refine ⟨fun k' j' => ?_, fun k' j' hk' => ?_, fun k' hk' => ?_⟩
  · unfold mcpy; split; exact m1 _ _; exact m1 _ _
  · unfold mcpy; split; exact m2 _ _ (by omega); exact m2 _ _ hk'
  · rw [← m3 k' hk']; funext j'; unfold mcpy; rw [if_neg]; rintro ⟨z, -⟩; omega
end MORE
