/-! look: the class's own, which throws; the law's, which catches -/
theorem cast_self {a : Array Value} {s : State} {x : String} (h : (Cond.initialized x).before a s = true) : (Cond.castable x x).before a s = true := by
  simp only [Cond.before, Cond.holds, Cond.value] at h ⊢
  cases hc : s.vm.findClass x with
  | none => simp [hc] at h
  | some c =>
    have e : s.vm.assignable c c = true := by
      show s.vm.assignableAux (255 + 1) c c = true
      rw [Vm.assignableAux, beq_self_eq_true, Bool.true_or]
    simp [hc, e]
theorem dec_of {a : Array Value} {s : State} {x : MethodName} {b : ByteArray} {m : Nat} {r : Option FieldType} (h1 : (Cond.instanceMethod x).before a s = true) (h2 : (Cond.code x b m r).before a s = true) : (Cond.declares x).before a s = true := by
  obtain ⟨mi, meth, hn, hm, hst, -⟩ := Cond.instanceMethod_spec h1
  obtain ⟨meth', c, hm', -, -, -, -, -, -, hp⟩ := Cond.code_spec hn h2
  cases hm.symm.trans hm'
  simp [Cond.before, Cond.holds, Cond.value, hn, hm, hst, hp]
theorem im_rt : Cond.instanceMethod ⟨"java/lang/RuntimeException", "<init>", "()V"⟩ ∈ gtb := gtb_in (tb_5 (List.mem_of_getElem? (i := 236) (by decide +kernel))) rfl
set_option maxRecDepth 100000 in
theorem co_rt : ∃ b m r, Cond.code ⟨"java/lang/RuntimeException", "<init>", "()V"⟩ b m r ∈ gtb := ⟨_, _, _, gtb_in (tb_5 (List.mem_of_getElem? (i := 237) (by rfl))) rfl⟩
theorem im_ex : Cond.instanceMethod ⟨"java/lang/Exception", "<init>", "()V"⟩ ∈ gtb := gtb_in (tb_5 (List.mem_of_getElem? (i := 239) (by decide +kernel))) rfl
set_option maxRecDepth 100000 in
theorem co_ex : ∃ b m r, Cond.code ⟨"java/lang/Exception", "<init>", "()V"⟩ b m r ∈ gtb := ⟨_, _, _, gtb_in (tb_6 (List.mem_of_getElem? (i := 0) (by rfl))) rfl⟩
theorem im_th : Cond.instanceMethod ⟨"java/lang/Throwable", "<init>", "()V"⟩ ∈ gtb := gtb_in (tb_5 (List.mem_of_getElem? (i := 215) (by decide +kernel))) rfl
set_option maxRecDepth 100000 in
theorem co_th : ∃ b m r, Cond.code ⟨"java/lang/Throwable", "<init>", "()V"⟩ b m r ∈ gtb := ⟨_, _, _, gtb_in (tb_5 (List.mem_of_getElem? (i := 216) (by rfl))) rfl⟩
theorem dec_thr {a : Array Value} {s : State} (hg : ∀ w ∈ gtb, w.before a s = true) : ∀ w ∈ [Cond.declares ⟨"java/lang/RuntimeException", "<init>", "()V"⟩, .declares ⟨"java/lang/Exception", "<init>", "()V"⟩, .declares ⟨"java/lang/Throwable", "<init>", "()V"⟩], w.before a s = true := by
  intro w hw
  rcases List.mem_cons.mp hw with rfl | hw
  · obtain ⟨_, _, _, h⟩ := co_rt; exact dec_of (hg _ im_rt) (hg _ h)
  rcases List.mem_cons.mp hw with rfl | hw
  · obtain ⟨_, _, _, h⟩ := co_ex; exact dec_of (hg _ im_ex) (hg _ h)
  rcases List.mem_cons.mp hw with rfl | hw
  · obtain ⟨_, _, _, h⟩ := co_th; exact dec_of (hg _ im_th) (hg _ h)
  cases hw
theorem ck_io : Cond.classLink RX10 135 "java/lang/IndexOutOfBoundsException" ∈ gtb := gtb_in (tb_5 (List.mem_of_getElem? (i := 192) (by decide +kernel))) rfl
theorem ii_io : Cond.initialized "java/lang/IndexOutOfBoundsException" ∈ gtb := gtb_in (tb_1 (List.mem_of_getElem? (i := 21) (by decide +kernel))) rfl
set_option maxRecDepth 100000 in
theorem at0_io {a : Array Value} {s : State} (hg : ∀ w ∈ gtb, w.before a s = true) : ∀ w ∈ vx_at0 RX10 137 "java/lang/IndexOutOfBoundsException" ["java/lang/RuntimeException", "java/lang/Exception"], w.before a s = true := by
  have h1 : vx_at0 RX10 137 "java/lang/IndexOutOfBoundsException" ["java/lang/RuntimeException", "java/lang/Exception"] = ([135, 1291, 1300, 1303, 1306, 1308, 1292, 1293, 148, 149, 1294, 1299, 1304, 1320, 1281, 1321, 1283, 1322, 1285, 1295, 1297, 1287, 1310, 1311, 1312, 1313, 1272, 1313, 1314, 1315, 1316, 1274, 1316, 1317, 1318, 1292, 1276, 1309, 1270, 1271, 1278, 1279, 1280, 1282, 1284, 1286, 1290, 1289, 1288] : List Nat).filterMap (fun i => lw_tbl[i]?) := by decide +kernel
  have h2 : (vx_at0 RX10 137 "java/lang/IndexOutOfBoundsException" ["java/lang/RuntimeException", "java/lang/Exception"]).all (fun w => goodWord w || decide (w ∈ [Cond.castable "java/lang/IndexOutOfBoundsException" "java/lang/IndexOutOfBoundsException", .declares ⟨"java/lang/RuntimeException", "<init>", "()V"⟩, .declares ⟨"java/lang/Exception", "<init>", "()V"⟩, .declares ⟨"java/lang/Throwable", "<init>", "()V"⟩])) = true := by decide +kernel
  intro w hw
  have hgw := List.all_eq_true.mp h2 w hw
  rw [h1] at hw
  obtain ⟨i, -, hi⟩ := List.mem_filterMap.mp hw
  rcases Bool.or_eq_true _ _ ▸ hgw with hgw | hgw
  · exact hg w (gtb_in (List.mem_of_getElem? hi) hgw)
  · have hm := of_decide_eq_true hgw
    rcases List.mem_cons.mp hm with rfl | hm
    · exact cast_self (hg _ ii_io)
    · exact dec_thr hg w hm
theorem ck_ns : Cond.classLink RX10 138 "java/util/NoSuchElementException" ∈ gtb := gtb_in (tb_6 (List.mem_of_getElem? (i := 14) (by decide +kernel))) rfl
theorem ii_ns : Cond.initialized "java/util/NoSuchElementException" ∈ gtb := gtb_in (tb_1 (List.mem_of_getElem? (i := 22) (by decide +kernel))) rfl
set_option maxRecDepth 100000 in
theorem at0_ns {a : Array Value} {s : State} (hg : ∀ w ∈ gtb, w.before a s = true) : ∀ w ∈ vx_at0 RX10 140 "java/util/NoSuchElementException" ["java/lang/RuntimeException", "java/lang/Exception"], w.before a s = true := by
  have h1 : vx_at0 RX10 140 "java/util/NoSuchElementException" ["java/lang/RuntimeException", "java/lang/Exception"] = ([135, 1291, 1300, 1303, 1306, 1308, 1292, 1293, 148, 149, 1294, 1299, 1304, 1320, 1281, 1321, 1283, 1322, 1285, 1295, 1297, 1287, 1341, 1342, 1343, 1313, 1272, 1313, 1314, 1315, 1316, 1274, 1316, 1317, 1318, 1292, 1276, 1340, 1332, 1333, 1334, 1302, 1335, 1336, 1337, 1338, 1290, 1289, 1339] : List Nat).filterMap (fun i => lw_tbl[i]?) := by decide +kernel
  have h2 : (vx_at0 RX10 140 "java/util/NoSuchElementException" ["java/lang/RuntimeException", "java/lang/Exception"]).all (fun w => goodWord w || decide (w ∈ [Cond.castable "java/util/NoSuchElementException" "java/util/NoSuchElementException", .declares ⟨"java/lang/RuntimeException", "<init>", "()V"⟩, .declares ⟨"java/lang/Exception", "<init>", "()V"⟩, .declares ⟨"java/lang/Throwable", "<init>", "()V"⟩])) = true := by decide +kernel
  intro w hw
  have hgw := List.all_eq_true.mp h2 w hw
  rw [h1] at hw
  obtain ⟨i, -, hi⟩ := List.mem_filterMap.mp hw
  rcases Bool.or_eq_true _ _ ▸ hgw with hgw | hgw
  · exact hg w (gtb_in (List.mem_of_getElem? hi) hgw)
  · have hm := of_decide_eq_true hgw
    rcases List.mem_cons.mp hm with rfl | hm
    · exact cast_self (hg _ ii_ns)
    · exact dec_thr hg w hm
theorem cl_io : Cond.classLink RL 13 "java/lang/IndexOutOfBoundsException" ∈ gtb := gtb_in (tb_5 (List.mem_of_getElem? (i := 186) (by decide +kernel))) rfl
theorem cl_ns : Cond.classLink RL 15 "java/util/NoSuchElementException" ∈ gtb := gtb_in (tb_5 (List.mem_of_getElem? (i := 187) (by decide +kernel))) rfl
theorem r_10_look_33 {x1 : Int} {x2 : Int} {M : Mem} {P : Int → Mem → Prop} (h : (CD m5_build 3 [(15, ((34 : Nat) : Int)), (12, ((30 : Nat) : Int)), (0, (M 0 5)), (0, (M 21 2))] M (fun M2 => ((x2 = 0 → (CI m10_at 1 [(30, ((23 : Nat) : Int)), (0, x1)] M2 (fun r6 M7 => (P r6 M7)))) ∧ ((x2 = 1 → (CI m5_countAbove 3 [(15, ((34 : Nat) : Int)), (0, x1)] M2 (fun r10 M11 => (P r10 M11)))) ∧ ((x2 = 2 → (CI m5_belowOf 2 [(15, ((34 : Nat) : Int)), (0, x1)] M2 (fun r14 M15 => (CI mJ_bitCount 1 [(0, r14)] M15 (fun r17 M18 => (P r17 M18)))))) ∧ ((x2 < 0 ∨ 2 < x2) → (CI m5_levelWith 2 [(15, ((34 : Nat) : Int)), (0, x1)] M2 (fun r21 M22 => (CI mJ_bitCount 1 [(0, r21)] M22 (fun r24 M25 => (P (w32 (r24 - 1)) M25)))))))))))) : A m10_look 4 0 33 [(19, ((0 : Nat) : Int)), (0, x1), (0, x2)] [] M (Ki P) := by
  refine A_aload_n (i := 0) (f := 0) (by omega) rfl (by decide +kernel) rfl ?_
  refine B_getr (o' := ((34 : Nat) : Int)) (q := (RX10, TX10, 13)) (ci := 9) (j := 8) (by decide +kernel) rfl (by decide) rfl (by omega) fl_10_36 rfl ?_
  refine A_aload_n (i := 0) (f := 0) (by omega) rfl (by decide +kernel) rfl ?_
  refine B_getr (o' := ((30 : Nat) : Int)) (q := (RX10, TX10, 13)) (ci := 9) (j := 3) (by decide +kernel) rfl (by decide) rfl (by omega) fl_10_26 rfl ?_
  refine A_aload_n (i := 0) (f := 0) (by omega) rfl (by decide +kernel) rfl ?_
  refine B_getp (v := (M 0 5)) (q := (RX10, TX10, 13)) (ci := 9) (j := 4) (p := 5) (by decide +kernel) rfl (by decide) rfl (Or.inl rfl) fl_10_105 rfl ?_
  refine A_aload_n (i := 0) (f := 0) (by omega) rfl (by decide +kernel) rfl ?_
  refine B_getr (o' := ((21 : Nat) : Int)) (q := (RX10, TX10, 13)) (ci := 9) (j := 2) (by decide +kernel) rfl (by decide) rfl (by omega) fl_10_19 rfl ?_
  refine B_getp (v := (M 21 2)) (q := (RX0, TX0, 9)) (ci := 0) (j := 2) (p := 2) (by decide +kernel) rfl (by decide) rfl (Or.inl rfl) fl_10_141 rfl ?_
  refine A_cVd (q := (RX5, TX5, 5)) (ci := 5) (o := ((34 : Nat) : Int)) (args := [(12, ((30 : Nat) : Int)), (0, (M 0 5)), (0, (M 21 2))]) (st := []) (by decide +kernel) cv_m5_build rfl rfl in_m5_build se_m5_build lk_10_144 rfl (by omega) (Nat.le_of_ble_eq_true rfl) h (fun M2 h3 => ?_)
  refine A_iload_n (i := 2) (f := 2) rfl (by decide +kernel) rfl ?_
  have hsw : x2 = 0 ∨ x2 = 1 ∨ x2 = 2 ∨ (x2 < 0 ∨ 2 < x2) := by omega
  rcases hsw with e4 | e4 | e4 | e4
  · have h5 := h3.1 e4
    refine A_tin (len := 28) (dflt := 61) (lo := 0) (hi := 2) (offs := #[28, 40, 49]) (off := 28) (tgt := 84) (by decide +kernel) (by omega) (by omega) (by rw [e4]; rfl) (by omega) ?_
    refine A_aload_n (i := 0) (f := 0) (by omega) rfl (by decide +kernel) rfl ?_
    refine B_getr (o' := ((21 : Nat) : Int)) (q := (RX10, TX10, 13)) (ci := 9) (j := 2) (by decide +kernel) rfl (by decide) rfl (by omega) fl_10_19 rfl ?_
    refine B_getr (o' := ((23 : Nat) : Int)) (q := (RX0, TX0, 9)) (ci := 0) (j := 1) (by decide +kernel) rfl (by decide) rfl (by omega) fl_10_148 rfl ?_
    refine A_iload_n (i := 1) (f := 1) rfl (by decide +kernel) rfl ?_
    refine A_cSi (args := [(30, ((23 : Nat) : Int)), (0, x1)]) (st := []) (by decide +kernel) cv_m10_at st_m10_at lk_10_152 rfl (by omega) (Nat.le_of_ble_eq_true rfl) h5 (fun r6 M7 _ h8 => ?_)
    exact A_ret ⟨by decide +kernel, Or.inl rfl⟩ ⟨_, rfl, h8⟩
  · have h9 := h3.2.1 e4
    refine A_tin (len := 28) (dflt := 61) (lo := 0) (hi := 2) (offs := #[28, 40, 49]) (off := 40) (tgt := 96) (by decide +kernel) (by omega) (by omega) (by rw [e4]; rfl) (by omega) ?_
    refine A_aload_n (i := 0) (f := 0) (by omega) rfl (by decide +kernel) rfl ?_
    refine B_getr (o' := ((34 : Nat) : Int)) (q := (RX10, TX10, 13)) (ci := 9) (j := 8) (by decide +kernel) rfl (by decide) rfl (by omega) fl_10_36 rfl ?_
    refine A_iload_n (i := 1) (f := 1) rfl (by decide +kernel) rfl ?_
    refine A_cVi (q := (RX5, TX5, 5)) (ci := 5) (o := ((34 : Nat) : Int)) (args := [(0, x1)]) (st := []) (by decide +kernel) cv_m5_countAbove rfl rfl in_m5_countAbove se_m5_countAbove lk_10_156 rfl (by omega) (Nat.le_of_ble_eq_true rfl) h9 (fun r10 M11 _ h12 => ?_)
    exact A_ret ⟨by decide +kernel, Or.inl rfl⟩ ⟨_, rfl, h12⟩
  · have h13 := h3.2.2.1 e4
    refine A_tin (len := 28) (dflt := 61) (lo := 0) (hi := 2) (offs := #[28, 40, 49]) (off := 49) (tgt := 105) (by decide +kernel) (by omega) (by omega) (by rw [e4]; rfl) (by omega) ?_
    refine A_aload_n (i := 0) (f := 0) (by omega) rfl (by decide +kernel) rfl ?_
    refine B_getr (o' := ((34 : Nat) : Int)) (q := (RX10, TX10, 13)) (ci := 9) (j := 8) (by decide +kernel) rfl (by decide) rfl (by omega) fl_10_36 rfl ?_
    refine A_iload_n (i := 1) (f := 1) rfl (by decide +kernel) rfl ?_
    refine A_cVi (q := (RX5, TX5, 5)) (ci := 5) (o := ((34 : Nat) : Int)) (args := [(0, x1)]) (st := []) (by decide +kernel) cv_m5_belowOf rfl rfl in_m5_belowOf se_m5_belowOf lk_10_159 rfl (by omega) (Nat.le_of_ble_eq_true rfl) h13 (fun r14 M15 _ h16 => ?_)
    refine A_cSi (args := [(0, r14)]) (st := []) (by decide +kernel) cv_mJ_bitCount st_mJ_bitCount lk_10_162 rfl (by omega) (Nat.le_of_ble_eq_true rfl) h16 (fun r17 M18 _ h19 => ?_)
    exact A_ret ⟨by decide +kernel, Or.inl rfl⟩ ⟨_, rfl, h19⟩
  · have h20 := h3.2.2.2 e4
    refine A_tout (len := 28) (dflt := 61) (lo := 0) (hi := 2) (offs := #[28, 40, 49]) (tgt := 117) (by decide +kernel) e4 (by omega) ?_
    refine A_aload_n (i := 0) (f := 0) (by omega) rfl (by decide +kernel) rfl ?_
    refine B_getr (o' := ((34 : Nat) : Int)) (q := (RX10, TX10, 13)) (ci := 9) (j := 8) (by decide +kernel) rfl (by decide) rfl (by omega) fl_10_36 rfl ?_
    refine A_iload_n (i := 1) (f := 1) rfl (by decide +kernel) rfl ?_
    refine A_cVi (q := (RX5, TX5, 5)) (ci := 5) (o := ((34 : Nat) : Int)) (args := [(0, x1)]) (st := []) (by decide +kernel) cv_m5_levelWith rfl rfl in_m5_levelWith se_m5_levelWith lk_10_167 rfl (by omega) (Nat.le_of_ble_eq_true rfl) h20 (fun r21 M22 _ h23 => ?_)
    refine A_cSi (args := [(0, r21)]) (st := []) (by decide +kernel) cv_mJ_bitCount st_mJ_bitCount lk_10_162 rfl (by omega) (Nat.le_of_ble_eq_true rfl) h23 (fun r24 M25 _ h26 => ?_)
    refine A_iconst (a := 1) (by decide +kernel) (by unfold in32; omega) ?_
    refine A_isub (by decide +kernel) ?_
    exact A_ret ⟨by decide +kernel, Or.inl rfl⟩ ⟨_, rfl, h26⟩
abbrev mL_look : MT := (yL_look, method_3_code, 5, some .int)
abbrev hhL : List (Nat × Nat × Nat × Nat) := [(0, 10, 13, 13), (0, 10, 17, 15)]
set_option maxRecDepth 100000 in
theorem cw_L_look : Cond.codeWith yL_look method_3_code 5 (some .int) hhL ∈ gtb := gtb_in (tb_5 (List.mem_of_getElem? (i := 185) (by rfl))) rfl
theorem st_L_look : Cond.static yL_look ∈ gtb := gtb_in (tb_5 (List.mem_of_getElem? (i := 184) (by decide +kernel))) rfl
theorem lk_LL_39 : Cond.methodLink RL 39 yL_look ∈ gtb := gtb_in (tb_5 (List.mem_of_getElem? (i := 183) (by decide +kernel))) rfl
theorem in_L_law : Cond.initialized RL ∈ gtb := gtb_in (tb_1 (List.mem_of_getElem? (i := 0) (by decide +kernel))) rfl
/-- behind a call, here -/
theorem X_after {X : JC} {mt : MT} {d al' pc : Nat} {K : List AV → Mem → Prop} {M : Mem} {jl : Array Slot} {H : Heap} {locs : List Loc} {cells slots : Nat} {st : List AV} {st0 : List Value} {a : Array Value} (hE : EN mt d X) (hS : ST X M H locs)
    (hr : va_Run (jp X) (X.2.1) (je X) (jR X) (js X) (jm X) (ja X) (jb X) (jt X) (jc X) H locs cells slots al' (16 * al') (F0 (jm X) pc jl st0) (st.map (tv (jad X))) (QU (jad X) (jD X) (jC X) (jM X) K H.size a) (Aw (jad X) H.size))
    (kk : ∀ v M' H' locs', K v M' → (∀ x ∈ v, vok x) → ST X M' H' locs' → xW X H' locs' (cells + al') (slots + 16 * al') (F0 (jm X) (pc + 3) jl ((v ++ st).map (tv (jad X))))) : xW X H locs cells slots (F0 (jm X) pc jl st0) := by
  intro T hT X0
  obtain ⟨v, st₀, t, T', L, h0, X', hLo, e1, e2, ⟨v', M', q1, q2, q3, q4, q5, q6, q7, q8⟩, stp⟩ := hr T hT X0
  have hv' : v = (v'.map (tv (jad X))).head? := by cases q1; rfl
  have hAs := Aw_sub (H := H) hE.2.2.2.2.2.2.2.2.2.2.2.1 hE.2.2.2.2.2.2.2.2.2.2.2.2 hS.2.2.1.1
  have hl : v.toList ++ st.map (tv (jad X)) = (v' ++ st).map (tv (jad X)) := by
    rw [hv', List.map_append]
    congr 1
    match v', q2 with
    | [], _ => rfl
    | [w], _ => rfl
  have hF := q8
  rw [show va_F (Aw (jad X) H.size) st₀ t = (st₀.heap.size ≤ t.heap.size ∧ ∀ q : Nat, q < st₀.heap.size → ¬ Aw (jad X) H.size q → t.heap[q]? = st₀.heap[q]?) from rfl, h0] at hF
  have hS' : ST X M' T'.heap (locs ++ L) := by
    refine ⟨by rw [e1]; exact q4, q5.weaken (fun k q _ h => hAs q.1 h), ⟨Nat.le_trans hS.2.2.1.1 (by rw [e1]; exact hF.1), fun q h1 h2 => ?_, fun q hq => ?_⟩, q6⟩
    · rw [e1, hF.2 q (Nat.lt_of_lt_of_le h1 hS.2.2.1.1) (fun z => h2 (hAs q z))]
      exact hS.2.2.1.2.1 q h1 h2
    · rcases List.mem_append.mp hq with h | h
      · exact hS.2.2.1.2.2 q h
      · exact hAs _ (hLo q h)
  have hk := kk v' M' T'.heap (locs ++ L) q3 q7 hS'
  rw [← hl] at hk
  obtain ⟨t2, a1, b1⟩ := hk T' rfl X'
  exact ⟨t2, stp t2 a1, b1⟩
/-- what is thrown, and the world then -/
def LXC (ad : Nat → Nat) (dd : va_G) (cs : CS) (SM M : Mem) (T : Int) (sz : Nat) : String → State → State → Prop := fun E st t =>
  ((E = "java/lang/IndexOutOfBoundsException" ∧ T = 1) ∨ (E = "java/util/NoSuchElementException" ∧ T = 2)) ∧ va_P dd wcl (wl ad cs M) t.heap ∧ va_D (Aw ad sz) (wl ad cs M) ∧ va_F (Aw ad sz) st t
section LOOK
variable {pp n nf : Nat} {s : Int} {F : FTab} {ag C : Nat → Int} {Bg E : Nat → Nat} {M : Mem} {x w : Int}
theorem s_look33 {P : Int → Mem → Prop} (hS : SC M pp n s nf F ag C Bg E) (hf : SF pp s nf F) (hx : 0 ≤ x ∧ x < pp) (hw : 0 ≤ w ∧ w ≤ 3) (h : ∀ M', Fp csp M M' → P (lkV pp nf s F ag x w) M') : A m10_look 4 0 33 [(19, ((0 : Nat) : Int)), (0, x), (0, w)] [] M (Ki P) := by
  have h5 := hf.1
  have a23 : ((aln 23 : Nat) : Int) = 5 := by decide
  obtain ⟨x', rfl⟩ : ∃ x' : Nat, x = (x' : Int) := ⟨x.toNat, by omega⟩
  unfold lkV at h
  rw [Int.toNat_natCast] at h
  apply r_10_look_33
  rw [hS.2.1, hS.1]
  apply s_buildS hS hf
  intro M1 hF h4 r35 _ r37
  have h := h M1 hF
  have hS1 := hS.fp hF (fun k j q => Or.inl q)
  refine ⟨fun q => ?_, fun q => ?_, fun q => ?_, fun q => ?_⟩
  · rw [if_pos q] at h
    apply s_at (by omega) (by omega)
    rw [Int.toNat_natCast, hS1.2.2.2.1 x' (by omega)]
    exact h
  · subst q
    rw [if_neg (by decide)] at h
    exact s_look1 h5 (by omega) h4 r37 h
  · subst q
    rw [if_neg (by decide)] at h
    exact s_look2 h5 (by omega) hf.2.2.2.1.1 r37 h
  · have e : w = 3 := by omega
    subst e
    rw [if_neg (by decide)] at h
    exact s_look3 h5 (by omega) hf.2.2.2.1.1 r35 h
set_option maxHeartbeats 1000000 in
theorem k_look (hS : SC M pp n s nf F ag C Bg E) (hf : SF pp s nf F) (l : Launch) (hfl : l.stackTraces = false) (ad : Nat → Nat) (dd : va_G) (cs : CS) (SM : Mem) (sz : Nat) :
    vx_Met l yX10_look (wsM m10_look) (rmM 4 1) (va_Pc (([(19, ((0 : Nat) : Int)), (0, x), (0, w)] : List AV).map (tv ad)) (PU ad dd cs SM [(19, ((0 : Nat) : Int)), (0, x), (0, w)] M sz)) (QU ad dd cs SM (Ki (fun r M' => r = lkV pp nf s F ag x w ∧ lkT pp x w = 0 ∧ Fp csp M M')) sz) (LXC ad dd cs SM M (lkT pp x w) sz) 1 16 (Aw ad sz) := by
  have eargs : ([(19, ((0 : Nat) : Int)), (0, x), (0, w)] : List AV).map (tv ad) = [.ref (ad 0), .int (Int32.ofInt x), .int (Int32.ofInt w)] := by
    rw [List.map_cons, List.map_cons, List.map_cons, List.map_nil, tv_0, tv_0, tv_r _ (show 2 ≤ 19 by omega), Int.toNat_natCast]
  refine vx_ofW (cc := prog_1_method_6_code) (maxL := 3) (ret := some .int) (by decide) rfl ?_
  intro p e s0 m args' below meth c s₁ B hml hnt hv
  obtain ⟨rfl, hsz, hP, hK, hD, hN, hR, hM, hvok⟩ := hv
  have hts := atoms_spec (ws := wsM m10_look) B.pre
  have hvx : vok (0, x) := hvok _ (List.mem_cons_of_mem _ List.mem_cons_self)
  have hvw : vok (0, w) := hvok _ (List.mem_cons_of_mem _ (List.mem_cons_of_mem _ List.mem_cons_self))
  have hv0 : vok (19, ((0 : Nat) : Int)) := hvok _ List.mem_cons_self
  have hix := vok_0.mp hvx
  have hiw := vok_0.mp hvw
  subst hsz
  rw [lg_entry_eq]
  have hl := lv_entry ([.ref (ad 0), .int (Int32.ofInt x), .int (Int32.ofInt w)]) (n := 3) (Nat.le_of_ble_eq_true rfl)
  rw [eargs] at hts B ⊢
  generalize (lg_sl ([.ref (ad 0), .int (Int32.ofInt x), .int (Int32.ofInt w)]) ++ List.replicate (3 - (lg_sl ([.ref (ad 0), .int (Int32.ofInt x), .int (Int32.ofInt w)])).length) Slot.unset).toArray = ls at hl ⊢
  have hl : lv_has ls 3 [(0, .ref (ad 0)), (1, .int (Int32.ofInt x)), (2, .int (Int32.ofInt w))] := hl
  obtain ⟨av, hav⟩ : ∃ av : Array Value, av = ([.ref (ad 0), .int (Int32.ofInt x), .int (Int32.ofInt w)] : List Value).toArray := ⟨_, rfl⟩
  rw [← hav] at hts B ⊢
  obtain ⟨Qs, hQs⟩ : ∃ Qs : State → Prop, Qs = vx_MQ below (QU ad dd cs SM (Ki (fun r M' => r = lkV pp nf s F ag x w ∧ lkT pp x w = 0 ∧ Fp csp M M')) s0.heap.size) (LXC ad dd cs SM M (lkT pp x w) s0.heap.size) av s0 1 16 (Aw ad s0.heap.size) := ⟨_, rfl⟩
  rw [← hQs]
  obtain ⟨X, hX⟩ : ∃ X : JC, X = (p, l, e, (headSpec (wsM m10_look) (rmM 4 1)).room, s0, m, av, below, meth, c, Qs, Aw ad s0.heap.size, ad, dd, cs, SM, 1, 16) := ⟨_, rfl⟩
  have hE : EN m10_look 4 X := by
    rw [hX]
    exact ⟨B.exec, B.bytes, hml, B.returns, B.notSynchronized, findClass_of_methodNamed B.named, fun w hw hg => hts w (List.mem_cons_of_mem _ (gtb_in hw hg)), ⟨Nat.le_of_ble_eq_true rfl, Nat.le_of_ble_eq_true rfl, Nat.le_of_ble_eq_true rfl, Nat.le_of_ble_eq_true rfl, hfl⟩, hK, hN, hR, fun k hk => Or.inl ⟨k, hk, rfl⟩, fun q hq => Or.inr hq⟩
  have hS0 : ST X M s0.heap [] := by
    rw [hX]; exact ⟨hP, Aw_D hD, va_S.rf, hM⟩
  have hL : LSX X m10_look [(19, ((0 : Nat) : Int)), (0, x), (0, w)] ls := by
    rw [hX]
    refine ⟨lv_mono hl (fun q hq => ?_), fun v hv => Or.inr (hvok v hv)⟩
    have e : lav ad 0 [(19, ((0 : Nat) : Int)), (0, x), (0, w)] = [(0, tv ad (19, ((0 : Nat) : Int))), (1, tv ad (0, x)), (2, tv ad (0, w))] := rfl
    have hq : q ∈ lav ad 0 [(19, ((0 : Nat) : Int)), (0, x), (0, w)] := hq
    rw [e, tv_0, tv_0, tv_r _ (show 2 ≤ 19 by omega), Int.toNat_natCast] at hq
    exact hq
  have hRT : lkT pp x w = 0 → RT X m10_look (Ki (fun r M' => r = lkV pp nf s F ag x w ∧ lkT pp x w = 0 ∧ Fp csp M M')) := fun _ => by
    rw [hX]
    intro pc v jl M' H' locs cells slots hret hvv hKv hS' hc hs
    have hq : ∀ t : State, t.heap = H' → s0.WarmedH t.vm → QU ad dd cs SM (Ki (fun r M' => r = lkV pp nf s F ag x w ∧ lkT pp x w = 0 ∧ Fp csp M M')) s0.heap.size av s0 (.returned ((v.map (tv ad)).head?)) t := fun t ht hW =>
      ⟨v, M', rfl, by obtain ⟨r, rfl, -⟩ := hKv; exact Nat.le_refl 1, hKv, by rw [ht]; exact hS'.1, hS'.2.1, hS'.2.2.2, hvv, va_S.F hS'.2.2.1 ht⟩
    obtain ⟨r, rfl, hr⟩ := hKv
    refine W.widen hc hs ?_
    show W p l e _ s0 m av below meth c H' locs 1 16 Qs _
    rw [hQs]
    refine vx_ret ?_
    exact W.iret B.exec B.bytes B.returns (hq) hS'.2.2.1.2.2 hret.1 B.notSynchronized
  have hadd : ∀ (H : Heap) (locs : List Loc), ST X M H locs → ∀ t : State, H.size ≤ t.heap.size → (∀ q : Nat, q < H.size → t.heap[q]? = H[q]?) → va_P dd wcl (wl ad cs M) t.heap ∧ va_D (Aw ad s0.heap.size) (wl ad cs M) ∧ va_F (Aw ad s0.heap.size) s0 t := fun H locs hS' t h1 h2 => by
    rw [hX] at hS'
    exact ⟨hS'.1.kept (fun k q hq => h2 q.1 (hS'.1 k q hq).lt), hS'.2.1, Nat.le_trans hS'.2.2.1.1 h1, fun q q1 q2 => (h2 q (Nat.lt_of_lt_of_le q1 hS'.2.2.1.1)).trans (hS'.2.2.1.2.1 q q1 q2)⟩
  have hST := hR.2.2.2.2
  have hown : s0.vm.findClass RX10 = some m.cls := findClass_of_methodNamed B.named
  have hgt : ∀ w ∈ gtb, w.before av s0 = true := fun w hw => hts w (List.mem_cons_of_mem _ hw)
  have hempty : ∀ pc, ∀ z ∈ c.exceptionTable.toList, covers z pc = false := fun pc z hz => (hnt z hz).elim
  have thr8 : lkT pp x w = 1 → ∀ (H : Heap) (locs : List Loc), ST X M H locs → xW X H locs 0 0 (F0 (jm X) 8 ls []) := fun hT H locs hS' => by
    have ha := hadd H locs hS'
    rw [hX] at hS' ⊢
    show W p l e _ s0 m av below meth c H locs 0 0 Qs _
    rw [hQs]
    obtain ⟨adV, -, -, -, y3, y4, -⟩ := hST
    exact vx_throw0 (own := RX10) (cls := "java/lang/IndexOutOfBoundsException") (names := ["java/lang/RuntimeException", "java/lang/Exception"]) (ik := 135) (ic := 137) (A := Aw ad s0.heap.size) B.exec B.bytes hfl hown (by decide) (by decide) (hgt _ ck_io) (hgt _ ii_io) (at0_io hgt) (by decide +kernel) y3 y4 hS'.2.2.1 (hl.1.trans hml.symm) (by decide +kernel) (by decide +kernel) (by decide +kernel) (by decide +kernel) (hempty _) (Nat.le_of_ble_eq_true rfl) (Nat.le_of_ble_eq_true rfl) (Nat.le_of_ble_eq_true rfl) (Nat.le_of_ble_eq_true rfl) B.notSynchronized (fun t _ h1 h2 => ⟨Or.inl ⟨rfl, hT⟩, ha t h1 h2⟩) hS'.2.2.1.2.2 (by omega) (by omega)
  have thr25 : lkT pp x w = 2 → ∀ (H : Heap) (locs : List Loc), ST X M H locs → xW X H locs 0 0 (F0 (jm X) 25 ls []) := fun hT H locs hS' => by
    have ha := hadd H locs hS'
    rw [hX] at hS' ⊢
    show W p l e _ s0 m av below meth c H locs 0 0 Qs _
    rw [hQs]
    obtain ⟨adV, -, -, -, y3, y4, -⟩ := hST
    exact vx_throw0 (own := RX10) (cls := "java/util/NoSuchElementException") (names := ["java/lang/RuntimeException", "java/lang/Exception"]) (ik := 138) (ic := 140) (A := Aw ad s0.heap.size) B.exec B.bytes hfl hown (by decide) (by decide) (hgt _ ck_ns) (hgt _ ii_ns) (at0_ns hgt) (by decide +kernel) y3 y4 hS'.2.2.1 (hl.1.trans hml.symm) (by decide +kernel) (by decide +kernel) (by decide +kernel) (by decide +kernel) (hempty _) (Nat.le_of_ble_eq_true rfl) (Nat.le_of_ble_eq_true rfl) (Nat.le_of_ble_eq_true rfl) (Nat.le_of_ble_eq_true rfl) B.notSynchronized (fun t _ h1 h2 => ⟨Or.inr ⟨rfl, hT⟩, ha t h1 h2⟩) hS'.2.2.1.2.2 (by omega) (by omega)
  have hC : CI m10_isPerson 1 [(19, ((0 : Nat) : Int)), (0, x)] M (fun r M' => r = bi (0 ≤ x ∧ x < pp) ∧ M' = M) := s_isPerson hS.1 ⟨rfl, rfl⟩
  have hCl := hC (X.2.1) (jad X) (jD X) (jC X) (jM X) s0.heap.size hE.2.2.2.2.2.2.2.1.2.2.2.2
  have ejad : jad X = ad := by rw [hX]
  have ejm : jm X = m := by rw [hX]
  have hrec := xrecv_of (ci := 9) hE hS0 (q := (RX10, TX10, 13)) rfl hv0
  have hPU := PU_at (args := [(19, ((0 : Nat) : Int)), (0, x)]) hE hS0 (fun v hv => hvok v (by rcases List.mem_cons.mp hv with e | e; exact e ▸ List.mem_cons_self; rcases List.mem_cons.mp e with e | e; exact e ▸ List.mem_cons_of_mem _ List.mem_cons_self; cases e))
  have hcf := cf_of hE
  have hgE := gtb_hts hE
  have hcb := cb_of (al' := 0) hE cv_m10_isPerson (show 1 < 4 by omega) (hgE _ lk_10_131)
  have esz : (js X).heap.size = s0.heap.size := by rw [hX]
  have htv : ([(19, ((0 : Nat) : Int)), (0, x)] : List AV).map (tv (jad X)) = [.ref (jad X 0), .int (Int32.ofInt x)] := by
    rw [List.map_cons, List.map_cons, List.map_nil, tv_0, tv_r _ (show 2 ≤ 19 by omega), Int.toNat_natCast]
  rw [htv] at hCl
  have goal0 : xW X s0.heap [] 0 0 (F0 (jm X) 0 ls []) := by
    refine lv_aload_n (x := jad X 0) hE.1 hE.2.1 (show decode prog_1_method_6_code 0 = .ok (.aload_n 0, 1) by decide +kernel) rfl (by rw [ejad]; exact lv_at hl 0 rfl) ?_
    refine lv_iload_n (x := Int32.ofInt x) hE.1 hE.2.1 (show decode prog_1_method_6_code 1 = .ok (.iload_n 1, 1) by decide +kernel) rfl (lv_at hl 1 rfl) ?_
    refine X_after (K := fun v M' => ∃ r, v = [(0, r)] ∧ r = bi (0 ≤ x ∧ x < pp) ∧ M' = M) (al' := 0) (st := []) hE hS0 (va_runV (C := RX10) (As := [.int (Int32.ofInt x)]) (rest := []) hcf hCl ⟨hcb, hgE _ in_m10_isPerson, hgE _ se_m10_isPerson⟩ ⟨FB, hrec, fun U hU hW => ⟨rfl, hPU U hU hW⟩⟩ rfl rfl hL.1.1 rfl (lv_room (Nat.le_of_ble_eq_true rfl)) (show decode prog_1_method_6_code 2 = .ok (.invokevirtual 131, 3) by decide +kernel) ⟨Nat.zero_le _, Nat.zero_le _⟩) ?_
    rintro v M' H' locs' ⟨r, rfl, rfl, hMM⟩ - hS'
    rw [hMM] at hS'
    show xW X H' locs' 0 0 (F0 (jm X) 5 ls [.int (Int32.ofInt (bi (0 ≤ x ∧ x < pp)))])
    by_cases hp : 0 ≤ x ∧ x < pp
    · rw [bi_t hp]
      refine lv_if_ne (x := Int32.ofInt 1) (tgt := 16) hE.1 hE.2.1 (show decode prog_1_method_6_code 5 = .ok (.ifCond .ne 11, 3) by decide +kernel) (by decide) (fun _ => ?_) (fun q => absurd q (by decide))
      refine lv_iload_n (x := Int32.ofInt w) hE.1 hE.2.1 (show decode prog_1_method_6_code 16 = .ok (.iload_n 2, 1) by decide +kernel) rfl (lv_at hl 2 rfl) ?_
      have e0 := ofI_lt (x := w) (y := 0) hiw (by unfold in32; omega)
      rw [ofI_0] at e0
      refine lv_if_lt (x := Int32.ofInt w) (tgt := 25) hE.1 hE.2.1 (show decode prog_1_method_6_code 17 = .ok (.ifCond .lt 8, 3) by decide +kernel) (by decide) (fun q => thr25 ?_ H' locs' hS') (fun q => ?_)
      · have := e0.mp q; unfold lkT; rw [if_pos hp, if_pos (Or.inl this)]
      · have hw0 : ¬ w < 0 := fun z => q (e0.mpr z)
        refine lv_iload_n (x := Int32.ofInt w) hE.1 hE.2.1 (show decode prog_1_method_6_code 20 = .ok (.iload_n 2, 1) by decide +kernel) rfl (lv_at hl 2 rfl) ?_
        refine lv_iconst (v := Int32.ofInt 3) hE.1 hE.2.1 (show decode prog_1_method_6_code 21 = .ok (.iconst 3, 1) by decide +kernel) rfl ?_
        have e3 := ofI_le (x := w) (y := 3) hiw (by unfold in32; omega)
        refine lv_icmp_le (x := Int32.ofInt w) (y := Int32.ofInt 3) (tgt := 33) hE.1 hE.2.1 (show decode prog_1_method_6_code 22 = .ok (.if_icmp .le 11, 3) by decide +kernel) (by decide) (fun q3 => ?_) (fun q3 => thr25 ?_ H' locs' hS')
        · have hw3 := e3.mp q3
          have hT : lkT pp x w = 0 := by unfold lkT; rw [if_pos hp, if_neg (by omega)]
          have hA := s_look33 (P := fun r M' => r = lkV pp nf s F ag x w ∧ lkT pp x w = 0 ∧ Fp csp M M') hS hf hp ⟨by omega, hw3⟩ (fun M' hF => ⟨rfl, hT, hF⟩)
          refine hA X ls H' locs' 0 0 hE hS' hL (fun v hv => by cases hv) (hRT hT) ?_ ?_
          · exact Nat.zero_le _
          · exact Nat.zero_le _
        · have hw3 : ¬ w ≤ 3 := fun z => q3 (e3.mpr z)
          unfold lkT; rw [if_pos hp, if_pos (Or.inr (by omega))]
    · rw [bi_f hp]
      refine lv_if_ne (x := Int32.ofInt 0) (tgt := 16) hE.1 hE.2.1 (show decode prog_1_method_6_code 5 = .ok (.ifCond .ne 11, 3) by decide +kernel) (by decide) (fun q => absurd (by decide) q) (fun _ => thr8 ?_ H' locs' hS')
      unfold lkT; rw [if_neg hp]
  rw [hX] at goal0
  exact goal0
end LOOK
