/-! constructors (made by wip/whole/gctor.py) -/
def rmC (f c sl : Nat) : Room := { frames := f, cells := c, slots := sl, locals := 64 * f + 16 }
def CP (D : va_G) (cs : CS) (ws : va_W) (sz : Nat) (U : State) : Prop := U.heap.size = sz ∧ va_P D wcl ws U.heap ∧ va_K D wcl (atys cs) U ∧ va_D (fun _ => True) ws ∧ ∀ w ∈ nstW, va_Nw w U
theorem nst_same {U : State} {g : JFrame} {mk : MethodId} {a : Array Value} (h : ∀ w ∈ nstW, va_Nw w U) : ∀ w ∈ nstW, va_Nw w (U.calling g mk a) := fun w hw => va_Nw.same (u := U) (U := U.calling g mk a) (by
  have : ∀ w ∈ nstW, w.onTables = true := by decide +kernel
  exact this w hw) rfl (h w hw)
theorem CP_FB {D : va_G} {cs : CS} {ws : va_W} {sz : Nat} {av : List Value} : FrameBlind (va_Pc av (CP D cs ws sz)) := fun a U g mk h => ⟨h.1, h.2.1, h.2.2.1, va_K.moved (u := U) (U := U.calling g mk a) (Vm.Alike.refl U.vm) h.2.2.2.1, h.2.2.2.2.1, nst_same h.2.2.2.2.2⟩
theorem oI_link {own : String} {i : Nat} (h : Cond.methodLink own i Lib.objectInit ∈ gtb) : Cond.methodLink own i Lib.objectInit ∈ gtb := h
theorem oI_in : Cond.instanceMethod Lib.objectInit ∈ gtb := gtb_in (tb_1 (List.mem_of_getElem? (i := 31) (by decide +kernel))) rfl
set_option maxRecDepth 100000 in
theorem oI_code : Cond.code Lib.objectInit ⟨#[0xb1]⟩ 1 none ∈ gtb := gtb_in (tb_1 (List.mem_of_getElem? (i := 32) (by decide +kernel))) rfl
section NEWA
variable {p : Program} {l : Launch} {e : Env} {R : Room} {s : State} {m : MethodId} {args : Array Value} {below : List Frame} {meth : Method} {c : Code} {H : Heap} {locs : List Loc} {cells slots : Nat} {Q : State → Prop}
variable {cc : ByteArray} {pc : Nat} {ls : Array Slot} {rest : List Value} {D : va_G} {cs : CS} {A : Nat → Prop} {ws : va_W} {H0 : Heap}
theorem arr_one {cA : ClassId} {k : Nat} {q : ClassId × FieldType} (h : va_K D wcl (atys cs ++ [(cA, q.2)]) s) (hk : (atys cs)[k]? = some q) (ht : ∀ C, q.2 ≠ .object C) : cA = q.1 := by
  have hk3 : k < (atys cs).length := (List.getElem?_eq_some_iff.mp hk).1
  have h1 := (h.2 k q (by rw [List.getElem?_append_left hk3]; exact hk)).2
  have h2 := (h.2 (atys cs).length (cA, q.2) (by rw [List.getElem?_append_right (Nat.le_refl _), Nat.sub_self]; rfl)).2
  obtain ⟨qc, qt⟩ := q
  cases qt with
  | object C => exact absurd rfl (ht C)
  | _ => exact Option.some.inj (Eq.trans (Eq.symm h2) h1)
theorem n_newi (hexec : p.tables.exec = Jvm.exec) (hb : c.code = cc) (harr : (Cond.arrayClass .int).before args s = true) (hK : va_K D wcl (atys cs) s) (hP : va_P D wcl ws H) (hD : va_D A ws) (hS : va_S A H0 H locs) (hA : ∀ q, H0.size ≤ q → A q)
    {n : Int32} {N' : Nat} (hn : ¬ n < 0) (hN : n.toNatClampNeg = N') (hbytes : N' * componentBytes .int ≤ 536870912) (hcells : cells + 1 ≤ R.cells) (hslots : slots + N' ≤ R.slots) (hdg : decode cc pc = .ok (.newarray .int, 2))
    (kk : ∀ (q : Nat) (H1 : Heap), va_P D wcl (ws ++ [(q, .inl (cs.1, N', .inl (fun _ => 0)))]) H1 → va_D A (ws ++ [(q, .inl (cs.1, N', .inl (fun _ => 0)))]) → va_S A H0 H1 locs →
      W p l e R s m args below meth c H1 locs (cells + 1) (slots + N') Q (F0 m (pc + 2) ls (.ref q :: rest))) : W p l e R s m args below meth c H locs cells slots Q (F0 m pc ls (.int n :: rest)) :=
  va_newa (atype := .int) hexec hb harr rfl hK hP hD hS hA (a0 := (N', .inl (fun _ => 0))) (fun _ => rfl) hn hN hbytes hcells hslots hdg (fun q cA H1 hK1 hP1 hD1 hS1 => by
    have e := arr_one (k := 0) (q := (cs.1, .int)) hK1 rfl (fun _ z => nomatch z)
    have e : cA = cs.1 := e
    subst e
    exact kk q H1 hP1 hD1 hS1)
theorem n_newl (hexec : p.tables.exec = Jvm.exec) (hb : c.code = cc) (harr : (Cond.arrayClass .long).before args s = true) (hK : va_K D wcl (atys cs) s) (hP : va_P D wcl ws H) (hD : va_D A ws) (hS : va_S A H0 H locs) (hA : ∀ q, H0.size ≤ q → A q)
    {n : Int32} {N' : Nat} (hn : ¬ n < 0) (hN : n.toNatClampNeg = N') (hbytes : N' * componentBytes .long ≤ 536870912) (hcells : cells + 1 ≤ R.cells) (hslots : slots + N' ≤ R.slots) (hdg : decode cc pc = .ok (.newarray .long, 2))
    (kk : ∀ (q : Nat) (H1 : Heap), va_P D wcl (ws ++ [(q, .inl (cs.2.1, N', .inr (.inl (fun _ => 0))))]) H1 → va_D A (ws ++ [(q, .inl (cs.2.1, N', .inr (.inl (fun _ => 0))))]) → va_S A H0 H1 locs →
      W p l e R s m args below meth c H1 locs (cells + 1) (slots + N') Q (F0 m (pc + 2) ls (.ref q :: rest))) : W p l e R s m args below meth c H locs cells slots Q (F0 m pc ls (.int n :: rest)) :=
  va_newa (atype := .long) hexec hb harr rfl hK hP hD hS hA (a0 := (N', .inr (.inl (fun _ => 0)))) (fun _ => rfl) hn hN hbytes hcells hslots hdg (fun q cA H1 hK1 hP1 hD1 hS1 => by
    have e := arr_one (k := 1) (q := (cs.2.1, .long)) hK1 rfl (fun _ z => nomatch z)
    have e : cA = cs.2.1 := e
    subst e
    exact kk q H1 hP1 hD1 hS1)
theorem n_newz (hexec : p.tables.exec = Jvm.exec) (hb : c.code = cc) (harr : (Cond.arrayClass .boolean).before args s = true) (hK : va_K D wcl (atys cs) s) (hP : va_P D wcl ws H) (hD : va_D A ws) (hS : va_S A H0 H locs) (hA : ∀ q, H0.size ≤ q → A q)
    {n : Int32} {N' : Nat} (hn : ¬ n < 0) (hN : n.toNatClampNeg = N') (hbytes : N' * componentBytes .boolean ≤ 536870912) (hcells : cells + 1 ≤ R.cells) (hslots : slots + N' ≤ R.slots) (hdg : decode cc pc = .ok (.newarray .boolean, 2))
    (kk : ∀ (q : Nat) (H1 : Heap), va_P D wcl (ws ++ [(q, .inl (cs.2.2, N', .inl (fun _ => 0)))]) H1 → va_D A (ws ++ [(q, .inl (cs.2.2, N', .inl (fun _ => 0)))]) → va_S A H0 H1 locs →
      W p l e R s m args below meth c H1 locs (cells + 1) (slots + N') Q (F0 m (pc + 2) ls (.ref q :: rest))) : W p l e R s m args below meth c H locs cells slots Q (F0 m pc ls (.int n :: rest)) :=
  va_newa (atype := .boolean) hexec hb harr rfl hK hP hD hS hA (a0 := (N', .inl (fun _ => 0))) (fun _ => rfl) hn hN hbytes hcells hslots hdg (fun q cA H1 hK1 hP1 hD1 hS1 => by
    have e := arr_one (k := 2) (q := (cs.2.2, .boolean)) hK1 rfl (fun _ z => nomatch z)
    have e : cA = cs.2.2 := e
    subst e
    exact kk q H1 hP1 hD1 hS1)
end NEWA
theorem ar_int : Cond.arrayClass .int ∈ gtb := gtb_in (tb_1 (List.mem_of_getElem? (i := 72) (by decide +kernel))) rfl
theorem ar_long : Cond.arrayClass .long ∈ gtb := gtb_in (tb_1 (List.mem_of_getElem? (i := 73) (by decide +kernel))) rfl
theorem ar_boolean : Cond.arrayClass .boolean ∈ gtb := gtb_in (tb_2 (List.mem_of_getElem? (i := 149) (by decide +kernel))) rfl

theorem dfl_2 : ∀ j, j < 2 → defaultValue (tyX2 j) = vp_V [.null, .int 0] j := by
  intro j hj
  rcases (show j = 0 ∨ j = 1 by omega) with rfl | rfl <;> rfl
set_option maxHeartbeats 4000000 in
set_option maxRecDepth 100000 in
theorem n_2 (l : Launch) (D : va_G) (cs : CS) (h0 : Nat) (sz : Nat) : Met l yX2_init (wsM m2_init) (rmC 1 1 120) (va_Pc [.ref h0] (CP D cs [(h0, .inr (2, [.null, .int 0]))] sz)) (va_Qv (fun (_ : Unit) => True) (fun _ t => ∃ q1 : Nat, va_P D wcl [(h0, .inr (2, [.ref q1, .int 0])), (q1, .inl (cs.1, 120, .inl (fun _ => 0)))] t.heap ∧ va_D (va_A [(h0, .inr (2, [.null, .int 0]))] sz) [(h0, .inr (2, [.ref q1, .int 0])), (q1, .inl (cs.1, 120, .inl (fun _ => 0)))]) (va_A [(h0, .inr (2, [.null, .int 0]))] sz)) 1 120 (va_A [(h0, .inr (2, [.null, .int 0]))] sz) := by
  refine Met.ofW (cc := cX2_init) (maxL := 1) (ret := none) (by decide) rfl ?_
  intro p e s m args below meth c s₁ B hml hv
  obtain ⟨rfl, hsz, hP, hK, hD0, hN⟩ := hv
  have hx := B.exec
  have hb := B.bytes
  have hr := B.returns
  have hts : ∀ w ∈ gtb, w.before ([.ref h0] : List Value).toArray s = true := fun w hw => atoms_spec (ws := wsM m2_init) B.pre w (List.mem_cons_of_mem _ hw)
  have hown : s.vm.findClass RX2 = some m.cls := findClass_of_methodNamed B.named
  have hlocks := B.notSynchronized
  have hin : meth.name = "<init>" := (name_of_methodNamed B.named B.method).1
  subst hsz
  have hD := hD0.self (sz := s.heap.size)
  generalize hAe : va_A [(h0, .inr (2, [.null, .int 0]))] s.heap.size = A at hD ⊢
  have hA : ∀ q : Nat, s.heap.size ≤ q → A q := fun q h => by rw [← hAe]; exact Or.inr h
  have hS : va_S A s.heap s.heap [] := va_S.rf
  have hl := lv_entry ([.ref h0]) (n := 1) (Nat.le_of_ble_eq_true rfl)
  rw [lg_entry_eq]
  generalize (lg_sl ([.ref h0]) ++ List.replicate (1 - (lg_sl ([.ref h0])).length) Slot.unset).toArray = ls at hl ⊢
  have hl : lv_has ls 1 [(0, .ref h0)] := hl
  refine lv_aload_n hx hb (show decode cX2_init 0 = .ok (.aload_n 0, 1) by decide +kernel) rfl (lv_at hl 0 rfl) ?_
  refine W.objInit hx hb hown (hts (.methodLink RX2 3 Lib.objectInit) (gtb_in (tb_1 (List.mem_of_getElem? (i := 126) (by decide +kernel))) rfl)) (hts _ oI_in) (hts _ oI_code) rfl (by rw [hml]; exact hl.1) rfl (show decode cX2_init 1 = .ok (.invokespecial 3, 3) by decide +kernel) (Nat.le_of_ble_eq_true rfl) (Nat.le_of_ble_eq_true rfl) ?_
  refine W.eq (g2 := F0 m 4 ls []) rfl ?_
  refine lv_aload_n hx hb (show decode cX2_init 4 = .ok (.aload_n 0, 1) by decide +kernel) rfl (lv_at hl 0 rfl) ?_
  refine lv_bipush (v := 120) hx hb (show decode cX2_init 5 = .ok (.bipush 120, 2) by decide +kernel) (by decide) ?_
  refine n_newi (N' := 120) hx hb (hts _ ar_int) hK hP hD hS hA (by decide) (by decide) (Nat.le_of_ble_eq_true rfl) (Nat.le_of_ble_eq_true rfl) (Nat.le_of_ble_eq_true rfl) (show decode cX2_init 7 = .ok (.newarray .int, 2) by decide +kernel) (fun q1 H hP hD hS => ?_)
  have hP : va_P D wcl [(h0, .inr (2, [.null, .int 0])), (q1, .inl (cs.1, 120, .inl (fun _ => 0)))] H := hP
  have hD : va_D A [(h0, .inr (2, [.null, .int 0])), (q1, .inl (cs.1, 120, .inl (fun _ => 0)))] := hD
  refine va_putF (D := D) (ci := 2) (v := .ref q1) (ty := (.array .int)) (C := RX2) (T := TX2) (N := 2) hx hb hts (wcl_in (ci := 2) rfl) tyX2 tyX2_ok nmX2 hown hK hP hD hS 0 rfl rfl 0 (by decide) (hts _ (gtb_in (List.mem_of_getElem? fl_2_11) rfl)) (fun _ h9 => h9) rfl hin rfl (by decide +kernel) rfl rfl (Nat.le_of_ble_eq_true rfl) (show decode cX2_init 9 = .ok (.putfield 11, 3) by decide +kernel) (fun H locs hP hD hS => ?_)
  have hP : va_P D wcl [(h0, .inr (2, [.ref q1, .int 0])), (q1, .inl (cs.1, 120, .inl (fun _ => 0)))] H := hP
  have hD : va_D A [(h0, .inr (2, [.ref q1, .int 0])), (q1, .inl (cs.1, 120, .inl (fun _ => 0)))] := hD
  refine W.widen (k := 1) (n := 120) (by omega) (by omega) ?_
  exact W.vret hx hb hr (fun t ht hW => ⟨⟨(), rfl, trivial, q1, by rw [ht]; exact hP, hD⟩, hS.F ht⟩) hS.2.2 (show decode cX2_init 12 = .ok (.return_, 1) by decide +kernel)

theorem dfl_3 : ∀ j, j < 6 → defaultValue (tyX3 j) = vp_V [.null, .null, .null, .null, .int 0, .int 0] j := by
  intro j hj
  rcases (show j = 0 ∨ j = 1 ∨ j = 2 ∨ j = 3 ∨ j = 4 ∨ j = 5 by omega) with rfl | rfl | rfl | rfl | rfl | rfl <;> rfl
set_option maxHeartbeats 4000000 in
set_option maxRecDepth 100000 in
theorem n_3 (l : Launch) (D : va_G) (cs : CS) (h0 : Nat) (sz : Nat) : Met l yX3_init (wsM m3_init) (rmC 1 4 140) (va_Pc [.ref h0] (CP D cs [(h0, .inr (3, [.null, .null, .null, .null, .int 0, .int 0]))] sz)) (va_Qv (fun (_ : Unit) => True) (fun _ t => ∃ q1 q2 q3 q4 : Nat, va_P D wcl [(h0, .inr (3, [.ref q1, .ref q2, .ref q3, .ref q4, .int 0, .int 0])), (q1, .inl (cs.1, 64, .inl (fun _ => 0))), (q2, .inl (cs.1, 6, .inl (fun _ => 0))), (q3, .inl (cs.1, 6, .inl (fun _ => 0))), (q4, .inl (cs.2.1, 64, .inr (.inl (fun _ => 0))))] t.heap ∧ va_D (va_A [(h0, .inr (3, [.null, .null, .null, .null, .int 0, .int 0]))] sz) [(h0, .inr (3, [.ref q1, .ref q2, .ref q3, .ref q4, .int 0, .int 0])), (q1, .inl (cs.1, 64, .inl (fun _ => 0))), (q2, .inl (cs.1, 6, .inl (fun _ => 0))), (q3, .inl (cs.1, 6, .inl (fun _ => 0))), (q4, .inl (cs.2.1, 64, .inr (.inl (fun _ => 0))))]) (va_A [(h0, .inr (3, [.null, .null, .null, .null, .int 0, .int 0]))] sz)) 4 140 (va_A [(h0, .inr (3, [.null, .null, .null, .null, .int 0, .int 0]))] sz) := by
  refine Met.ofW (cc := cX3_init) (maxL := 1) (ret := none) (by decide) rfl ?_
  intro p e s m args below meth c s₁ B hml hv
  obtain ⟨rfl, hsz, hP, hK, hD0, hN⟩ := hv
  have hx := B.exec
  have hb := B.bytes
  have hr := B.returns
  have hts : ∀ w ∈ gtb, w.before ([.ref h0] : List Value).toArray s = true := fun w hw => atoms_spec (ws := wsM m3_init) B.pre w (List.mem_cons_of_mem _ hw)
  have hown : s.vm.findClass RX3 = some m.cls := findClass_of_methodNamed B.named
  have hlocks := B.notSynchronized
  have hin : meth.name = "<init>" := (name_of_methodNamed B.named B.method).1
  subst hsz
  have hD := hD0.self (sz := s.heap.size)
  generalize hAe : va_A [(h0, .inr (3, [.null, .null, .null, .null, .int 0, .int 0]))] s.heap.size = A at hD ⊢
  have hA : ∀ q : Nat, s.heap.size ≤ q → A q := fun q h => by rw [← hAe]; exact Or.inr h
  have hS : va_S A s.heap s.heap [] := va_S.rf
  have hl := lv_entry ([.ref h0]) (n := 1) (Nat.le_of_ble_eq_true rfl)
  rw [lg_entry_eq]
  generalize (lg_sl ([.ref h0]) ++ List.replicate (1 - (lg_sl ([.ref h0])).length) Slot.unset).toArray = ls at hl ⊢
  have hl : lv_has ls 1 [(0, .ref h0)] := hl
  refine lv_aload_n hx hb (show decode cX3_init 0 = .ok (.aload_n 0, 1) by decide +kernel) rfl (lv_at hl 0 rfl) ?_
  refine W.objInit hx hb hown (hts (.methodLink RX3 3 Lib.objectInit) (gtb_in (tb_1 (List.mem_of_getElem? (i := 50) (by decide +kernel))) rfl)) (hts _ oI_in) (hts _ oI_code) rfl (by rw [hml]; exact hl.1) rfl (show decode cX3_init 1 = .ok (.invokespecial 3, 3) by decide +kernel) (Nat.le_of_ble_eq_true rfl) (Nat.le_of_ble_eq_true rfl) ?_
  refine W.eq (g2 := F0 m 4 ls []) rfl ?_
  refine lv_aload_n hx hb (show decode cX3_init 4 = .ok (.aload_n 0, 1) by decide +kernel) rfl (lv_at hl 0 rfl) ?_
  refine lv_bipush (v := 64) hx hb (show decode cX3_init 5 = .ok (.bipush 64, 2) by decide +kernel) (by decide) ?_
  refine n_newi (N' := 64) hx hb (hts _ ar_int) hK hP hD hS hA (by decide) (by decide) (Nat.le_of_ble_eq_true rfl) (Nat.le_of_ble_eq_true rfl) (Nat.le_of_ble_eq_true rfl) (show decode cX3_init 7 = .ok (.newarray .int, 2) by decide +kernel) (fun q1 H hP hD hS => ?_)
  have hP : va_P D wcl [(h0, .inr (3, [.null, .null, .null, .null, .int 0, .int 0])), (q1, .inl (cs.1, 64, .inl (fun _ => 0)))] H := hP
  have hD : va_D A [(h0, .inr (3, [.null, .null, .null, .null, .int 0, .int 0])), (q1, .inl (cs.1, 64, .inl (fun _ => 0)))] := hD
  refine va_putF (D := D) (ci := 3) (v := .ref q1) (ty := (.array .int)) (C := RX3) (T := TX3) (N := 6) hx hb hts (wcl_in (ci := 3) rfl) tyX3 tyX3_ok nmX3 hown hK hP hD hS 0 rfl rfl 0 (by decide) (hts _ (gtb_in (List.mem_of_getElem? fl_3_9) rfl)) (fun _ h9 => h9) rfl hin rfl (by decide +kernel) rfl rfl (Nat.le_of_ble_eq_true rfl) (show decode cX3_init 9 = .ok (.putfield 9, 3) by decide +kernel) (fun H locs hP hD hS => ?_)
  have hP : va_P D wcl [(h0, .inr (3, [.ref q1, .null, .null, .null, .int 0, .int 0])), (q1, .inl (cs.1, 64, .inl (fun _ => 0)))] H := hP
  have hD : va_D A [(h0, .inr (3, [.ref q1, .null, .null, .null, .int 0, .int 0])), (q1, .inl (cs.1, 64, .inl (fun _ => 0)))] := hD
  refine lv_aload_n hx hb (show decode cX3_init 12 = .ok (.aload_n 0, 1) by decide +kernel) rfl (lv_at hl 0 rfl) ?_
  refine lv_bipush (v := 6) hx hb (show decode cX3_init 13 = .ok (.bipush 6, 2) by decide +kernel) (by decide) ?_
  refine n_newi (N' := 6) hx hb (hts _ ar_int) hK hP hD hS hA (by decide) (by decide) (Nat.le_of_ble_eq_true rfl) (Nat.le_of_ble_eq_true rfl) (Nat.le_of_ble_eq_true rfl) (show decode cX3_init 15 = .ok (.newarray .int, 2) by decide +kernel) (fun q2 H hP hD hS => ?_)
  have hP : va_P D wcl [(h0, .inr (3, [.ref q1, .null, .null, .null, .int 0, .int 0])), (q1, .inl (cs.1, 64, .inl (fun _ => 0))), (q2, .inl (cs.1, 6, .inl (fun _ => 0)))] H := hP
  have hD : va_D A [(h0, .inr (3, [.ref q1, .null, .null, .null, .int 0, .int 0])), (q1, .inl (cs.1, 64, .inl (fun _ => 0))), (q2, .inl (cs.1, 6, .inl (fun _ => 0)))] := hD
  refine va_putF (D := D) (ci := 3) (v := .ref q2) (ty := (.array .int)) (C := RX3) (T := TX3) (N := 6) hx hb hts (wcl_in (ci := 3) rfl) tyX3 tyX3_ok nmX3 hown hK hP hD hS 0 rfl rfl 1 (by decide) (hts _ (gtb_in (List.mem_of_getElem? fl_3_15) rfl)) (fun _ h9 => h9) rfl hin rfl (by decide +kernel) rfl rfl (Nat.le_of_ble_eq_true rfl) (show decode cX3_init 17 = .ok (.putfield 15, 3) by decide +kernel) (fun H locs hP hD hS => ?_)
  have hP : va_P D wcl [(h0, .inr (3, [.ref q1, .ref q2, .null, .null, .int 0, .int 0])), (q1, .inl (cs.1, 64, .inl (fun _ => 0))), (q2, .inl (cs.1, 6, .inl (fun _ => 0)))] H := hP
  have hD : va_D A [(h0, .inr (3, [.ref q1, .ref q2, .null, .null, .int 0, .int 0])), (q1, .inl (cs.1, 64, .inl (fun _ => 0))), (q2, .inl (cs.1, 6, .inl (fun _ => 0)))] := hD
  refine lv_aload_n hx hb (show decode cX3_init 20 = .ok (.aload_n 0, 1) by decide +kernel) rfl (lv_at hl 0 rfl) ?_
  refine lv_bipush (v := 6) hx hb (show decode cX3_init 21 = .ok (.bipush 6, 2) by decide +kernel) (by decide) ?_
  refine n_newi (N' := 6) hx hb (hts _ ar_int) hK hP hD hS hA (by decide) (by decide) (Nat.le_of_ble_eq_true rfl) (Nat.le_of_ble_eq_true rfl) (Nat.le_of_ble_eq_true rfl) (show decode cX3_init 23 = .ok (.newarray .int, 2) by decide +kernel) (fun q3 H hP hD hS => ?_)
  have hP : va_P D wcl [(h0, .inr (3, [.ref q1, .ref q2, .null, .null, .int 0, .int 0])), (q1, .inl (cs.1, 64, .inl (fun _ => 0))), (q2, .inl (cs.1, 6, .inl (fun _ => 0))), (q3, .inl (cs.1, 6, .inl (fun _ => 0)))] H := hP
  have hD : va_D A [(h0, .inr (3, [.ref q1, .ref q2, .null, .null, .int 0, .int 0])), (q1, .inl (cs.1, 64, .inl (fun _ => 0))), (q2, .inl (cs.1, 6, .inl (fun _ => 0))), (q3, .inl (cs.1, 6, .inl (fun _ => 0)))] := hD
  refine va_putF (D := D) (ci := 3) (v := .ref q3) (ty := (.array .int)) (C := RX3) (T := TX3) (N := 6) hx hb hts (wcl_in (ci := 3) rfl) tyX3 tyX3_ok nmX3 hown hK hP hD hS 0 rfl rfl 2 (by decide) (hts _ (gtb_in (List.mem_of_getElem? fl_3_18) rfl)) (fun _ h9 => h9) rfl hin rfl (by decide +kernel) rfl rfl (Nat.le_of_ble_eq_true rfl) (show decode cX3_init 25 = .ok (.putfield 18, 3) by decide +kernel) (fun H locs hP hD hS => ?_)
  have hP : va_P D wcl [(h0, .inr (3, [.ref q1, .ref q2, .ref q3, .null, .int 0, .int 0])), (q1, .inl (cs.1, 64, .inl (fun _ => 0))), (q2, .inl (cs.1, 6, .inl (fun _ => 0))), (q3, .inl (cs.1, 6, .inl (fun _ => 0)))] H := hP
  have hD : va_D A [(h0, .inr (3, [.ref q1, .ref q2, .ref q3, .null, .int 0, .int 0])), (q1, .inl (cs.1, 64, .inl (fun _ => 0))), (q2, .inl (cs.1, 6, .inl (fun _ => 0))), (q3, .inl (cs.1, 6, .inl (fun _ => 0)))] := hD
  refine lv_aload_n hx hb (show decode cX3_init 28 = .ok (.aload_n 0, 1) by decide +kernel) rfl (lv_at hl 0 rfl) ?_
  refine lv_bipush (v := 64) hx hb (show decode cX3_init 29 = .ok (.bipush 64, 2) by decide +kernel) (by decide) ?_
  refine n_newl (N' := 64) hx hb (hts _ ar_long) hK hP hD hS hA (by decide) (by decide) (Nat.le_of_ble_eq_true rfl) (Nat.le_of_ble_eq_true rfl) (Nat.le_of_ble_eq_true rfl) (show decode cX3_init 31 = .ok (.newarray .long, 2) by decide +kernel) (fun q4 H hP hD hS => ?_)
  have hP : va_P D wcl [(h0, .inr (3, [.ref q1, .ref q2, .ref q3, .null, .int 0, .int 0])), (q1, .inl (cs.1, 64, .inl (fun _ => 0))), (q2, .inl (cs.1, 6, .inl (fun _ => 0))), (q3, .inl (cs.1, 6, .inl (fun _ => 0))), (q4, .inl (cs.2.1, 64, .inr (.inl (fun _ => 0))))] H := hP
  have hD : va_D A [(h0, .inr (3, [.ref q1, .ref q2, .ref q3, .null, .int 0, .int 0])), (q1, .inl (cs.1, 64, .inl (fun _ => 0))), (q2, .inl (cs.1, 6, .inl (fun _ => 0))), (q3, .inl (cs.1, 6, .inl (fun _ => 0))), (q4, .inl (cs.2.1, 64, .inr (.inl (fun _ => 0))))] := hD
  refine va_putF (D := D) (ci := 3) (v := .ref q4) (ty := (.array .long)) (C := RX3) (T := TX3) (N := 6) hx hb hts (wcl_in (ci := 3) rfl) tyX3 tyX3_ok nmX3 hown hK hP hD hS 0 rfl rfl 3 (by decide) (hts _ (gtb_in (List.mem_of_getElem? fl_3_21) rfl)) (fun _ h9 => h9) rfl hin rfl (by decide +kernel) rfl rfl (Nat.le_of_ble_eq_true rfl) (show decode cX3_init 33 = .ok (.putfield 21, 3) by decide +kernel) (fun H locs hP hD hS => ?_)
  have hP : va_P D wcl [(h0, .inr (3, [.ref q1, .ref q2, .ref q3, .ref q4, .int 0, .int 0])), (q1, .inl (cs.1, 64, .inl (fun _ => 0))), (q2, .inl (cs.1, 6, .inl (fun _ => 0))), (q3, .inl (cs.1, 6, .inl (fun _ => 0))), (q4, .inl (cs.2.1, 64, .inr (.inl (fun _ => 0))))] H := hP
  have hD : va_D A [(h0, .inr (3, [.ref q1, .ref q2, .ref q3, .ref q4, .int 0, .int 0])), (q1, .inl (cs.1, 64, .inl (fun _ => 0))), (q2, .inl (cs.1, 6, .inl (fun _ => 0))), (q3, .inl (cs.1, 6, .inl (fun _ => 0))), (q4, .inl (cs.2.1, 64, .inr (.inl (fun _ => 0))))] := hD
  refine W.widen (k := 4) (n := 140) (by omega) (by omega) ?_
  exact W.vret hx hb hr (fun t ht hW => ⟨⟨(), rfl, trivial, q1, q2, q3, q4, by rw [ht]; exact hP, hD⟩, hS.F ht⟩) hS.2.2 (show decode cX3_init 36 = .ok (.return_, 1) by decide +kernel)

theorem dfl_5 : ∀ j, j < 5 → defaultValue (tyX5 j) = vp_V [.null, .null, .null, .null, .int 0] j := by
  intro j hj
  rcases (show j = 0 ∨ j = 1 ∨ j = 2 ∨ j = 3 ∨ j = 4 by omega) with rfl | rfl | rfl | rfl | rfl <;> rfl
set_option maxHeartbeats 4000000 in
set_option maxRecDepth 100000 in
theorem n_5 (l : Launch) (D : va_G) (cs : CS) (h0 : Nat) (sz : Nat) : Met l yX5_init (wsM m5_init) (rmC 1 4 32) (va_Pc [.ref h0] (CP D cs [(h0, .inr (5, [.null, .null, .null, .null, .int 0]))] sz)) (va_Qv (fun (_ : Unit) => True) (fun _ t => ∃ q1 q2 q3 q4 : Nat, va_P D wcl [(h0, .inr (5, [.ref q1, .ref q2, .ref q3, .ref q4, .int 0])), (q1, .inl (cs.1, 8, .inl (fun _ => 0))), (q2, .inl (cs.1, 8, .inl (fun _ => 0))), (q3, .inl (cs.1, 8, .inl (fun _ => 0))), (q4, .inl (cs.1, 8, .inl (fun _ => 0)))] t.heap ∧ va_D (va_A [(h0, .inr (5, [.null, .null, .null, .null, .int 0]))] sz) [(h0, .inr (5, [.ref q1, .ref q2, .ref q3, .ref q4, .int 0])), (q1, .inl (cs.1, 8, .inl (fun _ => 0))), (q2, .inl (cs.1, 8, .inl (fun _ => 0))), (q3, .inl (cs.1, 8, .inl (fun _ => 0))), (q4, .inl (cs.1, 8, .inl (fun _ => 0)))]) (va_A [(h0, .inr (5, [.null, .null, .null, .null, .int 0]))] sz)) 4 32 (va_A [(h0, .inr (5, [.null, .null, .null, .null, .int 0]))] sz) := by
  refine Met.ofW (cc := cX5_init) (maxL := 1) (ret := none) (by decide) rfl ?_
  intro p e s m args below meth c s₁ B hml hv
  obtain ⟨rfl, hsz, hP, hK, hD0, hN⟩ := hv
  have hx := B.exec
  have hb := B.bytes
  have hr := B.returns
  have hts : ∀ w ∈ gtb, w.before ([.ref h0] : List Value).toArray s = true := fun w hw => atoms_spec (ws := wsM m5_init) B.pre w (List.mem_cons_of_mem _ hw)
  have hown : s.vm.findClass RX5 = some m.cls := findClass_of_methodNamed B.named
  have hlocks := B.notSynchronized
  have hin : meth.name = "<init>" := (name_of_methodNamed B.named B.method).1
  subst hsz
  have hD := hD0.self (sz := s.heap.size)
  generalize hAe : va_A [(h0, .inr (5, [.null, .null, .null, .null, .int 0]))] s.heap.size = A at hD ⊢
  have hA : ∀ q : Nat, s.heap.size ≤ q → A q := fun q h => by rw [← hAe]; exact Or.inr h
  have hS : va_S A s.heap s.heap [] := va_S.rf
  have hl := lv_entry ([.ref h0]) (n := 1) (Nat.le_of_ble_eq_true rfl)
  rw [lg_entry_eq]
  generalize (lg_sl ([.ref h0]) ++ List.replicate (1 - (lg_sl ([.ref h0])).length) Slot.unset).toArray = ls at hl ⊢
  have hl : lv_has ls 1 [(0, .ref h0)] := hl
  refine lv_aload_n hx hb (show decode cX5_init 0 = .ok (.aload_n 0, 1) by decide +kernel) rfl (lv_at hl 0 rfl) ?_
  refine W.objInit hx hb hown (hts (.methodLink RX5 3 Lib.objectInit) (gtb_in (tb_1 (List.mem_of_getElem? (i := 142) (by decide +kernel))) rfl)) (hts _ oI_in) (hts _ oI_code) rfl (by rw [hml]; exact hl.1) rfl (show decode cX5_init 1 = .ok (.invokespecial 3, 3) by decide +kernel) (Nat.le_of_ble_eq_true rfl) (Nat.le_of_ble_eq_true rfl) ?_
  refine W.eq (g2 := F0 m 4 ls []) rfl ?_
  refine lv_aload_n hx hb (show decode cX5_init 4 = .ok (.aload_n 0, 1) by decide +kernel) rfl (lv_at hl 0 rfl) ?_
  refine lv_bipush (v := 8) hx hb (show decode cX5_init 5 = .ok (.bipush 8, 2) by decide +kernel) (by decide) ?_
  refine n_newi (N' := 8) hx hb (hts _ ar_int) hK hP hD hS hA (by decide) (by decide) (Nat.le_of_ble_eq_true rfl) (Nat.le_of_ble_eq_true rfl) (Nat.le_of_ble_eq_true rfl) (show decode cX5_init 7 = .ok (.newarray .int, 2) by decide +kernel) (fun q1 H hP hD hS => ?_)
  have hP : va_P D wcl [(h0, .inr (5, [.null, .null, .null, .null, .int 0])), (q1, .inl (cs.1, 8, .inl (fun _ => 0)))] H := hP
  have hD : va_D A [(h0, .inr (5, [.null, .null, .null, .null, .int 0])), (q1, .inl (cs.1, 8, .inl (fun _ => 0)))] := hD
  refine va_putF (D := D) (ci := 5) (v := .ref q1) (ty := (.array .int)) (C := RX5) (T := TX5) (N := 5) hx hb hts (wcl_in (ci := 5) rfl) tyX5 tyX5_ok nmX5 hown hK hP hD hS 0 rfl rfl 0 (by decide) (hts _ (gtb_in (List.mem_of_getElem? fl_5_9) rfl)) (fun _ h9 => h9) rfl hin rfl (by decide +kernel) rfl rfl (Nat.le_of_ble_eq_true rfl) (show decode cX5_init 9 = .ok (.putfield 9, 3) by decide +kernel) (fun H locs hP hD hS => ?_)
  have hP : va_P D wcl [(h0, .inr (5, [.ref q1, .null, .null, .null, .int 0])), (q1, .inl (cs.1, 8, .inl (fun _ => 0)))] H := hP
  have hD : va_D A [(h0, .inr (5, [.ref q1, .null, .null, .null, .int 0])), (q1, .inl (cs.1, 8, .inl (fun _ => 0)))] := hD
  refine lv_aload_n hx hb (show decode cX5_init 12 = .ok (.aload_n 0, 1) by decide +kernel) rfl (lv_at hl 0 rfl) ?_
  refine lv_bipush (v := 8) hx hb (show decode cX5_init 13 = .ok (.bipush 8, 2) by decide +kernel) (by decide) ?_
  refine n_newi (N' := 8) hx hb (hts _ ar_int) hK hP hD hS hA (by decide) (by decide) (Nat.le_of_ble_eq_true rfl) (Nat.le_of_ble_eq_true rfl) (Nat.le_of_ble_eq_true rfl) (show decode cX5_init 15 = .ok (.newarray .int, 2) by decide +kernel) (fun q2 H hP hD hS => ?_)
  have hP : va_P D wcl [(h0, .inr (5, [.ref q1, .null, .null, .null, .int 0])), (q1, .inl (cs.1, 8, .inl (fun _ => 0))), (q2, .inl (cs.1, 8, .inl (fun _ => 0)))] H := hP
  have hD : va_D A [(h0, .inr (5, [.ref q1, .null, .null, .null, .int 0])), (q1, .inl (cs.1, 8, .inl (fun _ => 0))), (q2, .inl (cs.1, 8, .inl (fun _ => 0)))] := hD
  refine va_putF (D := D) (ci := 5) (v := .ref q2) (ty := (.array .int)) (C := RX5) (T := TX5) (N := 5) hx hb hts (wcl_in (ci := 5) rfl) tyX5 tyX5_ok nmX5 hown hK hP hD hS 0 rfl rfl 1 (by decide) (hts _ (gtb_in (List.mem_of_getElem? fl_5_15) rfl)) (fun _ h9 => h9) rfl hin rfl (by decide +kernel) rfl rfl (Nat.le_of_ble_eq_true rfl) (show decode cX5_init 17 = .ok (.putfield 15, 3) by decide +kernel) (fun H locs hP hD hS => ?_)
  have hP : va_P D wcl [(h0, .inr (5, [.ref q1, .ref q2, .null, .null, .int 0])), (q1, .inl (cs.1, 8, .inl (fun _ => 0))), (q2, .inl (cs.1, 8, .inl (fun _ => 0)))] H := hP
  have hD : va_D A [(h0, .inr (5, [.ref q1, .ref q2, .null, .null, .int 0])), (q1, .inl (cs.1, 8, .inl (fun _ => 0))), (q2, .inl (cs.1, 8, .inl (fun _ => 0)))] := hD
  refine lv_aload_n hx hb (show decode cX5_init 20 = .ok (.aload_n 0, 1) by decide +kernel) rfl (lv_at hl 0 rfl) ?_
  refine lv_bipush (v := 8) hx hb (show decode cX5_init 21 = .ok (.bipush 8, 2) by decide +kernel) (by decide) ?_
  refine n_newi (N' := 8) hx hb (hts _ ar_int) hK hP hD hS hA (by decide) (by decide) (Nat.le_of_ble_eq_true rfl) (Nat.le_of_ble_eq_true rfl) (Nat.le_of_ble_eq_true rfl) (show decode cX5_init 23 = .ok (.newarray .int, 2) by decide +kernel) (fun q3 H hP hD hS => ?_)
  have hP : va_P D wcl [(h0, .inr (5, [.ref q1, .ref q2, .null, .null, .int 0])), (q1, .inl (cs.1, 8, .inl (fun _ => 0))), (q2, .inl (cs.1, 8, .inl (fun _ => 0))), (q3, .inl (cs.1, 8, .inl (fun _ => 0)))] H := hP
  have hD : va_D A [(h0, .inr (5, [.ref q1, .ref q2, .null, .null, .int 0])), (q1, .inl (cs.1, 8, .inl (fun _ => 0))), (q2, .inl (cs.1, 8, .inl (fun _ => 0))), (q3, .inl (cs.1, 8, .inl (fun _ => 0)))] := hD
  refine va_putF (D := D) (ci := 5) (v := .ref q3) (ty := (.array .int)) (C := RX5) (T := TX5) (N := 5) hx hb hts (wcl_in (ci := 5) rfl) tyX5 tyX5_ok nmX5 hown hK hP hD hS 0 rfl rfl 2 (by decide) (hts _ (gtb_in (List.mem_of_getElem? fl_5_18) rfl)) (fun _ h9 => h9) rfl hin rfl (by decide +kernel) rfl rfl (Nat.le_of_ble_eq_true rfl) (show decode cX5_init 25 = .ok (.putfield 18, 3) by decide +kernel) (fun H locs hP hD hS => ?_)
  have hP : va_P D wcl [(h0, .inr (5, [.ref q1, .ref q2, .ref q3, .null, .int 0])), (q1, .inl (cs.1, 8, .inl (fun _ => 0))), (q2, .inl (cs.1, 8, .inl (fun _ => 0))), (q3, .inl (cs.1, 8, .inl (fun _ => 0)))] H := hP
  have hD : va_D A [(h0, .inr (5, [.ref q1, .ref q2, .ref q3, .null, .int 0])), (q1, .inl (cs.1, 8, .inl (fun _ => 0))), (q2, .inl (cs.1, 8, .inl (fun _ => 0))), (q3, .inl (cs.1, 8, .inl (fun _ => 0)))] := hD
  refine lv_aload_n hx hb (show decode cX5_init 28 = .ok (.aload_n 0, 1) by decide +kernel) rfl (lv_at hl 0 rfl) ?_
  refine lv_bipush (v := 8) hx hb (show decode cX5_init 29 = .ok (.bipush 8, 2) by decide +kernel) (by decide) ?_
  refine n_newi (N' := 8) hx hb (hts _ ar_int) hK hP hD hS hA (by decide) (by decide) (Nat.le_of_ble_eq_true rfl) (Nat.le_of_ble_eq_true rfl) (Nat.le_of_ble_eq_true rfl) (show decode cX5_init 31 = .ok (.newarray .int, 2) by decide +kernel) (fun q4 H hP hD hS => ?_)
  have hP : va_P D wcl [(h0, .inr (5, [.ref q1, .ref q2, .ref q3, .null, .int 0])), (q1, .inl (cs.1, 8, .inl (fun _ => 0))), (q2, .inl (cs.1, 8, .inl (fun _ => 0))), (q3, .inl (cs.1, 8, .inl (fun _ => 0))), (q4, .inl (cs.1, 8, .inl (fun _ => 0)))] H := hP
  have hD : va_D A [(h0, .inr (5, [.ref q1, .ref q2, .ref q3, .null, .int 0])), (q1, .inl (cs.1, 8, .inl (fun _ => 0))), (q2, .inl (cs.1, 8, .inl (fun _ => 0))), (q3, .inl (cs.1, 8, .inl (fun _ => 0))), (q4, .inl (cs.1, 8, .inl (fun _ => 0)))] := hD
  refine va_putF (D := D) (ci := 5) (v := .ref q4) (ty := (.array .int)) (C := RX5) (T := TX5) (N := 5) hx hb hts (wcl_in (ci := 5) rfl) tyX5 tyX5_ok nmX5 hown hK hP hD hS 0 rfl rfl 3 (by decide) (hts _ (gtb_in (List.mem_of_getElem? fl_5_21) rfl)) (fun _ h9 => h9) rfl hin rfl (by decide +kernel) rfl rfl (Nat.le_of_ble_eq_true rfl) (show decode cX5_init 33 = .ok (.putfield 21, 3) by decide +kernel) (fun H locs hP hD hS => ?_)
  have hP : va_P D wcl [(h0, .inr (5, [.ref q1, .ref q2, .ref q3, .ref q4, .int 0])), (q1, .inl (cs.1, 8, .inl (fun _ => 0))), (q2, .inl (cs.1, 8, .inl (fun _ => 0))), (q3, .inl (cs.1, 8, .inl (fun _ => 0))), (q4, .inl (cs.1, 8, .inl (fun _ => 0)))] H := hP
  have hD : va_D A [(h0, .inr (5, [.ref q1, .ref q2, .ref q3, .ref q4, .int 0])), (q1, .inl (cs.1, 8, .inl (fun _ => 0))), (q2, .inl (cs.1, 8, .inl (fun _ => 0))), (q3, .inl (cs.1, 8, .inl (fun _ => 0))), (q4, .inl (cs.1, 8, .inl (fun _ => 0)))] := hD
  refine W.widen (k := 4) (n := 32) (by omega) (by omega) ?_
  exact W.vret hx hb hr (fun t ht hW => ⟨⟨(), rfl, trivial, q1, q2, q3, q4, by rw [ht]; exact hP, hD⟩, hS.F ht⟩) hS.2.2 (show decode cX5_init 36 = .ok (.return_, 1) by decide +kernel)

theorem dfl_9 : ∀ j, j < 3 → defaultValue (tyX9 j) = vp_V [.null, .null, .null] j := by
  intro j hj
  rcases (show j = 0 ∨ j = 1 ∨ j = 2 by omega) with rfl | rfl | rfl <;> rfl
set_option maxHeartbeats 4000000 in
set_option maxRecDepth 100000 in
theorem n_9 (l : Launch) (D : va_G) (cs : CS) (h0 : Nat) (sz : Nat) : Met l yX9_init (wsM m9_init) (rmC 1 3 21) (va_Pc [.ref h0] (CP D cs [(h0, .inr (8, [.null, .null, .null]))] sz)) (va_Qv (fun (_ : Unit) => True) (fun _ t => ∃ q1 q2 q3 : Nat, va_P D wcl [(h0, .inr (8, [.ref q1, .ref q2, .ref q3])), (q1, .inl (cs.1, 8, .inl (fun _ => 0))), (q2, .inl (cs.2.1, 5, .inr (.inl (fun _ => 0)))), (q3, .inl (cs.1, 8, .inl (fun _ => 0)))] t.heap ∧ va_D (va_A [(h0, .inr (8, [.null, .null, .null]))] sz) [(h0, .inr (8, [.ref q1, .ref q2, .ref q3])), (q1, .inl (cs.1, 8, .inl (fun _ => 0))), (q2, .inl (cs.2.1, 5, .inr (.inl (fun _ => 0)))), (q3, .inl (cs.1, 8, .inl (fun _ => 0)))]) (va_A [(h0, .inr (8, [.null, .null, .null]))] sz)) 3 21 (va_A [(h0, .inr (8, [.null, .null, .null]))] sz) := by
  refine Met.ofW (cc := cX9_init) (maxL := 1) (ret := none) (by decide) rfl ?_
  intro p e s m args below meth c s₁ B hml hv
  obtain ⟨rfl, hsz, hP, hK, hD0, hN⟩ := hv
  have hx := B.exec
  have hb := B.bytes
  have hr := B.returns
  have hts : ∀ w ∈ gtb, w.before ([.ref h0] : List Value).toArray s = true := fun w hw => atoms_spec (ws := wsM m9_init) B.pre w (List.mem_cons_of_mem _ hw)
  have hown : s.vm.findClass RX9 = some m.cls := findClass_of_methodNamed B.named
  have hlocks := B.notSynchronized
  have hin : meth.name = "<init>" := (name_of_methodNamed B.named B.method).1
  subst hsz
  have hD := hD0.self (sz := s.heap.size)
  generalize hAe : va_A [(h0, .inr (8, [.null, .null, .null]))] s.heap.size = A at hD ⊢
  have hA : ∀ q : Nat, s.heap.size ≤ q → A q := fun q h => by rw [← hAe]; exact Or.inr h
  have hS : va_S A s.heap s.heap [] := va_S.rf
  have hl := lv_entry ([.ref h0]) (n := 1) (Nat.le_of_ble_eq_true rfl)
  rw [lg_entry_eq]
  generalize (lg_sl ([.ref h0]) ++ List.replicate (1 - (lg_sl ([.ref h0])).length) Slot.unset).toArray = ls at hl ⊢
  have hl : lv_has ls 1 [(0, .ref h0)] := hl
  refine lv_aload_n hx hb (show decode cX9_init 0 = .ok (.aload_n 0, 1) by decide +kernel) rfl (lv_at hl 0 rfl) ?_
  refine W.objInit hx hb hown (hts (.methodLink RX9 3 Lib.objectInit) (gtb_in (tb_2 (List.mem_of_getElem? (i := 47) (by decide +kernel))) rfl)) (hts _ oI_in) (hts _ oI_code) rfl (by rw [hml]; exact hl.1) rfl (show decode cX9_init 1 = .ok (.invokespecial 3, 3) by decide +kernel) (Nat.le_of_ble_eq_true rfl) (Nat.le_of_ble_eq_true rfl) ?_
  refine W.eq (g2 := F0 m 4 ls []) rfl ?_
  refine lv_aload_n hx hb (show decode cX9_init 4 = .ok (.aload_n 0, 1) by decide +kernel) rfl (lv_at hl 0 rfl) ?_
  refine lv_bipush (v := 8) hx hb (show decode cX9_init 5 = .ok (.bipush 8, 2) by decide +kernel) (by decide) ?_
  refine n_newi (N' := 8) hx hb (hts _ ar_int) hK hP hD hS hA (by decide) (by decide) (Nat.le_of_ble_eq_true rfl) (Nat.le_of_ble_eq_true rfl) (Nat.le_of_ble_eq_true rfl) (show decode cX9_init 7 = .ok (.newarray .int, 2) by decide +kernel) (fun q1 H hP hD hS => ?_)
  have hP : va_P D wcl [(h0, .inr (8, [.null, .null, .null])), (q1, .inl (cs.1, 8, .inl (fun _ => 0)))] H := hP
  have hD : va_D A [(h0, .inr (8, [.null, .null, .null])), (q1, .inl (cs.1, 8, .inl (fun _ => 0)))] := hD
  refine va_putF (D := D) (ci := 8) (v := .ref q1) (ty := (.array .int)) (C := RX9) (T := TX9) (N := 3) hx hb hts (wcl_in (ci := 8) rfl) tyX9 tyX9_ok nmX9 hown hK hP hD hS 0 rfl rfl 0 (by decide) (hts _ (gtb_in (List.mem_of_getElem? fl_9_9) rfl)) (fun _ h9 => h9) rfl hin rfl (by decide +kernel) rfl rfl (Nat.le_of_ble_eq_true rfl) (show decode cX9_init 9 = .ok (.putfield 9, 3) by decide +kernel) (fun H locs hP hD hS => ?_)
  have hP : va_P D wcl [(h0, .inr (8, [.ref q1, .null, .null])), (q1, .inl (cs.1, 8, .inl (fun _ => 0)))] H := hP
  have hD : va_D A [(h0, .inr (8, [.ref q1, .null, .null])), (q1, .inl (cs.1, 8, .inl (fun _ => 0)))] := hD
  refine lv_aload_n hx hb (show decode cX9_init 12 = .ok (.aload_n 0, 1) by decide +kernel) rfl (lv_at hl 0 rfl) ?_
  refine lv_iconst (v := 5) hx hb (show decode cX9_init 13 = .ok (.iconst 5, 1) by decide +kernel) (by decide) ?_
  refine n_newl (N' := 5) hx hb (hts _ ar_long) hK hP hD hS hA (by decide) (by decide) (Nat.le_of_ble_eq_true rfl) (Nat.le_of_ble_eq_true rfl) (Nat.le_of_ble_eq_true rfl) (show decode cX9_init 14 = .ok (.newarray .long, 2) by decide +kernel) (fun q2 H hP hD hS => ?_)
  have hP : va_P D wcl [(h0, .inr (8, [.ref q1, .null, .null])), (q1, .inl (cs.1, 8, .inl (fun _ => 0))), (q2, .inl (cs.2.1, 5, .inr (.inl (fun _ => 0))))] H := hP
  have hD : va_D A [(h0, .inr (8, [.ref q1, .null, .null])), (q1, .inl (cs.1, 8, .inl (fun _ => 0))), (q2, .inl (cs.2.1, 5, .inr (.inl (fun _ => 0))))] := hD
  refine va_putF (D := D) (ci := 8) (v := .ref q2) (ty := (.array .long)) (C := RX9) (T := TX9) (N := 3) hx hb hts (wcl_in (ci := 8) rfl) tyX9 tyX9_ok nmX9 hown hK hP hD hS 0 rfl rfl 1 (by decide) (hts _ (gtb_in (List.mem_of_getElem? fl_9_15) rfl)) (fun _ h9 => h9) rfl hin rfl (by decide +kernel) rfl rfl (Nat.le_of_ble_eq_true rfl) (show decode cX9_init 16 = .ok (.putfield 15, 3) by decide +kernel) (fun H locs hP hD hS => ?_)
  have hP : va_P D wcl [(h0, .inr (8, [.ref q1, .ref q2, .null])), (q1, .inl (cs.1, 8, .inl (fun _ => 0))), (q2, .inl (cs.2.1, 5, .inr (.inl (fun _ => 0))))] H := hP
  have hD : va_D A [(h0, .inr (8, [.ref q1, .ref q2, .null])), (q1, .inl (cs.1, 8, .inl (fun _ => 0))), (q2, .inl (cs.2.1, 5, .inr (.inl (fun _ => 0))))] := hD
  refine lv_aload_n hx hb (show decode cX9_init 19 = .ok (.aload_n 0, 1) by decide +kernel) rfl (lv_at hl 0 rfl) ?_
  refine lv_bipush (v := 8) hx hb (show decode cX9_init 20 = .ok (.bipush 8, 2) by decide +kernel) (by decide) ?_
  refine n_newi (N' := 8) hx hb (hts _ ar_int) hK hP hD hS hA (by decide) (by decide) (Nat.le_of_ble_eq_true rfl) (Nat.le_of_ble_eq_true rfl) (Nat.le_of_ble_eq_true rfl) (show decode cX9_init 22 = .ok (.newarray .int, 2) by decide +kernel) (fun q3 H hP hD hS => ?_)
  have hP : va_P D wcl [(h0, .inr (8, [.ref q1, .ref q2, .null])), (q1, .inl (cs.1, 8, .inl (fun _ => 0))), (q2, .inl (cs.2.1, 5, .inr (.inl (fun _ => 0)))), (q3, .inl (cs.1, 8, .inl (fun _ => 0)))] H := hP
  have hD : va_D A [(h0, .inr (8, [.ref q1, .ref q2, .null])), (q1, .inl (cs.1, 8, .inl (fun _ => 0))), (q2, .inl (cs.2.1, 5, .inr (.inl (fun _ => 0)))), (q3, .inl (cs.1, 8, .inl (fun _ => 0)))] := hD
  refine va_putF (D := D) (ci := 8) (v := .ref q3) (ty := (.array .int)) (C := RX9) (T := TX9) (N := 3) hx hb hts (wcl_in (ci := 8) rfl) tyX9 tyX9_ok nmX9 hown hK hP hD hS 0 rfl rfl 2 (by decide) (hts _ (gtb_in (List.mem_of_getElem? fl_9_19) rfl)) (fun _ h9 => h9) rfl hin rfl (by decide +kernel) rfl rfl (Nat.le_of_ble_eq_true rfl) (show decode cX9_init 24 = .ok (.putfield 19, 3) by decide +kernel) (fun H locs hP hD hS => ?_)
  have hP : va_P D wcl [(h0, .inr (8, [.ref q1, .ref q2, .ref q3])), (q1, .inl (cs.1, 8, .inl (fun _ => 0))), (q2, .inl (cs.2.1, 5, .inr (.inl (fun _ => 0)))), (q3, .inl (cs.1, 8, .inl (fun _ => 0)))] H := hP
  have hD : va_D A [(h0, .inr (8, [.ref q1, .ref q2, .ref q3])), (q1, .inl (cs.1, 8, .inl (fun _ => 0))), (q2, .inl (cs.2.1, 5, .inr (.inl (fun _ => 0)))), (q3, .inl (cs.1, 8, .inl (fun _ => 0)))] := hD
  refine W.widen (k := 3) (n := 21) (by omega) (by omega) ?_
  exact W.vret hx hb hr (fun t ht hW => ⟨⟨(), rfl, trivial, q1, q2, q3, by rw [ht]; exact hP, hD⟩, hS.F ht⟩) hS.2.2 (show decode cX9_init 27 = .ok (.return_, 1) by decide +kernel)

theorem dfl_4 : ∀ j, j < 7 → defaultValue (tyX4 j) = vp_V [.null, .null, .null, .null, .null, .int 0, .int 0] j := by
  intro j hj
  rcases (show j = 0 ∨ j = 1 ∨ j = 2 ∨ j = 3 ∨ j = 4 ∨ j = 5 ∨ j = 6 by omega) with rfl | rfl | rfl | rfl | rfl | rfl | rfl <;> rfl
set_option maxHeartbeats 4000000 in
set_option maxRecDepth 100000 in
theorem n_4 (l : Launch) (D : va_G) (cs : CS) (h0 : Nat) (sz : Nat) : Met l yX4_init (wsM m4_init) (rmC 1 5 120) (va_Pc [.ref h0] (CP D cs [(h0, .inr (4, [.null, .null, .null, .null, .null, .int 0, .int 0]))] sz)) (va_Qv (fun (_ : Unit) => True) (fun _ t => ∃ q1 q2 q3 q4 q5 : Nat, va_P D wcl [(h0, .inr (4, [.ref q1, .ref q2, .ref q3, .ref q4, .ref q5, .int 0, .int (-1)])), (q1, .inl (cs.1, 24, .inl (fun _ => 0))), (q2, .inl (cs.1, 24, .inl (fun _ => 0))), (q3, .inl (cs.1, 24, .inl (fun _ => 0))), (q4, .inl (cs.1, 24, .inl (fun _ => 0))), (q5, .inl (cs.1, 24, .inl (fun _ => 0)))] t.heap ∧ va_D (va_A [(h0, .inr (4, [.null, .null, .null, .null, .null, .int 0, .int 0]))] sz) [(h0, .inr (4, [.ref q1, .ref q2, .ref q3, .ref q4, .ref q5, .int 0, .int (-1)])), (q1, .inl (cs.1, 24, .inl (fun _ => 0))), (q2, .inl (cs.1, 24, .inl (fun _ => 0))), (q3, .inl (cs.1, 24, .inl (fun _ => 0))), (q4, .inl (cs.1, 24, .inl (fun _ => 0))), (q5, .inl (cs.1, 24, .inl (fun _ => 0)))]) (va_A [(h0, .inr (4, [.null, .null, .null, .null, .null, .int 0, .int 0]))] sz)) 5 120 (va_A [(h0, .inr (4, [.null, .null, .null, .null, .null, .int 0, .int 0]))] sz) := by
  refine Met.ofW (cc := cX4_init) (maxL := 1) (ret := none) (by decide) rfl ?_
  intro p e s m args below meth c s₁ B hml hv
  obtain ⟨rfl, hsz, hP, hK, hD0, hN⟩ := hv
  have hx := B.exec
  have hb := B.bytes
  have hr := B.returns
  have hts : ∀ w ∈ gtb, w.before ([.ref h0] : List Value).toArray s = true := fun w hw => atoms_spec (ws := wsM m4_init) B.pre w (List.mem_cons_of_mem _ hw)
  have hown : s.vm.findClass RX4 = some m.cls := findClass_of_methodNamed B.named
  have hlocks := B.notSynchronized
  have hin : meth.name = "<init>" := (name_of_methodNamed B.named B.method).1
  subst hsz
  have hD := hD0.self (sz := s.heap.size)
  generalize hAe : va_A [(h0, .inr (4, [.null, .null, .null, .null, .null, .int 0, .int 0]))] s.heap.size = A at hD ⊢
  have hA : ∀ q : Nat, s.heap.size ≤ q → A q := fun q h => by rw [← hAe]; exact Or.inr h
  have hS : va_S A s.heap s.heap [] := va_S.rf
  have hl := lv_entry ([.ref h0]) (n := 1) (Nat.le_of_ble_eq_true rfl)
  rw [lg_entry_eq]
  generalize (lg_sl ([.ref h0]) ++ List.replicate (1 - (lg_sl ([.ref h0])).length) Slot.unset).toArray = ls at hl ⊢
  have hl : lv_has ls 1 [(0, .ref h0)] := hl
  refine lv_aload_n hx hb (show decode cX4_init 0 = .ok (.aload_n 0, 1) by decide +kernel) rfl (lv_at hl 0 rfl) ?_
  refine W.objInit hx hb hown (hts (.methodLink RX4 3 Lib.objectInit) (gtb_in (tb_2 (List.mem_of_getElem? (i := 64) (by decide +kernel))) rfl)) (hts _ oI_in) (hts _ oI_code) rfl (by rw [hml]; exact hl.1) rfl (show decode cX4_init 1 = .ok (.invokespecial 3, 3) by decide +kernel) (Nat.le_of_ble_eq_true rfl) (Nat.le_of_ble_eq_true rfl) ?_
  refine W.eq (g2 := F0 m 4 ls []) rfl ?_
  refine lv_aload_n hx hb (show decode cX4_init 4 = .ok (.aload_n 0, 1) by decide +kernel) rfl (lv_at hl 0 rfl) ?_
  refine lv_bipush (v := 24) hx hb (show decode cX4_init 5 = .ok (.bipush 24, 2) by decide +kernel) (by decide) ?_
  refine n_newi (N' := 24) hx hb (hts _ ar_int) hK hP hD hS hA (by decide) (by decide) (Nat.le_of_ble_eq_true rfl) (Nat.le_of_ble_eq_true rfl) (Nat.le_of_ble_eq_true rfl) (show decode cX4_init 7 = .ok (.newarray .int, 2) by decide +kernel) (fun q1 H hP hD hS => ?_)
  have hP : va_P D wcl [(h0, .inr (4, [.null, .null, .null, .null, .null, .int 0, .int 0])), (q1, .inl (cs.1, 24, .inl (fun _ => 0)))] H := hP
  have hD : va_D A [(h0, .inr (4, [.null, .null, .null, .null, .null, .int 0, .int 0])), (q1, .inl (cs.1, 24, .inl (fun _ => 0)))] := hD
  refine va_putF (D := D) (ci := 4) (v := .ref q1) (ty := (.array .int)) (C := RX4) (T := TX4) (N := 7) hx hb hts (wcl_in (ci := 4) rfl) tyX4 tyX4_ok nmX4 hown hK hP hD hS 0 rfl rfl 0 (by decide) (hts _ (gtb_in (List.mem_of_getElem? fl_4_9) rfl)) (fun _ h9 => h9) rfl hin rfl (by decide +kernel) rfl rfl (Nat.le_of_ble_eq_true rfl) (show decode cX4_init 9 = .ok (.putfield 9, 3) by decide +kernel) (fun H locs hP hD hS => ?_)
  have hP : va_P D wcl [(h0, .inr (4, [.ref q1, .null, .null, .null, .null, .int 0, .int 0])), (q1, .inl (cs.1, 24, .inl (fun _ => 0)))] H := hP
  have hD : va_D A [(h0, .inr (4, [.ref q1, .null, .null, .null, .null, .int 0, .int 0])), (q1, .inl (cs.1, 24, .inl (fun _ => 0)))] := hD
  refine lv_aload_n hx hb (show decode cX4_init 12 = .ok (.aload_n 0, 1) by decide +kernel) rfl (lv_at hl 0 rfl) ?_
  refine lv_bipush (v := 24) hx hb (show decode cX4_init 13 = .ok (.bipush 24, 2) by decide +kernel) (by decide) ?_
  refine n_newi (N' := 24) hx hb (hts _ ar_int) hK hP hD hS hA (by decide) (by decide) (Nat.le_of_ble_eq_true rfl) (Nat.le_of_ble_eq_true rfl) (Nat.le_of_ble_eq_true rfl) (show decode cX4_init 15 = .ok (.newarray .int, 2) by decide +kernel) (fun q2 H hP hD hS => ?_)
  have hP : va_P D wcl [(h0, .inr (4, [.ref q1, .null, .null, .null, .null, .int 0, .int 0])), (q1, .inl (cs.1, 24, .inl (fun _ => 0))), (q2, .inl (cs.1, 24, .inl (fun _ => 0)))] H := hP
  have hD : va_D A [(h0, .inr (4, [.ref q1, .null, .null, .null, .null, .int 0, .int 0])), (q1, .inl (cs.1, 24, .inl (fun _ => 0))), (q2, .inl (cs.1, 24, .inl (fun _ => 0)))] := hD
  refine va_putF (D := D) (ci := 4) (v := .ref q2) (ty := (.array .int)) (C := RX4) (T := TX4) (N := 7) hx hb hts (wcl_in (ci := 4) rfl) tyX4 tyX4_ok nmX4 hown hK hP hD hS 0 rfl rfl 1 (by decide) (hts _ (gtb_in (List.mem_of_getElem? fl_4_15) rfl)) (fun _ h9 => h9) rfl hin rfl (by decide +kernel) rfl rfl (Nat.le_of_ble_eq_true rfl) (show decode cX4_init 17 = .ok (.putfield 15, 3) by decide +kernel) (fun H locs hP hD hS => ?_)
  have hP : va_P D wcl [(h0, .inr (4, [.ref q1, .ref q2, .null, .null, .null, .int 0, .int 0])), (q1, .inl (cs.1, 24, .inl (fun _ => 0))), (q2, .inl (cs.1, 24, .inl (fun _ => 0)))] H := hP
  have hD : va_D A [(h0, .inr (4, [.ref q1, .ref q2, .null, .null, .null, .int 0, .int 0])), (q1, .inl (cs.1, 24, .inl (fun _ => 0))), (q2, .inl (cs.1, 24, .inl (fun _ => 0)))] := hD
  refine lv_aload_n hx hb (show decode cX4_init 20 = .ok (.aload_n 0, 1) by decide +kernel) rfl (lv_at hl 0 rfl) ?_
  refine lv_bipush (v := 24) hx hb (show decode cX4_init 21 = .ok (.bipush 24, 2) by decide +kernel) (by decide) ?_
  refine n_newi (N' := 24) hx hb (hts _ ar_int) hK hP hD hS hA (by decide) (by decide) (Nat.le_of_ble_eq_true rfl) (Nat.le_of_ble_eq_true rfl) (Nat.le_of_ble_eq_true rfl) (show decode cX4_init 23 = .ok (.newarray .int, 2) by decide +kernel) (fun q3 H hP hD hS => ?_)
  have hP : va_P D wcl [(h0, .inr (4, [.ref q1, .ref q2, .null, .null, .null, .int 0, .int 0])), (q1, .inl (cs.1, 24, .inl (fun _ => 0))), (q2, .inl (cs.1, 24, .inl (fun _ => 0))), (q3, .inl (cs.1, 24, .inl (fun _ => 0)))] H := hP
  have hD : va_D A [(h0, .inr (4, [.ref q1, .ref q2, .null, .null, .null, .int 0, .int 0])), (q1, .inl (cs.1, 24, .inl (fun _ => 0))), (q2, .inl (cs.1, 24, .inl (fun _ => 0))), (q3, .inl (cs.1, 24, .inl (fun _ => 0)))] := hD
  refine va_putF (D := D) (ci := 4) (v := .ref q3) (ty := (.array .int)) (C := RX4) (T := TX4) (N := 7) hx hb hts (wcl_in (ci := 4) rfl) tyX4 tyX4_ok nmX4 hown hK hP hD hS 0 rfl rfl 2 (by decide) (hts _ (gtb_in (List.mem_of_getElem? fl_4_18) rfl)) (fun _ h9 => h9) rfl hin rfl (by decide +kernel) rfl rfl (Nat.le_of_ble_eq_true rfl) (show decode cX4_init 25 = .ok (.putfield 18, 3) by decide +kernel) (fun H locs hP hD hS => ?_)
  have hP : va_P D wcl [(h0, .inr (4, [.ref q1, .ref q2, .ref q3, .null, .null, .int 0, .int 0])), (q1, .inl (cs.1, 24, .inl (fun _ => 0))), (q2, .inl (cs.1, 24, .inl (fun _ => 0))), (q3, .inl (cs.1, 24, .inl (fun _ => 0)))] H := hP
  have hD : va_D A [(h0, .inr (4, [.ref q1, .ref q2, .ref q3, .null, .null, .int 0, .int 0])), (q1, .inl (cs.1, 24, .inl (fun _ => 0))), (q2, .inl (cs.1, 24, .inl (fun _ => 0))), (q3, .inl (cs.1, 24, .inl (fun _ => 0)))] := hD
  refine lv_aload_n hx hb (show decode cX4_init 28 = .ok (.aload_n 0, 1) by decide +kernel) rfl (lv_at hl 0 rfl) ?_
  refine lv_bipush (v := 24) hx hb (show decode cX4_init 29 = .ok (.bipush 24, 2) by decide +kernel) (by decide) ?_
  refine n_newi (N' := 24) hx hb (hts _ ar_int) hK hP hD hS hA (by decide) (by decide) (Nat.le_of_ble_eq_true rfl) (Nat.le_of_ble_eq_true rfl) (Nat.le_of_ble_eq_true rfl) (show decode cX4_init 31 = .ok (.newarray .int, 2) by decide +kernel) (fun q4 H hP hD hS => ?_)
  have hP : va_P D wcl [(h0, .inr (4, [.ref q1, .ref q2, .ref q3, .null, .null, .int 0, .int 0])), (q1, .inl (cs.1, 24, .inl (fun _ => 0))), (q2, .inl (cs.1, 24, .inl (fun _ => 0))), (q3, .inl (cs.1, 24, .inl (fun _ => 0))), (q4, .inl (cs.1, 24, .inl (fun _ => 0)))] H := hP
  have hD : va_D A [(h0, .inr (4, [.ref q1, .ref q2, .ref q3, .null, .null, .int 0, .int 0])), (q1, .inl (cs.1, 24, .inl (fun _ => 0))), (q2, .inl (cs.1, 24, .inl (fun _ => 0))), (q3, .inl (cs.1, 24, .inl (fun _ => 0))), (q4, .inl (cs.1, 24, .inl (fun _ => 0)))] := hD
  refine va_putF (D := D) (ci := 4) (v := .ref q4) (ty := (.array .int)) (C := RX4) (T := TX4) (N := 7) hx hb hts (wcl_in (ci := 4) rfl) tyX4 tyX4_ok nmX4 hown hK hP hD hS 0 rfl rfl 3 (by decide) (hts _ (gtb_in (List.mem_of_getElem? fl_4_21) rfl)) (fun _ h9 => h9) rfl hin rfl (by decide +kernel) rfl rfl (Nat.le_of_ble_eq_true rfl) (show decode cX4_init 33 = .ok (.putfield 21, 3) by decide +kernel) (fun H locs hP hD hS => ?_)
  have hP : va_P D wcl [(h0, .inr (4, [.ref q1, .ref q2, .ref q3, .ref q4, .null, .int 0, .int 0])), (q1, .inl (cs.1, 24, .inl (fun _ => 0))), (q2, .inl (cs.1, 24, .inl (fun _ => 0))), (q3, .inl (cs.1, 24, .inl (fun _ => 0))), (q4, .inl (cs.1, 24, .inl (fun _ => 0)))] H := hP
  have hD : va_D A [(h0, .inr (4, [.ref q1, .ref q2, .ref q3, .ref q4, .null, .int 0, .int 0])), (q1, .inl (cs.1, 24, .inl (fun _ => 0))), (q2, .inl (cs.1, 24, .inl (fun _ => 0))), (q3, .inl (cs.1, 24, .inl (fun _ => 0))), (q4, .inl (cs.1, 24, .inl (fun _ => 0)))] := hD
  refine lv_aload_n hx hb (show decode cX4_init 36 = .ok (.aload_n 0, 1) by decide +kernel) rfl (lv_at hl 0 rfl) ?_
  refine lv_bipush (v := 24) hx hb (show decode cX4_init 37 = .ok (.bipush 24, 2) by decide +kernel) (by decide) ?_
  refine n_newi (N' := 24) hx hb (hts _ ar_int) hK hP hD hS hA (by decide) (by decide) (Nat.le_of_ble_eq_true rfl) (Nat.le_of_ble_eq_true rfl) (Nat.le_of_ble_eq_true rfl) (show decode cX4_init 39 = .ok (.newarray .int, 2) by decide +kernel) (fun q5 H hP hD hS => ?_)
  have hP : va_P D wcl [(h0, .inr (4, [.ref q1, .ref q2, .ref q3, .ref q4, .null, .int 0, .int 0])), (q1, .inl (cs.1, 24, .inl (fun _ => 0))), (q2, .inl (cs.1, 24, .inl (fun _ => 0))), (q3, .inl (cs.1, 24, .inl (fun _ => 0))), (q4, .inl (cs.1, 24, .inl (fun _ => 0))), (q5, .inl (cs.1, 24, .inl (fun _ => 0)))] H := hP
  have hD : va_D A [(h0, .inr (4, [.ref q1, .ref q2, .ref q3, .ref q4, .null, .int 0, .int 0])), (q1, .inl (cs.1, 24, .inl (fun _ => 0))), (q2, .inl (cs.1, 24, .inl (fun _ => 0))), (q3, .inl (cs.1, 24, .inl (fun _ => 0))), (q4, .inl (cs.1, 24, .inl (fun _ => 0))), (q5, .inl (cs.1, 24, .inl (fun _ => 0)))] := hD
  refine va_putF (D := D) (ci := 4) (v := .ref q5) (ty := (.array .int)) (C := RX4) (T := TX4) (N := 7) hx hb hts (wcl_in (ci := 4) rfl) tyX4 tyX4_ok nmX4 hown hK hP hD hS 0 rfl rfl 4 (by decide) (hts _ (gtb_in (List.mem_of_getElem? fl_4_24) rfl)) (fun _ h9 => h9) rfl hin rfl (by decide +kernel) rfl rfl (Nat.le_of_ble_eq_true rfl) (show decode cX4_init 41 = .ok (.putfield 24, 3) by decide +kernel) (fun H locs hP hD hS => ?_)
  have hP : va_P D wcl [(h0, .inr (4, [.ref q1, .ref q2, .ref q3, .ref q4, .ref q5, .int 0, .int 0])), (q1, .inl (cs.1, 24, .inl (fun _ => 0))), (q2, .inl (cs.1, 24, .inl (fun _ => 0))), (q3, .inl (cs.1, 24, .inl (fun _ => 0))), (q4, .inl (cs.1, 24, .inl (fun _ => 0))), (q5, .inl (cs.1, 24, .inl (fun _ => 0)))] H := hP
  have hD : va_D A [(h0, .inr (4, [.ref q1, .ref q2, .ref q3, .ref q4, .ref q5, .int 0, .int 0])), (q1, .inl (cs.1, 24, .inl (fun _ => 0))), (q2, .inl (cs.1, 24, .inl (fun _ => 0))), (q3, .inl (cs.1, 24, .inl (fun _ => 0))), (q4, .inl (cs.1, 24, .inl (fun _ => 0))), (q5, .inl (cs.1, 24, .inl (fun _ => 0)))] := hD
  refine lv_aload_n hx hb (show decode cX4_init 44 = .ok (.aload_n 0, 1) by decide +kernel) rfl (lv_at hl 0 rfl) ?_
  refine lv_iconst (v := (-1)) hx hb (show decode cX4_init 45 = .ok (.iconst (-1), 1) by decide +kernel) (by decide) ?_
  refine va_put (D := D) (ci := 4) (v := .int (-1)) (ty := .int) (C := RX4) (T := TX4) (N := 7) hx hb hts (wcl_in (ci := 4) rfl) tyX4 tyX4_ok nmX4 hown hK hP hD hS 0 rfl rfl 6 (by decide) (hts _ (gtb_in (List.mem_of_getElem? fl_4_27) rfl)) (fun _ h9 => h9) rfl (by decide +kernel) rfl rfl (Nat.le_of_ble_eq_true rfl) (show decode cX4_init 46 = .ok (.putfield 27, 3) by decide +kernel) (fun H locs hP hD hS => ?_)
  have hP : va_P D wcl [(h0, .inr (4, [.ref q1, .ref q2, .ref q3, .ref q4, .ref q5, .int 0, .int (-1)])), (q1, .inl (cs.1, 24, .inl (fun _ => 0))), (q2, .inl (cs.1, 24, .inl (fun _ => 0))), (q3, .inl (cs.1, 24, .inl (fun _ => 0))), (q4, .inl (cs.1, 24, .inl (fun _ => 0))), (q5, .inl (cs.1, 24, .inl (fun _ => 0)))] H := hP
  have hD : va_D A [(h0, .inr (4, [.ref q1, .ref q2, .ref q3, .ref q4, .ref q5, .int 0, .int (-1)])), (q1, .inl (cs.1, 24, .inl (fun _ => 0))), (q2, .inl (cs.1, 24, .inl (fun _ => 0))), (q3, .inl (cs.1, 24, .inl (fun _ => 0))), (q4, .inl (cs.1, 24, .inl (fun _ => 0))), (q5, .inl (cs.1, 24, .inl (fun _ => 0)))] := hD
  refine W.widen (k := 5) (n := 120) (by omega) (by omega) ?_
  exact W.vret hx hb hr (fun t ht hW => ⟨⟨(), rfl, trivial, q1, q2, q3, q4, q5, by rw [ht]; exact hP, hD⟩, hS.F ht⟩) hS.2.2 (show decode cX4_init 49 = .ok (.return_, 1) by decide +kernel)

theorem dfl_6 : ∀ j, j < 6 → defaultValue (tyX6 j) = vp_V [.int 0, .null, .int 0, .null, .int 0, .int 0] j := by
  intro j hj
  rcases (show j = 0 ∨ j = 1 ∨ j = 2 ∨ j = 3 ∨ j = 4 ∨ j = 5 by omega) with rfl | rfl | rfl | rfl | rfl | rfl <;> rfl
set_option maxHeartbeats 4000000 in
set_option maxRecDepth 100000 in
theorem n_6 (l : Launch) (D : va_G) (cs : CS) (h0 : Nat) (sz : Nat) : Met l yX6_init (wsM m6_init) (rmC 1 2 8462) (va_Pc [.ref h0] (CP D cs [(h0, .inr (6, [.int 0, .null, .int 0, .null, .int 0, .int 0]))] sz)) (va_Qv (fun (_ : Unit) => True) (fun _ t => ∃ q1 q2 : Nat, va_P D wcl [(h0, .inr (6, [.int 0, .ref q1, .int (-1), .ref q2, .int 0, .int 0])), (q1, .inl (cs.1, 4231, .inl (fun _ => 0))), (q2, .inl (cs.1, 4231, .inl (fun _ => 0)))] t.heap ∧ va_D (va_A [(h0, .inr (6, [.int 0, .null, .int 0, .null, .int 0, .int 0]))] sz) [(h0, .inr (6, [.int 0, .ref q1, .int (-1), .ref q2, .int 0, .int 0])), (q1, .inl (cs.1, 4231, .inl (fun _ => 0))), (q2, .inl (cs.1, 4231, .inl (fun _ => 0)))]) (va_A [(h0, .inr (6, [.int 0, .null, .int 0, .null, .int 0, .int 0]))] sz)) 2 8462 (va_A [(h0, .inr (6, [.int 0, .null, .int 0, .null, .int 0, .int 0]))] sz) := by
  refine Met.ofW (cc := cX6_init) (maxL := 1) (ret := none) (by decide) rfl ?_
  intro p e s m args below meth c s₁ B hml hv
  obtain ⟨rfl, hsz, hP, hK, hD0, hN⟩ := hv
  have hx := B.exec
  have hb := B.bytes
  have hr := B.returns
  have hts : ∀ w ∈ gtb, w.before ([.ref h0] : List Value).toArray s = true := fun w hw => atoms_spec (ws := wsM m6_init) B.pre w (List.mem_cons_of_mem _ hw)
  have hown : s.vm.findClass RX6 = some m.cls := findClass_of_methodNamed B.named
  have hlocks := B.notSynchronized
  have hin : meth.name = "<init>" := (name_of_methodNamed B.named B.method).1
  subst hsz
  have hD := hD0.self (sz := s.heap.size)
  generalize hAe : va_A [(h0, .inr (6, [.int 0, .null, .int 0, .null, .int 0, .int 0]))] s.heap.size = A at hD ⊢
  have hA : ∀ q : Nat, s.heap.size ≤ q → A q := fun q h => by rw [← hAe]; exact Or.inr h
  have hS : va_S A s.heap s.heap [] := va_S.rf
  have hl := lv_entry ([.ref h0]) (n := 1) (Nat.le_of_ble_eq_true rfl)
  rw [lg_entry_eq]
  generalize (lg_sl ([.ref h0]) ++ List.replicate (1 - (lg_sl ([.ref h0])).length) Slot.unset).toArray = ls at hl ⊢
  have hl : lv_has ls 1 [(0, .ref h0)] := hl
  refine lv_aload_n hx hb (show decode cX6_init 0 = .ok (.aload_n 0, 1) by decide +kernel) rfl (lv_at hl 0 rfl) ?_
  refine W.objInit hx hb hown (hts (.methodLink RX6 3 Lib.objectInit) (gtb_in (tb_2 (List.mem_of_getElem? (i := 94) (by decide +kernel))) rfl)) (hts _ oI_in) (hts _ oI_code) rfl (by rw [hml]; exact hl.1) rfl (show decode cX6_init 1 = .ok (.invokespecial 3, 3) by decide +kernel) (Nat.le_of_ble_eq_true rfl) (Nat.le_of_ble_eq_true rfl) ?_
  refine W.eq (g2 := F0 m 4 ls []) rfl ?_
  refine lv_aload_n hx hb (show decode cX6_init 4 = .ok (.aload_n 0, 1) by decide +kernel) rfl (lv_at hl 0 rfl) ?_
  refine lv_sipush (v := 4231) hx hb (show decode cX6_init 5 = .ok (.sipush 4231, 3) by decide +kernel) (by decide) ?_
  refine n_newi (N' := 4231) hx hb (hts _ ar_int) hK hP hD hS hA (by decide) (by decide) (Nat.le_of_ble_eq_true rfl) (Nat.le_of_ble_eq_true rfl) (Nat.le_of_ble_eq_true rfl) (show decode cX6_init 8 = .ok (.newarray .int, 2) by decide +kernel) (fun q1 H hP hD hS => ?_)
  have hP : va_P D wcl [(h0, .inr (6, [.int 0, .null, .int 0, .null, .int 0, .int 0])), (q1, .inl (cs.1, 4231, .inl (fun _ => 0)))] H := hP
  have hD : va_D A [(h0, .inr (6, [.int 0, .null, .int 0, .null, .int 0, .int 0])), (q1, .inl (cs.1, 4231, .inl (fun _ => 0)))] := hD
  refine va_putF (D := D) (ci := 6) (v := .ref q1) (ty := (.array .int)) (C := RX6) (T := TX6) (N := 6) hx hb hts (wcl_in (ci := 6) rfl) tyX6 tyX6_ok nmX6 hown hK hP hD hS 0 rfl rfl 1 (by decide) (hts _ (gtb_in (List.mem_of_getElem? fl_6_11) rfl)) (fun _ h9 => h9) rfl hin rfl (by decide +kernel) rfl rfl (Nat.le_of_ble_eq_true rfl) (show decode cX6_init 10 = .ok (.putfield 11, 3) by decide +kernel) (fun H locs hP hD hS => ?_)
  have hP : va_P D wcl [(h0, .inr (6, [.int 0, .ref q1, .int 0, .null, .int 0, .int 0])), (q1, .inl (cs.1, 4231, .inl (fun _ => 0)))] H := hP
  have hD : va_D A [(h0, .inr (6, [.int 0, .ref q1, .int 0, .null, .int 0, .int 0])), (q1, .inl (cs.1, 4231, .inl (fun _ => 0)))] := hD
  refine lv_aload_n hx hb (show decode cX6_init 13 = .ok (.aload_n 0, 1) by decide +kernel) rfl (lv_at hl 0 rfl) ?_
  refine lv_iconst (v := (-1)) hx hb (show decode cX6_init 14 = .ok (.iconst (-1), 1) by decide +kernel) (by decide) ?_
  refine va_put (D := D) (ci := 6) (v := .int (-1)) (ty := .int) (C := RX6) (T := TX6) (N := 6) hx hb hts (wcl_in (ci := 6) rfl) tyX6 tyX6_ok nmX6 hown hK hP hD hS 0 rfl rfl 2 (by decide) (hts _ (gtb_in (List.mem_of_getElem? fl_6_15) rfl)) (fun _ h9 => h9) rfl (by decide +kernel) rfl rfl (Nat.le_of_ble_eq_true rfl) (show decode cX6_init 15 = .ok (.putfield 15, 3) by decide +kernel) (fun H locs hP hD hS => ?_)
  have hP : va_P D wcl [(h0, .inr (6, [.int 0, .ref q1, .int (-1), .null, .int 0, .int 0])), (q1, .inl (cs.1, 4231, .inl (fun _ => 0)))] H := hP
  have hD : va_D A [(h0, .inr (6, [.int 0, .ref q1, .int (-1), .null, .int 0, .int 0])), (q1, .inl (cs.1, 4231, .inl (fun _ => 0)))] := hD
  refine lv_aload_n hx hb (show decode cX6_init 18 = .ok (.aload_n 0, 1) by decide +kernel) rfl (lv_at hl 0 rfl) ?_
  refine lv_sipush (v := 4231) hx hb (show decode cX6_init 19 = .ok (.sipush 4231, 3) by decide +kernel) (by decide) ?_
  refine n_newi (N' := 4231) hx hb (hts _ ar_int) hK hP hD hS hA (by decide) (by decide) (Nat.le_of_ble_eq_true rfl) (Nat.le_of_ble_eq_true rfl) (Nat.le_of_ble_eq_true rfl) (show decode cX6_init 22 = .ok (.newarray .int, 2) by decide +kernel) (fun q2 H hP hD hS => ?_)
  have hP : va_P D wcl [(h0, .inr (6, [.int 0, .ref q1, .int (-1), .null, .int 0, .int 0])), (q1, .inl (cs.1, 4231, .inl (fun _ => 0))), (q2, .inl (cs.1, 4231, .inl (fun _ => 0)))] H := hP
  have hD : va_D A [(h0, .inr (6, [.int 0, .ref q1, .int (-1), .null, .int 0, .int 0])), (q1, .inl (cs.1, 4231, .inl (fun _ => 0))), (q2, .inl (cs.1, 4231, .inl (fun _ => 0)))] := hD
  refine va_putF (D := D) (ci := 6) (v := .ref q2) (ty := (.array .int)) (C := RX6) (T := TX6) (N := 6) hx hb hts (wcl_in (ci := 6) rfl) tyX6 tyX6_ok nmX6 hown hK hP hD hS 0 rfl rfl 3 (by decide) (hts _ (gtb_in (List.mem_of_getElem? fl_6_19) rfl)) (fun _ h9 => h9) rfl hin rfl (by decide +kernel) rfl rfl (Nat.le_of_ble_eq_true rfl) (show decode cX6_init 24 = .ok (.putfield 19, 3) by decide +kernel) (fun H locs hP hD hS => ?_)
  have hP : va_P D wcl [(h0, .inr (6, [.int 0, .ref q1, .int (-1), .ref q2, .int 0, .int 0])), (q1, .inl (cs.1, 4231, .inl (fun _ => 0))), (q2, .inl (cs.1, 4231, .inl (fun _ => 0)))] H := hP
  have hD : va_D A [(h0, .inr (6, [.int 0, .ref q1, .int (-1), .ref q2, .int 0, .int 0])), (q1, .inl (cs.1, 4231, .inl (fun _ => 0))), (q2, .inl (cs.1, 4231, .inl (fun _ => 0)))] := hD
  refine W.widen (k := 2) (n := 8462) (by omega) (by omega) ?_
  exact W.vret hx hb hr (fun t ht hW => ⟨⟨(), rfl, trivial, q1, q2, by rw [ht]; exact hP, hD⟩, hS.F ht⟩) hS.2.2 (show decode cX6_init 27 = .ok (.return_, 1) by decide +kernel)

theorem dfl_1 : ∀ j, j < 9 → defaultValue (tyX1 j) = vp_V [.null, .null, .null, .null, .null, .null, .int 0, .int 0, .int 0] j := by
  intro j hj
  rcases (show j = 0 ∨ j = 1 ∨ j = 2 ∨ j = 3 ∨ j = 4 ∨ j = 5 ∨ j = 6 ∨ j = 7 ∨ j = 8 by omega) with rfl | rfl | rfl | rfl | rfl | rfl | rfl | rfl | rfl <;> rfl
set_option maxHeartbeats 4000000 in
set_option maxRecDepth 100000 in
theorem n_1 (l : Launch) (D : va_G) (cs : CS) (h0 : Nat) (sz : Nat) : Met l yX1_init (wsM m1_init) (rmC 1 6 1960) (va_Pc [.ref h0] (CP D cs [(h0, .inr (1, [.null, .null, .null, .null, .null, .null, .int 0, .int 0, .int 0]))] sz)) (va_Qv (fun (_ : Unit) => True) (fun _ t => ∃ q1 q2 q3 q4 q5 q6 : Nat, va_P D wcl [(h0, .inr (1, [.ref q1, .ref q2, .ref q3, .ref q4, .ref q5, .ref q6, .int 0, .int 0, .int 0])), (q1, .inl (cs.1, 32, .inl (fun _ => 0))), (q2, .inl (cs.1, 480, .inl (fun _ => 0))), (q3, .inl (cs.1, 480, .inl (fun _ => 0))), (q4, .inl (cs.1, 480, .inl (fun _ => 0))), (q5, .inl (cs.2.2, 480, .inl (fun _ => 0))), (q6, .inl (cs.1, 8, .inl (fun _ => 0)))] t.heap ∧ va_D (va_A [(h0, .inr (1, [.null, .null, .null, .null, .null, .null, .int 0, .int 0, .int 0]))] sz) [(h0, .inr (1, [.ref q1, .ref q2, .ref q3, .ref q4, .ref q5, .ref q6, .int 0, .int 0, .int 0])), (q1, .inl (cs.1, 32, .inl (fun _ => 0))), (q2, .inl (cs.1, 480, .inl (fun _ => 0))), (q3, .inl (cs.1, 480, .inl (fun _ => 0))), (q4, .inl (cs.1, 480, .inl (fun _ => 0))), (q5, .inl (cs.2.2, 480, .inl (fun _ => 0))), (q6, .inl (cs.1, 8, .inl (fun _ => 0)))]) (va_A [(h0, .inr (1, [.null, .null, .null, .null, .null, .null, .int 0, .int 0, .int 0]))] sz)) 6 1960 (va_A [(h0, .inr (1, [.null, .null, .null, .null, .null, .null, .int 0, .int 0, .int 0]))] sz) := by
  refine Met.ofW (cc := cX1_init) (maxL := 1) (ret := none) (by decide) rfl ?_
  intro p e s m args below meth c s₁ B hml hv
  obtain ⟨rfl, hsz, hP, hK, hD0, hN⟩ := hv
  have hx := B.exec
  have hb := B.bytes
  have hr := B.returns
  have hts : ∀ w ∈ gtb, w.before ([.ref h0] : List Value).toArray s = true := fun w hw => atoms_spec (ws := wsM m1_init) B.pre w (List.mem_cons_of_mem _ hw)
  have hown : s.vm.findClass RX1 = some m.cls := findClass_of_methodNamed B.named
  have hlocks := B.notSynchronized
  have hin : meth.name = "<init>" := (name_of_methodNamed B.named B.method).1
  subst hsz
  have hD := hD0.self (sz := s.heap.size)
  generalize hAe : va_A [(h0, .inr (1, [.null, .null, .null, .null, .null, .null, .int 0, .int 0, .int 0]))] s.heap.size = A at hD ⊢
  have hA : ∀ q : Nat, s.heap.size ≤ q → A q := fun q h => by rw [← hAe]; exact Or.inr h
  have hS : va_S A s.heap s.heap [] := va_S.rf
  have hl := lv_entry ([.ref h0]) (n := 1) (Nat.le_of_ble_eq_true rfl)
  rw [lg_entry_eq]
  generalize (lg_sl ([.ref h0]) ++ List.replicate (1 - (lg_sl ([.ref h0])).length) Slot.unset).toArray = ls at hl ⊢
  have hl : lv_has ls 1 [(0, .ref h0)] := hl
  refine lv_aload_n hx hb (show decode cX1_init 0 = .ok (.aload_n 0, 1) by decide +kernel) rfl (lv_at hl 0 rfl) ?_
  refine W.objInit hx hb hown (hts (.methodLink RX1 5 Lib.objectInit) (gtb_in (tb_2 (List.mem_of_getElem? (i := 120) (by decide +kernel))) rfl)) (hts _ oI_in) (hts _ oI_code) rfl (by rw [hml]; exact hl.1) rfl (show decode cX1_init 1 = .ok (.invokespecial 5, 3) by decide +kernel) (Nat.le_of_ble_eq_true rfl) (Nat.le_of_ble_eq_true rfl) ?_
  refine W.eq (g2 := F0 m 4 ls []) rfl ?_
  refine lv_aload_n hx hb (show decode cX1_init 4 = .ok (.aload_n 0, 1) by decide +kernel) rfl (lv_at hl 0 rfl) ?_
  refine lv_bipush (v := 32) hx hb (show decode cX1_init 5 = .ok (.bipush 32, 2) by decide +kernel) (by decide) ?_
  refine n_newi (N' := 32) hx hb (hts _ ar_int) hK hP hD hS hA (by decide) (by decide) (Nat.le_of_ble_eq_true rfl) (Nat.le_of_ble_eq_true rfl) (Nat.le_of_ble_eq_true rfl) (show decode cX1_init 7 = .ok (.newarray .int, 2) by decide +kernel) (fun q1 H hP hD hS => ?_)
  have hP : va_P D wcl [(h0, .inr (1, [.null, .null, .null, .null, .null, .null, .int 0, .int 0, .int 0])), (q1, .inl (cs.1, 32, .inl (fun _ => 0)))] H := hP
  have hD : va_D A [(h0, .inr (1, [.null, .null, .null, .null, .null, .null, .int 0, .int 0, .int 0])), (q1, .inl (cs.1, 32, .inl (fun _ => 0)))] := hD
  refine va_putF (D := D) (ci := 1) (v := .ref q1) (ty := (.array .int)) (C := RX1) (T := TX1) (N := 9) hx hb hts (wcl_in (ci := 1) rfl) tyX1 tyX1_ok nmX1 hown hK hP hD hS 0 rfl rfl 0 (by decide) (hts _ (gtb_in (List.mem_of_getElem? fl_1_11) rfl)) (fun _ h9 => h9) rfl hin rfl (by decide +kernel) rfl rfl (Nat.le_of_ble_eq_true rfl) (show decode cX1_init 9 = .ok (.putfield 11, 3) by decide +kernel) (fun H locs hP hD hS => ?_)
  have hP : va_P D wcl [(h0, .inr (1, [.ref q1, .null, .null, .null, .null, .null, .int 0, .int 0, .int 0])), (q1, .inl (cs.1, 32, .inl (fun _ => 0)))] H := hP
  have hD : va_D A [(h0, .inr (1, [.ref q1, .null, .null, .null, .null, .null, .int 0, .int 0, .int 0])), (q1, .inl (cs.1, 32, .inl (fun _ => 0)))] := hD
  refine lv_aload_n hx hb (show decode cX1_init 12 = .ok (.aload_n 0, 1) by decide +kernel) rfl (lv_at hl 0 rfl) ?_
  refine lv_sipush (v := 480) hx hb (show decode cX1_init 13 = .ok (.sipush 480, 3) by decide +kernel) (by decide) ?_
  refine n_newi (N' := 480) hx hb (hts _ ar_int) hK hP hD hS hA (by decide) (by decide) (Nat.le_of_ble_eq_true rfl) (Nat.le_of_ble_eq_true rfl) (Nat.le_of_ble_eq_true rfl) (show decode cX1_init 16 = .ok (.newarray .int, 2) by decide +kernel) (fun q2 H hP hD hS => ?_)
  have hP : va_P D wcl [(h0, .inr (1, [.ref q1, .null, .null, .null, .null, .null, .int 0, .int 0, .int 0])), (q1, .inl (cs.1, 32, .inl (fun _ => 0))), (q2, .inl (cs.1, 480, .inl (fun _ => 0)))] H := hP
  have hD : va_D A [(h0, .inr (1, [.ref q1, .null, .null, .null, .null, .null, .int 0, .int 0, .int 0])), (q1, .inl (cs.1, 32, .inl (fun _ => 0))), (q2, .inl (cs.1, 480, .inl (fun _ => 0)))] := hD
  refine va_putF (D := D) (ci := 1) (v := .ref q2) (ty := (.array .int)) (C := RX1) (T := TX1) (N := 9) hx hb hts (wcl_in (ci := 1) rfl) tyX1 tyX1_ok nmX1 hown hK hP hD hS 0 rfl rfl 1 (by decide) (hts _ (gtb_in (List.mem_of_getElem? fl_1_15) rfl)) (fun _ h9 => h9) rfl hin rfl (by decide +kernel) rfl rfl (Nat.le_of_ble_eq_true rfl) (show decode cX1_init 18 = .ok (.putfield 15, 3) by decide +kernel) (fun H locs hP hD hS => ?_)
  have hP : va_P D wcl [(h0, .inr (1, [.ref q1, .ref q2, .null, .null, .null, .null, .int 0, .int 0, .int 0])), (q1, .inl (cs.1, 32, .inl (fun _ => 0))), (q2, .inl (cs.1, 480, .inl (fun _ => 0)))] H := hP
  have hD : va_D A [(h0, .inr (1, [.ref q1, .ref q2, .null, .null, .null, .null, .int 0, .int 0, .int 0])), (q1, .inl (cs.1, 32, .inl (fun _ => 0))), (q2, .inl (cs.1, 480, .inl (fun _ => 0)))] := hD
  refine lv_aload_n hx hb (show decode cX1_init 21 = .ok (.aload_n 0, 1) by decide +kernel) rfl (lv_at hl 0 rfl) ?_
  refine lv_sipush (v := 480) hx hb (show decode cX1_init 22 = .ok (.sipush 480, 3) by decide +kernel) (by decide) ?_
  refine n_newi (N' := 480) hx hb (hts _ ar_int) hK hP hD hS hA (by decide) (by decide) (Nat.le_of_ble_eq_true rfl) (Nat.le_of_ble_eq_true rfl) (Nat.le_of_ble_eq_true rfl) (show decode cX1_init 25 = .ok (.newarray .int, 2) by decide +kernel) (fun q3 H hP hD hS => ?_)
  have hP : va_P D wcl [(h0, .inr (1, [.ref q1, .ref q2, .null, .null, .null, .null, .int 0, .int 0, .int 0])), (q1, .inl (cs.1, 32, .inl (fun _ => 0))), (q2, .inl (cs.1, 480, .inl (fun _ => 0))), (q3, .inl (cs.1, 480, .inl (fun _ => 0)))] H := hP
  have hD : va_D A [(h0, .inr (1, [.ref q1, .ref q2, .null, .null, .null, .null, .int 0, .int 0, .int 0])), (q1, .inl (cs.1, 32, .inl (fun _ => 0))), (q2, .inl (cs.1, 480, .inl (fun _ => 0))), (q3, .inl (cs.1, 480, .inl (fun _ => 0)))] := hD
  refine va_putF (D := D) (ci := 1) (v := .ref q3) (ty := (.array .int)) (C := RX1) (T := TX1) (N := 9) hx hb hts (wcl_in (ci := 1) rfl) tyX1 tyX1_ok nmX1 hown hK hP hD hS 0 rfl rfl 2 (by decide) (hts _ (gtb_in (List.mem_of_getElem? fl_1_18) rfl)) (fun _ h9 => h9) rfl hin rfl (by decide +kernel) rfl rfl (Nat.le_of_ble_eq_true rfl) (show decode cX1_init 27 = .ok (.putfield 18, 3) by decide +kernel) (fun H locs hP hD hS => ?_)
  have hP : va_P D wcl [(h0, .inr (1, [.ref q1, .ref q2, .ref q3, .null, .null, .null, .int 0, .int 0, .int 0])), (q1, .inl (cs.1, 32, .inl (fun _ => 0))), (q2, .inl (cs.1, 480, .inl (fun _ => 0))), (q3, .inl (cs.1, 480, .inl (fun _ => 0)))] H := hP
  have hD : va_D A [(h0, .inr (1, [.ref q1, .ref q2, .ref q3, .null, .null, .null, .int 0, .int 0, .int 0])), (q1, .inl (cs.1, 32, .inl (fun _ => 0))), (q2, .inl (cs.1, 480, .inl (fun _ => 0))), (q3, .inl (cs.1, 480, .inl (fun _ => 0)))] := hD
  refine lv_aload_n hx hb (show decode cX1_init 30 = .ok (.aload_n 0, 1) by decide +kernel) rfl (lv_at hl 0 rfl) ?_
  refine lv_sipush (v := 480) hx hb (show decode cX1_init 31 = .ok (.sipush 480, 3) by decide +kernel) (by decide) ?_
  refine n_newi (N' := 480) hx hb (hts _ ar_int) hK hP hD hS hA (by decide) (by decide) (Nat.le_of_ble_eq_true rfl) (Nat.le_of_ble_eq_true rfl) (Nat.le_of_ble_eq_true rfl) (show decode cX1_init 34 = .ok (.newarray .int, 2) by decide +kernel) (fun q4 H hP hD hS => ?_)
  have hP : va_P D wcl [(h0, .inr (1, [.ref q1, .ref q2, .ref q3, .null, .null, .null, .int 0, .int 0, .int 0])), (q1, .inl (cs.1, 32, .inl (fun _ => 0))), (q2, .inl (cs.1, 480, .inl (fun _ => 0))), (q3, .inl (cs.1, 480, .inl (fun _ => 0))), (q4, .inl (cs.1, 480, .inl (fun _ => 0)))] H := hP
  have hD : va_D A [(h0, .inr (1, [.ref q1, .ref q2, .ref q3, .null, .null, .null, .int 0, .int 0, .int 0])), (q1, .inl (cs.1, 32, .inl (fun _ => 0))), (q2, .inl (cs.1, 480, .inl (fun _ => 0))), (q3, .inl (cs.1, 480, .inl (fun _ => 0))), (q4, .inl (cs.1, 480, .inl (fun _ => 0)))] := hD
  refine va_putF (D := D) (ci := 1) (v := .ref q4) (ty := (.array .int)) (C := RX1) (T := TX1) (N := 9) hx hb hts (wcl_in (ci := 1) rfl) tyX1 tyX1_ok nmX1 hown hK hP hD hS 0 rfl rfl 3 (by decide) (hts _ (gtb_in (List.mem_of_getElem? fl_1_21) rfl)) (fun _ h9 => h9) rfl hin rfl (by decide +kernel) rfl rfl (Nat.le_of_ble_eq_true rfl) (show decode cX1_init 36 = .ok (.putfield 21, 3) by decide +kernel) (fun H locs hP hD hS => ?_)
  have hP : va_P D wcl [(h0, .inr (1, [.ref q1, .ref q2, .ref q3, .ref q4, .null, .null, .int 0, .int 0, .int 0])), (q1, .inl (cs.1, 32, .inl (fun _ => 0))), (q2, .inl (cs.1, 480, .inl (fun _ => 0))), (q3, .inl (cs.1, 480, .inl (fun _ => 0))), (q4, .inl (cs.1, 480, .inl (fun _ => 0)))] H := hP
  have hD : va_D A [(h0, .inr (1, [.ref q1, .ref q2, .ref q3, .ref q4, .null, .null, .int 0, .int 0, .int 0])), (q1, .inl (cs.1, 32, .inl (fun _ => 0))), (q2, .inl (cs.1, 480, .inl (fun _ => 0))), (q3, .inl (cs.1, 480, .inl (fun _ => 0))), (q4, .inl (cs.1, 480, .inl (fun _ => 0)))] := hD
  refine lv_aload_n hx hb (show decode cX1_init 39 = .ok (.aload_n 0, 1) by decide +kernel) rfl (lv_at hl 0 rfl) ?_
  refine lv_sipush (v := 480) hx hb (show decode cX1_init 40 = .ok (.sipush 480, 3) by decide +kernel) (by decide) ?_
  refine n_newz (N' := 480) hx hb (hts _ ar_boolean) hK hP hD hS hA (by decide) (by decide) (Nat.le_of_ble_eq_true rfl) (Nat.le_of_ble_eq_true rfl) (Nat.le_of_ble_eq_true rfl) (show decode cX1_init 43 = .ok (.newarray .boolean, 2) by decide +kernel) (fun q5 H hP hD hS => ?_)
  have hP : va_P D wcl [(h0, .inr (1, [.ref q1, .ref q2, .ref q3, .ref q4, .null, .null, .int 0, .int 0, .int 0])), (q1, .inl (cs.1, 32, .inl (fun _ => 0))), (q2, .inl (cs.1, 480, .inl (fun _ => 0))), (q3, .inl (cs.1, 480, .inl (fun _ => 0))), (q4, .inl (cs.1, 480, .inl (fun _ => 0))), (q5, .inl (cs.2.2, 480, .inl (fun _ => 0)))] H := hP
  have hD : va_D A [(h0, .inr (1, [.ref q1, .ref q2, .ref q3, .ref q4, .null, .null, .int 0, .int 0, .int 0])), (q1, .inl (cs.1, 32, .inl (fun _ => 0))), (q2, .inl (cs.1, 480, .inl (fun _ => 0))), (q3, .inl (cs.1, 480, .inl (fun _ => 0))), (q4, .inl (cs.1, 480, .inl (fun _ => 0))), (q5, .inl (cs.2.2, 480, .inl (fun _ => 0)))] := hD
  refine va_putF (D := D) (ci := 1) (v := .ref q5) (ty := (.array .boolean)) (C := RX1) (T := TX1) (N := 9) hx hb hts (wcl_in (ci := 1) rfl) tyX1 tyX1_ok nmX1 hown hK hP hD hS 0 rfl rfl 4 (by decide) (hts _ (gtb_in (List.mem_of_getElem? fl_1_24) rfl)) (fun _ h9 => h9) rfl hin rfl (by decide +kernel) rfl rfl (Nat.le_of_ble_eq_true rfl) (show decode cX1_init 45 = .ok (.putfield 24, 3) by decide +kernel) (fun H locs hP hD hS => ?_)
  have hP : va_P D wcl [(h0, .inr (1, [.ref q1, .ref q2, .ref q3, .ref q4, .ref q5, .null, .int 0, .int 0, .int 0])), (q1, .inl (cs.1, 32, .inl (fun _ => 0))), (q2, .inl (cs.1, 480, .inl (fun _ => 0))), (q3, .inl (cs.1, 480, .inl (fun _ => 0))), (q4, .inl (cs.1, 480, .inl (fun _ => 0))), (q5, .inl (cs.2.2, 480, .inl (fun _ => 0)))] H := hP
  have hD : va_D A [(h0, .inr (1, [.ref q1, .ref q2, .ref q3, .ref q4, .ref q5, .null, .int 0, .int 0, .int 0])), (q1, .inl (cs.1, 32, .inl (fun _ => 0))), (q2, .inl (cs.1, 480, .inl (fun _ => 0))), (q3, .inl (cs.1, 480, .inl (fun _ => 0))), (q4, .inl (cs.1, 480, .inl (fun _ => 0))), (q5, .inl (cs.2.2, 480, .inl (fun _ => 0)))] := hD
  refine lv_aload_n hx hb (show decode cX1_init 48 = .ok (.aload_n 0, 1) by decide +kernel) rfl (lv_at hl 0 rfl) ?_
  refine lv_bipush (v := 8) hx hb (show decode cX1_init 49 = .ok (.bipush 8, 2) by decide +kernel) (by decide) ?_
  refine n_newi (N' := 8) hx hb (hts _ ar_int) hK hP hD hS hA (by decide) (by decide) (Nat.le_of_ble_eq_true rfl) (Nat.le_of_ble_eq_true rfl) (Nat.le_of_ble_eq_true rfl) (show decode cX1_init 51 = .ok (.newarray .int, 2) by decide +kernel) (fun q6 H hP hD hS => ?_)
  have hP : va_P D wcl [(h0, .inr (1, [.ref q1, .ref q2, .ref q3, .ref q4, .ref q5, .null, .int 0, .int 0, .int 0])), (q1, .inl (cs.1, 32, .inl (fun _ => 0))), (q2, .inl (cs.1, 480, .inl (fun _ => 0))), (q3, .inl (cs.1, 480, .inl (fun _ => 0))), (q4, .inl (cs.1, 480, .inl (fun _ => 0))), (q5, .inl (cs.2.2, 480, .inl (fun _ => 0))), (q6, .inl (cs.1, 8, .inl (fun _ => 0)))] H := hP
  have hD : va_D A [(h0, .inr (1, [.ref q1, .ref q2, .ref q3, .ref q4, .ref q5, .null, .int 0, .int 0, .int 0])), (q1, .inl (cs.1, 32, .inl (fun _ => 0))), (q2, .inl (cs.1, 480, .inl (fun _ => 0))), (q3, .inl (cs.1, 480, .inl (fun _ => 0))), (q4, .inl (cs.1, 480, .inl (fun _ => 0))), (q5, .inl (cs.2.2, 480, .inl (fun _ => 0))), (q6, .inl (cs.1, 8, .inl (fun _ => 0)))] := hD
  refine va_putF (D := D) (ci := 1) (v := .ref q6) (ty := (.array .int)) (C := RX1) (T := TX1) (N := 9) hx hb hts (wcl_in (ci := 1) rfl) tyX1 tyX1_ok nmX1 hown hK hP hD hS 0 rfl rfl 5 (by decide) (hts _ (gtb_in (List.mem_of_getElem? fl_1_28) rfl)) (fun _ h9 => h9) rfl hin rfl (by decide +kernel) rfl rfl (Nat.le_of_ble_eq_true rfl) (show decode cX1_init 53 = .ok (.putfield 28, 3) by decide +kernel) (fun H locs hP hD hS => ?_)
  have hP : va_P D wcl [(h0, .inr (1, [.ref q1, .ref q2, .ref q3, .ref q4, .ref q5, .ref q6, .int 0, .int 0, .int 0])), (q1, .inl (cs.1, 32, .inl (fun _ => 0))), (q2, .inl (cs.1, 480, .inl (fun _ => 0))), (q3, .inl (cs.1, 480, .inl (fun _ => 0))), (q4, .inl (cs.1, 480, .inl (fun _ => 0))), (q5, .inl (cs.2.2, 480, .inl (fun _ => 0))), (q6, .inl (cs.1, 8, .inl (fun _ => 0)))] H := hP
  have hD : va_D A [(h0, .inr (1, [.ref q1, .ref q2, .ref q3, .ref q4, .ref q5, .ref q6, .int 0, .int 0, .int 0])), (q1, .inl (cs.1, 32, .inl (fun _ => 0))), (q2, .inl (cs.1, 480, .inl (fun _ => 0))), (q3, .inl (cs.1, 480, .inl (fun _ => 0))), (q4, .inl (cs.1, 480, .inl (fun _ => 0))), (q5, .inl (cs.2.2, 480, .inl (fun _ => 0))), (q6, .inl (cs.1, 8, .inl (fun _ => 0)))] := hD
  refine W.widen (k := 6) (n := 1960) (by omega) (by omega) ?_
  exact W.vret hx hb hr (fun t ht hW => ⟨⟨(), rfl, trivial, q1, q2, q3, q4, q5, q6, by rw [ht]; exact hP, hD⟩, hS.F ht⟩) hS.2.2 (show decode cX1_init 56 = .ok (.return_, 1) by decide +kernel)

theorem dfl_0 : ∀ j, j < 9 → defaultValue (tyX0 j) = vp_V [.null, .null, .int 0, .null, .int 0, .null, .int 0, .int 0, .int 0] j := by
  intro j hj
  rcases (show j = 0 ∨ j = 1 ∨ j = 2 ∨ j = 3 ∨ j = 4 ∨ j = 5 ∨ j = 6 ∨ j = 7 ∨ j = 8 by omega) with rfl | rfl | rfl | rfl | rfl | rfl | rfl | rfl | rfl <;> rfl
set_option maxHeartbeats 4000000 in
set_option maxRecDepth 100000 in
theorem n_0 (l : Launch) (D : va_G) (cs : CS) (h0 : Nat) (sz : Nat) : Met l yX0_init (wsM m0_init) (rmC 2 8 161) (va_Pc [.ref h0] (CP D cs [(h0, .inr (0, [.null, .null, .int 0, .null, .int 0, .null, .int 0, .int 0, .int 0]))] sz)) (va_Qv (fun (_ : Unit) => True) (fun _ t => ∃ q1 q2 q3 q4 q5 q6 q7 q8 : Nat, va_P D wcl [(h0, .inr (0, [.ref q1, .ref q2, .int 0, .ref q3, .int 0, .ref q4, .int 0, .int 0, .int 0])), (q1, .inl (cs.1, 5, .inl (fun _ => 0))), (q2, .inl (cs.1, 5, .inl (fun _ => 0))), (q3, .inl (cs.1, 5, .inl (fun _ => 0))), (q4, .inr (3, [.ref q5, .ref q6, .ref q7, .ref q8, .int 0, .int 0])), (q5, .inl (cs.1, 64, .inl (fun _ => 0))), (q6, .inl (cs.1, 6, .inl (fun _ => 0))), (q7, .inl (cs.1, 6, .inl (fun _ => 0))), (q8, .inl (cs.2.1, 64, .inr (.inl (fun _ => 0))))] t.heap ∧ va_D (va_A [(h0, .inr (0, [.null, .null, .int 0, .null, .int 0, .null, .int 0, .int 0, .int 0]))] sz) [(h0, .inr (0, [.ref q1, .ref q2, .int 0, .ref q3, .int 0, .ref q4, .int 0, .int 0, .int 0])), (q1, .inl (cs.1, 5, .inl (fun _ => 0))), (q2, .inl (cs.1, 5, .inl (fun _ => 0))), (q3, .inl (cs.1, 5, .inl (fun _ => 0))), (q4, .inr (3, [.ref q5, .ref q6, .ref q7, .ref q8, .int 0, .int 0])), (q5, .inl (cs.1, 64, .inl (fun _ => 0))), (q6, .inl (cs.1, 6, .inl (fun _ => 0))), (q7, .inl (cs.1, 6, .inl (fun _ => 0))), (q8, .inl (cs.2.1, 64, .inr (.inl (fun _ => 0))))]) (va_A [(h0, .inr (0, [.null, .null, .int 0, .null, .int 0, .null, .int 0, .int 0, .int 0]))] sz)) 8 161 (va_A [(h0, .inr (0, [.null, .null, .int 0, .null, .int 0, .null, .int 0, .int 0, .int 0]))] sz) := by
  refine Met.ofW (cc := cX0_init) (maxL := 1) (ret := none) (by decide) rfl ?_
  intro p e s m args below meth c s₁ B hml hv
  obtain ⟨rfl, hsz, hP, hK, hD0, hN⟩ := hv
  have hx := B.exec
  have hb := B.bytes
  have hr := B.returns
  have hts : ∀ w ∈ gtb, w.before ([.ref h0] : List Value).toArray s = true := fun w hw => atoms_spec (ws := wsM m0_init) B.pre w (List.mem_cons_of_mem _ hw)
  have hown : s.vm.findClass RX0 = some m.cls := findClass_of_methodNamed B.named
  have hlocks := B.notSynchronized
  have hin : meth.name = "<init>" := (name_of_methodNamed B.named B.method).1
  subst hsz
  have hD := hD0.self (sz := s.heap.size)
  generalize hAe : va_A [(h0, .inr (0, [.null, .null, .int 0, .null, .int 0, .null, .int 0, .int 0, .int 0]))] s.heap.size = A at hD ⊢
  have hA : ∀ q : Nat, s.heap.size ≤ q → A q := fun q h => by rw [← hAe]; exact Or.inr h
  have hS : va_S A s.heap s.heap [] := va_S.rf
  have hl := lv_entry ([.ref h0]) (n := 1) (Nat.le_of_ble_eq_true rfl)
  rw [lg_entry_eq]
  generalize (lg_sl ([.ref h0]) ++ List.replicate (1 - (lg_sl ([.ref h0])).length) Slot.unset).toArray = ls at hl ⊢
  have hl : lv_has ls 1 [(0, .ref h0)] := hl
  refine lv_aload_n hx hb (show decode cX0_init 0 = .ok (.aload_n 0, 1) by decide +kernel) rfl (lv_at hl 0 rfl) ?_
  refine W.objInit hx hb hown (hts (.methodLink RX0 3 Lib.objectInit) (gtb_in (tb_1 (List.mem_of_getElem? (i := 44) (by decide +kernel))) rfl)) (hts _ oI_in) (hts _ oI_code) rfl (by rw [hml]; exact hl.1) rfl (show decode cX0_init 1 = .ok (.invokespecial 3, 3) by decide +kernel) (Nat.le_of_ble_eq_true rfl) (Nat.le_of_ble_eq_true rfl) ?_
  refine W.eq (g2 := F0 m 4 ls []) rfl ?_
  refine lv_aload_n hx hb (show decode cX0_init 4 = .ok (.aload_n 0, 1) by decide +kernel) rfl (lv_at hl 0 rfl) ?_
  refine lv_iconst (v := 5) hx hb (show decode cX0_init 5 = .ok (.iconst 5, 1) by decide +kernel) (by decide) ?_
  refine n_newi (N' := 5) hx hb (hts _ ar_int) hK hP hD hS hA (by decide) (by decide) (Nat.le_of_ble_eq_true rfl) (Nat.le_of_ble_eq_true rfl) (Nat.le_of_ble_eq_true rfl) (show decode cX0_init 6 = .ok (.newarray .int, 2) by decide +kernel) (fun q1 H hP hD hS => ?_)
  have hP : va_P D wcl [(h0, .inr (0, [.null, .null, .int 0, .null, .int 0, .null, .int 0, .int 0, .int 0])), (q1, .inl (cs.1, 5, .inl (fun _ => 0)))] H := hP
  have hD : va_D A [(h0, .inr (0, [.null, .null, .int 0, .null, .int 0, .null, .int 0, .int 0, .int 0])), (q1, .inl (cs.1, 5, .inl (fun _ => 0)))] := hD
  refine va_putF (D := D) (ci := 0) (v := .ref q1) (ty := (.array .int)) (C := RX0) (T := TX0) (N := 9) hx hb hts (wcl_in (ci := 0) rfl) tyX0 tyX0_ok nmX0 hown hK hP hD hS 0 rfl rfl 0 (by decide) (hts _ (gtb_in (List.mem_of_getElem? fl_0_9) rfl)) (fun _ h9 => h9) rfl hin rfl (by decide +kernel) rfl rfl (Nat.le_of_ble_eq_true rfl) (show decode cX0_init 8 = .ok (.putfield 9, 3) by decide +kernel) (fun H locs hP hD hS => ?_)
  have hP : va_P D wcl [(h0, .inr (0, [.ref q1, .null, .int 0, .null, .int 0, .null, .int 0, .int 0, .int 0])), (q1, .inl (cs.1, 5, .inl (fun _ => 0)))] H := hP
  have hD : va_D A [(h0, .inr (0, [.ref q1, .null, .int 0, .null, .int 0, .null, .int 0, .int 0, .int 0])), (q1, .inl (cs.1, 5, .inl (fun _ => 0)))] := hD
  refine lv_aload_n hx hb (show decode cX0_init 11 = .ok (.aload_n 0, 1) by decide +kernel) rfl (lv_at hl 0 rfl) ?_
  refine lv_iconst (v := 5) hx hb (show decode cX0_init 12 = .ok (.iconst 5, 1) by decide +kernel) (by decide) ?_
  refine n_newi (N' := 5) hx hb (hts _ ar_int) hK hP hD hS hA (by decide) (by decide) (Nat.le_of_ble_eq_true rfl) (Nat.le_of_ble_eq_true rfl) (Nat.le_of_ble_eq_true rfl) (show decode cX0_init 13 = .ok (.newarray .int, 2) by decide +kernel) (fun q2 H hP hD hS => ?_)
  have hP : va_P D wcl [(h0, .inr (0, [.ref q1, .null, .int 0, .null, .int 0, .null, .int 0, .int 0, .int 0])), (q1, .inl (cs.1, 5, .inl (fun _ => 0))), (q2, .inl (cs.1, 5, .inl (fun _ => 0)))] H := hP
  have hD : va_D A [(h0, .inr (0, [.ref q1, .null, .int 0, .null, .int 0, .null, .int 0, .int 0, .int 0])), (q1, .inl (cs.1, 5, .inl (fun _ => 0))), (q2, .inl (cs.1, 5, .inl (fun _ => 0)))] := hD
  refine va_putF (D := D) (ci := 0) (v := .ref q2) (ty := (.array .int)) (C := RX0) (T := TX0) (N := 9) hx hb hts (wcl_in (ci := 0) rfl) tyX0 tyX0_ok nmX0 hown hK hP hD hS 0 rfl rfl 1 (by decide) (hts _ (gtb_in (List.mem_of_getElem? fl_0_15) rfl)) (fun _ h9 => h9) rfl hin rfl (by decide +kernel) rfl rfl (Nat.le_of_ble_eq_true rfl) (show decode cX0_init 15 = .ok (.putfield 15, 3) by decide +kernel) (fun H locs hP hD hS => ?_)
  have hP : va_P D wcl [(h0, .inr (0, [.ref q1, .ref q2, .int 0, .null, .int 0, .null, .int 0, .int 0, .int 0])), (q1, .inl (cs.1, 5, .inl (fun _ => 0))), (q2, .inl (cs.1, 5, .inl (fun _ => 0)))] H := hP
  have hD : va_D A [(h0, .inr (0, [.ref q1, .ref q2, .int 0, .null, .int 0, .null, .int 0, .int 0, .int 0])), (q1, .inl (cs.1, 5, .inl (fun _ => 0))), (q2, .inl (cs.1, 5, .inl (fun _ => 0)))] := hD
  refine lv_aload_n hx hb (show decode cX0_init 18 = .ok (.aload_n 0, 1) by decide +kernel) rfl (lv_at hl 0 rfl) ?_
  refine lv_iconst (v := 5) hx hb (show decode cX0_init 19 = .ok (.iconst 5, 1) by decide +kernel) (by decide) ?_
  refine n_newi (N' := 5) hx hb (hts _ ar_int) hK hP hD hS hA (by decide) (by decide) (Nat.le_of_ble_eq_true rfl) (Nat.le_of_ble_eq_true rfl) (Nat.le_of_ble_eq_true rfl) (show decode cX0_init 20 = .ok (.newarray .int, 2) by decide +kernel) (fun q3 H hP hD hS => ?_)
  have hP : va_P D wcl [(h0, .inr (0, [.ref q1, .ref q2, .int 0, .null, .int 0, .null, .int 0, .int 0, .int 0])), (q1, .inl (cs.1, 5, .inl (fun _ => 0))), (q2, .inl (cs.1, 5, .inl (fun _ => 0))), (q3, .inl (cs.1, 5, .inl (fun _ => 0)))] H := hP
  have hD : va_D A [(h0, .inr (0, [.ref q1, .ref q2, .int 0, .null, .int 0, .null, .int 0, .int 0, .int 0])), (q1, .inl (cs.1, 5, .inl (fun _ => 0))), (q2, .inl (cs.1, 5, .inl (fun _ => 0))), (q3, .inl (cs.1, 5, .inl (fun _ => 0)))] := hD
  refine va_putF (D := D) (ci := 0) (v := .ref q3) (ty := (.array .int)) (C := RX0) (T := TX0) (N := 9) hx hb hts (wcl_in (ci := 0) rfl) tyX0 tyX0_ok nmX0 hown hK hP hD hS 0 rfl rfl 3 (by decide) (hts _ (gtb_in (List.mem_of_getElem? fl_0_18) rfl)) (fun _ h9 => h9) rfl hin rfl (by decide +kernel) rfl rfl (Nat.le_of_ble_eq_true rfl) (show decode cX0_init 22 = .ok (.putfield 18, 3) by decide +kernel) (fun H locs hP hD hS => ?_)
  have hP : va_P D wcl [(h0, .inr (0, [.ref q1, .ref q2, .int 0, .ref q3, .int 0, .null, .int 0, .int 0, .int 0])), (q1, .inl (cs.1, 5, .inl (fun _ => 0))), (q2, .inl (cs.1, 5, .inl (fun _ => 0))), (q3, .inl (cs.1, 5, .inl (fun _ => 0)))] H := hP
  have hD : va_D A [(h0, .inr (0, [.ref q1, .ref q2, .int 0, .ref q3, .int 0, .null, .int 0, .int 0, .int 0])), (q1, .inl (cs.1, 5, .inl (fun _ => 0))), (q2, .inl (cs.1, 5, .inl (fun _ => 0))), (q3, .inl (cs.1, 5, .inl (fun _ => 0)))] := hD
  refine lv_aload_n hx hb (show decode cX0_init 25 = .ok (.aload_n 0, 1) by decide +kernel) rfl (lv_at hl 0 rfl) ?_
  refine va_new (ci := 3) (fs := [.null, .null, .null, .null, .int 0, .int 0]) (C := RX3) (T := TX3) (N := 6) hx hb hts (wcl_in (ci := 3) rfl) tyX3 tyX3_ok hown (hts (.classLink RX0 21 RX3) (gtb_in (tb_1 (List.mem_of_getElem? (i := 45) (by decide +kernel))) rfl)) (hts (.instantiable RX3 6) (gtb_in (tb_1 (List.mem_of_getElem? (i := 46) (by decide +kernel))) rfl)) (hts (.initialized RX3) (gtb_in (tb_1 (List.mem_of_getElem? (i := 4) (by decide +kernel))) rfl)) hK hP hD hS hA rfl dfl_3 (Nat.le_of_ble_eq_true rfl) (Nat.le_of_ble_eq_true rfl) (show decode cX0_init 26 = .ok (.new 21, 3) by decide +kernel) (fun q4 H hP hD hS => ?_)
  have hP : va_P D wcl [(h0, .inr (0, [.ref q1, .ref q2, .int 0, .ref q3, .int 0, .null, .int 0, .int 0, .int 0])), (q1, .inl (cs.1, 5, .inl (fun _ => 0))), (q2, .inl (cs.1, 5, .inl (fun _ => 0))), (q3, .inl (cs.1, 5, .inl (fun _ => 0))), (q4, .inr (3, [.null, .null, .null, .null, .int 0, .int 0]))] H := hP
  have hD : va_D A [(h0, .inr (0, [.ref q1, .ref q2, .int 0, .ref q3, .int 0, .null, .int 0, .int 0, .int 0])), (q1, .inl (cs.1, 5, .inl (fun _ => 0))), (q2, .inl (cs.1, 5, .inl (fun _ => 0))), (q3, .inl (cs.1, 5, .inl (fun _ => 0))), (q4, .inr (3, [.null, .null, .null, .null, .int 0, .int 0]))] := hD
  refine lv_dup hx hb (show decode cX0_init 29 = .ok (.dup, 1) by decide +kernel) rfl ?_
  have hPc := hP.sub (ws' := [(q4, .inr (3, [.null, .null, .null, .null, .int 0, .int 0]))]) [4] rfl
  have hDc := hD.sub (ws' := [(q4, .inr (3, [.null, .null, .null, .null, .int 0, .int 0]))]) [4] (by decide) rfl
  have hFc := va_free (wc := [(q4, .inr (3, [.null, .null, .null, .null, .int 0, .int 0]))]) hD hS hA [4] rfl
  refine va_callv (va_runIN (As := []) (rest := [.ref q4, .ref h0]) ⟨hx, hb, hml, hown, hts⟩ (n_3 l D cs q4  H.size) ⟨(va_cnB (ws' := gtb) 0 hts (wsM_in cv_m3_init) rfl rfl rfl (hN _ lk_0_23) (hts _ cv_m3_init.2.1) ⟨cv_m3_init.2.2.1.1, cv_m3_init.2.2.1.2, cv_m3_init.2.2.2.1⟩ ⟨Nat.le_of_ble_eq_true rfl, Nat.le_of_ble_eq_true rfl⟩), rfl, hts _ in_m3_init⟩ ⟨CP_FB, fun U hU hW => ⟨rfl, by rw [hU], by rw [hU]; exact hPc, va_K.moved hW.alike hK, hDc.weaken (fun _ _ _ _ => trivial), nst_warm hW hN⟩⟩ rfl rfl hl.1 rfl (lv_room (Nat.le_of_ble_eq_true rfl)) (show decode cX0_init 30 = .ok (.invokespecial 23, 3) by decide +kernel) ⟨Nat.le_of_ble_eq_true rfl, Nat.le_of_ble_eq_true rfl⟩) hS (fun q _ z => hFc q z) hFc (fun u t H1 locs ht hvm hw hB hz1 hk1 hS => ?_)
  obtain ⟨q5, q6, q7, q8, hP1, hD1⟩ := hB
  rw [ht] at hP1
  obtain ⟨hP, hD⟩ := va_join (wr := [(h0, .inr (0, [.ref q1, .ref q2, .int 0, .ref q3, .int 0, .null, .int 0, .int 0, .int 0])), (q1, .inl (cs.1, 5, .inl (fun _ => 0))), (q2, .inl (cs.1, 5, .inl (fun _ => 0))), (q3, .inl (cs.1, 5, .inl (fun _ => 0)))]) (w1 := [(q4, .inr (3, [.ref q5, .ref q6, .ref q7, .ref q8, .int 0, .int 0])), (q5, .inl (cs.1, 64, .inl (fun _ => 0))), (q6, .inl (cs.1, 6, .inl (fun _ => 0))), (q7, .inl (cs.1, 6, .inl (fun _ => 0))), (q8, .inl (cs.2.1, 64, .inr (.inl (fun _ => 0))))]) hP hD [4] [0, 1, 2, 3] rfl rfl (by decide) (by decide) hk1 hFc hP1 hD1
  generalize H1 = H at hP hS ⊢
  have hP : va_P D wcl [(h0, .inr (0, [.ref q1, .ref q2, .int 0, .ref q3, .int 0, .null, .int 0, .int 0, .int 0])), (q1, .inl (cs.1, 5, .inl (fun _ => 0))), (q2, .inl (cs.1, 5, .inl (fun _ => 0))), (q3, .inl (cs.1, 5, .inl (fun _ => 0))), (q4, .inr (3, [.ref q5, .ref q6, .ref q7, .ref q8, .int 0, .int 0])), (q5, .inl (cs.1, 64, .inl (fun _ => 0))), (q6, .inl (cs.1, 6, .inl (fun _ => 0))), (q7, .inl (cs.1, 6, .inl (fun _ => 0))), (q8, .inl (cs.2.1, 64, .inr (.inl (fun _ => 0))))] H := hP
  have hD : va_D A [(h0, .inr (0, [.ref q1, .ref q2, .int 0, .ref q3, .int 0, .null, .int 0, .int 0, .int 0])), (q1, .inl (cs.1, 5, .inl (fun _ => 0))), (q2, .inl (cs.1, 5, .inl (fun _ => 0))), (q3, .inl (cs.1, 5, .inl (fun _ => 0))), (q4, .inr (3, [.ref q5, .ref q6, .ref q7, .ref q8, .int 0, .int 0])), (q5, .inl (cs.1, 64, .inl (fun _ => 0))), (q6, .inl (cs.1, 6, .inl (fun _ => 0))), (q7, .inl (cs.1, 6, .inl (fun _ => 0))), (q8, .inl (cs.2.1, 64, .inr (.inl (fun _ => 0))))] := hD
  refine va_putF (D := D) (ci := 0) (v := .ref q4) (ty := (.object "CourtTongue$Formulas")) (C := RX0) (T := TX0) (N := 9) hx hb hts (wcl_in (ci := 0) rfl) tyX0 tyX0_ok nmX0 hown hK hP hD hS 0 rfl rfl 5 (by decide) (hts _ (gtb_in (List.mem_of_getElem? fl_0_24) rfl)) (fun _ h9 => h9) rfl hin rfl (by decide +kernel) rfl rfl (Nat.le_of_ble_eq_true rfl) (show decode cX0_init 33 = .ok (.putfield 24, 3) by decide +kernel) (fun H locs hP hD hS => ?_)
  have hP : va_P D wcl [(h0, .inr (0, [.ref q1, .ref q2, .int 0, .ref q3, .int 0, .ref q4, .int 0, .int 0, .int 0])), (q1, .inl (cs.1, 5, .inl (fun _ => 0))), (q2, .inl (cs.1, 5, .inl (fun _ => 0))), (q3, .inl (cs.1, 5, .inl (fun _ => 0))), (q4, .inr (3, [.ref q5, .ref q6, .ref q7, .ref q8, .int 0, .int 0])), (q5, .inl (cs.1, 64, .inl (fun _ => 0))), (q6, .inl (cs.1, 6, .inl (fun _ => 0))), (q7, .inl (cs.1, 6, .inl (fun _ => 0))), (q8, .inl (cs.2.1, 64, .inr (.inl (fun _ => 0))))] H := hP
  have hD : va_D A [(h0, .inr (0, [.ref q1, .ref q2, .int 0, .ref q3, .int 0, .ref q4, .int 0, .int 0, .int 0])), (q1, .inl (cs.1, 5, .inl (fun _ => 0))), (q2, .inl (cs.1, 5, .inl (fun _ => 0))), (q3, .inl (cs.1, 5, .inl (fun _ => 0))), (q4, .inr (3, [.ref q5, .ref q6, .ref q7, .ref q8, .int 0, .int 0])), (q5, .inl (cs.1, 64, .inl (fun _ => 0))), (q6, .inl (cs.1, 6, .inl (fun _ => 0))), (q7, .inl (cs.1, 6, .inl (fun _ => 0))), (q8, .inl (cs.2.1, 64, .inr (.inl (fun _ => 0))))] := hD
  refine W.widen (k := 8) (n := 161) (by omega) (by omega) ?_
  exact W.vret hx hb hr (fun t ht hW => ⟨⟨(), rfl, trivial, q1, q2, q3, q4, q5, q6, q7, q8, by rw [ht]; exact hP, hD⟩, hS.F ht⟩) hS.2.2 (show decode cX0_init 36 = .ok (.return_, 1) by decide +kernel)

