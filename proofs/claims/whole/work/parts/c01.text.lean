/-! texts: the JDK methods that they ask for (names made by wip/whole/gtext.py) -/
def yS_coder : MethodName := ⟨"java/lang/String", "coder", "()B"⟩
abbrev mS_coder : MT := (yS_coder, prog_22_method_152_code, 1, some .byte)
set_option maxRecDepth 100000 in
theorem cv_mS_coder : CV mS_coder 0 := ⟨gtb_in (tb_1 (List.mem_of_getElem? (i := 170) (by rfl))) rfl, gtb_in (tb_1 (List.mem_of_getElem? (i := 7) (by decide +kernel))) rfl, ⟨by decide +kernel, by decide +kernel⟩, by decide +kernel, by decide +kernel⟩
theorem in_mS_coder : Cond.instanceMethod yS_coder ∈ gtb := gtb_in (tb_1 (List.mem_of_getElem? (i := 168) (by decide +kernel))) rfl
theorem se_mS_coder : Cond.selects "java/lang/String" yS_coder yS_coder ∈ gtb := gtb_in (tb_1 (List.mem_of_getElem? (i := 169) (by decide +kernel))) rfl
theorem lk_S_335 : Cond.methodLink "java/lang/String" 335 yS_coder ∈ gtb := gtb_in (tb_1 (List.mem_of_getElem? (i := 167) (by decide +kernel))) rfl
def yS_isLatin1 : MethodName := ⟨"java/lang/String", "isLatin1", "()Z"⟩
abbrev mS_isLatin1 : MT := (yS_isLatin1, prog_22_method_154_code, 1, some .boolean)
set_option maxRecDepth 100000 in
theorem cv_mS_isLatin1 : CV mS_isLatin1 0 := ⟨gtb_in (tb_1 (List.mem_of_getElem? (i := 180) (by rfl))) rfl, gtb_in (tb_1 (List.mem_of_getElem? (i := 7) (by decide +kernel))) rfl, ⟨by decide +kernel, by decide +kernel⟩, by decide +kernel, by decide +kernel⟩
theorem in_mS_isLatin1 : Cond.instanceMethod yS_isLatin1 ∈ gtb := gtb_in (tb_1 (List.mem_of_getElem? (i := 178) (by decide +kernel))) rfl
theorem se_mS_isLatin1 : Cond.selects "java/lang/String" yS_isLatin1 yS_isLatin1 ∈ gtb := gtb_in (tb_1 (List.mem_of_getElem? (i := 179) (by decide +kernel))) rfl
theorem lk_S_492 : Cond.methodLink "java/lang/String" 492 yS_isLatin1 ∈ gtb := gtb_in (tb_1 (List.mem_of_getElem? (i := 177) (by decide +kernel))) rfl
def yS_length : MethodName := ⟨"java/lang/String", "length", "()I"⟩
abbrev mS_length : MT := (yS_length, prog_22_method_54_code, 1, some .int)
set_option maxRecDepth 100000 in
theorem cv_mS_length : CV mS_length 0 := ⟨gtb_in (tb_1 (List.mem_of_getElem? (i := 166) (by rfl))) rfl, gtb_in (tb_1 (List.mem_of_getElem? (i := 7) (by decide +kernel))) rfl, ⟨by decide +kernel, by decide +kernel⟩, by decide +kernel, by decide +kernel⟩
theorem in_mS_length : Cond.instanceMethod yS_length ∈ gtb := gtb_in (tb_1 (List.mem_of_getElem? (i := 164) (by decide +kernel))) rfl
theorem se_mS_length : Cond.selects "java/lang/String" yS_length yS_length ∈ gtb := gtb_in (tb_1 (List.mem_of_getElem? (i := 165) (by decide +kernel))) rfl
theorem lk_7_56 : Cond.methodLink RX7 56 yS_length ∈ gtb := gtb_in (tb_1 (List.mem_of_getElem? (i := 163) (by decide +kernel))) rfl
theorem lk_11_162 : Cond.methodLink RX11 162 yS_length ∈ gtb := gtb_in (tb_7 (List.mem_of_getElem? (i := 11) (by decide +kernel))) rfl
def yS_pcheck : MethodName := ⟨"jdk/internal/util/Preconditions", "checkIndex", "(IILjava/util/function/BiFunction;)I"⟩
abbrev mS_pcheck : MT := (yS_pcheck, prog_30_method_11_code, 3, some .int)
set_option maxRecDepth 100000 in
theorem cv_mS_pcheck : CV mS_pcheck 3 := ⟨gtb_in (tb_1 (List.mem_of_getElem? (i := 191) (by rfl))) rfl, gtb_in (tb_1 (List.mem_of_getElem? (i := 9) (by decide +kernel))) rfl, ⟨by decide +kernel, by decide +kernel⟩, by decide +kernel, by decide +kernel⟩
theorem st_mS_pcheck : Cond.static yS_pcheck ∈ gtb := gtb_in (tb_1 (List.mem_of_getElem? (i := 190) (by decide +kernel))) rfl
theorem lk_S_1059 : Cond.methodLink "java/lang/String" 1059 yS_pcheck ∈ gtb := gtb_in (tb_1 (List.mem_of_getElem? (i := 189) (by decide +kernel))) rfl
def yS_scheck : MethodName := ⟨"java/lang/String", "checkIndex", "(II)V"⟩
abbrev mS_scheck : MT := (yS_scheck, prog_22_method_155_code, 2, none)
set_option maxRecDepth 100000 in
theorem cv_mS_scheck : CV mS_scheck 2 := ⟨gtb_in (tb_1 (List.mem_of_getElem? (i := 186) (by rfl))) rfl, gtb_in (tb_1 (List.mem_of_getElem? (i := 7) (by decide +kernel))) rfl, ⟨by decide +kernel, by decide +kernel⟩, by decide +kernel, by decide +kernel⟩
theorem st_mS_scheck : Cond.static yS_scheck ∈ gtb := gtb_in (tb_1 (List.mem_of_getElem? (i := 185) (by decide +kernel))) rfl
theorem lk_SL_9 : Cond.methodLink "java/lang/StringLatin1" 9 yS_scheck ∈ gtb := gtb_in (tb_1 (List.mem_of_getElem? (i := 184) (by decide +kernel))) rfl
def yS_lchar : MethodName := ⟨"java/lang/StringLatin1", "charAt", "([BI)C"⟩
abbrev mS_lchar : MT := (yS_lchar, prog_23_method_2_code, 2, some .char)
set_option maxRecDepth 100000 in
theorem cv_mS_lchar : CV mS_lchar 2 := ⟨gtb_in (tb_1 (List.mem_of_getElem? (i := 183) (by rfl))) rfl, gtb_in (tb_1 (List.mem_of_getElem? (i := 8) (by decide +kernel))) rfl, ⟨by decide +kernel, by decide +kernel⟩, by decide +kernel, by decide +kernel⟩
theorem st_mS_lchar : Cond.static yS_lchar ∈ gtb := gtb_in (tb_1 (List.mem_of_getElem? (i := 182) (by decide +kernel))) rfl
theorem lk_S_495 : Cond.methodLink "java/lang/String" 495 yS_lchar ∈ gtb := gtb_in (tb_1 (List.mem_of_getElem? (i := 181) (by decide +kernel))) rfl
def yS_schar : MethodName := ⟨"java/lang/String", "charAt", "(I)C"⟩
abbrev mS_schar : MT := (yS_schar, prog_22_method_56_code, 2, some .char)
set_option maxRecDepth 100000 in
theorem cv_mS_schar : CV mS_schar 1 := ⟨gtb_in (tb_1 (List.mem_of_getElem? (i := 176) (by rfl))) rfl, gtb_in (tb_1 (List.mem_of_getElem? (i := 7) (by decide +kernel))) rfl, ⟨by decide +kernel, by decide +kernel⟩, by decide +kernel, by decide +kernel⟩
theorem in_mS_schar : Cond.instanceMethod yS_schar ∈ gtb := gtb_in (tb_1 (List.mem_of_getElem? (i := 174) (by decide +kernel))) rfl
theorem se_mS_schar : Cond.selects "java/lang/String" yS_schar yS_schar ∈ gtb := gtb_in (tb_1 (List.mem_of_getElem? (i := 175) (by decide +kernel))) rfl
theorem lk_7_62 : Cond.methodLink RX7 62 yS_schar ∈ gtb := gtb_in (tb_1 (List.mem_of_getElem? (i := 173) (by decide +kernel))) rfl
theorem lk_11_167 : Cond.methodLink RX11 167 yS_schar ∈ gtb := gtb_in (tb_7 (List.mem_of_getElem? (i := 12) (by decide +kernel))) rfl
theorem fl_S_38 : Cond.fieldLink "java/lang/String" 38 "java/lang/String" "COMPACT_STRINGS" "Z" ∈ gtb := gtb_in (tb_1 (List.mem_of_getElem? (i := 171) (by decide +kernel))) rfl
theorem fl_S_1053 : Cond.fieldLink "java/lang/String" 1053 "jdk/internal/util/Preconditions" "SIOOBE_FORMATTER" "Ljava/util/function/BiFunction;" ∈ gtb := gtb_in (tb_1 (List.mem_of_getElem? (i := 187) (by decide +kernel))) rfl
theorem fl_S_9 : Cond.fieldLink "java/lang/String" 9 "java/lang/String" "value" "[B" ∈ gtb := gtb_in (tb_8 (List.mem_of_getElem? (i := 196) (by decide +kernel))) rfl
theorem fl_S_15 : Cond.fieldLink "java/lang/String" 15 "java/lang/String" "coder" "B" ∈ gtb := gtb_in (tb_8 (List.mem_of_getElem? (i := 197) (by decide +kernel))) rfl
/-- a text's world: the two texts, and what the JDK's statics say -/
def TX (adK adV : Nat → Nat) (A : Nat → Prop) (U : State) (H : Heap) : Prop := vk_S 2 [108, 92] txB adK adV A U H ∧ va_Z "java/lang/String" "COMPACT_STRINGS" "Z" (.int 1) A U H ∧ va_Zq "jdk/internal/util/Preconditions" "SIOOBE_FORMATTER" "Ljava/util/function/BiFunction;" A U H
theorem TX.mv {adK adV : Nat → Nat} {A : Nat → Prop} {u U : State} {H : Heap} (h : TX adK adV A u H) (hal : u.vm.Alike U.vm) : TX adK adV A U H := ⟨h.1.moved hal, h.2.1.moved hal, h.2.2.moved hal⟩
def rmJ (d : Nat) : Room := { frames := d, cells := 0, slots := 0, locals := 64 * d }
abbrev Ne (sz : Nat) : Nat → Prop := fun q => sz ≤ q
def PT (adK adV : Nat → Nat) (sz : Nat) (U : State) : Prop := U.heap.size = sz ∧ TX adK adV (Ne sz) U U.heap
theorem PT_FB {adK adV : Nat → Nat} {sz : Nat} {av : List Value} : FrameBlind (va_Pc av (PT adK adV sz)) := fun a U g mk h => ⟨h.1, h.2.1, TX.mv (u := U) (U := U.calling g mk a) h.2.2 (Vm.Alike.refl U.vm)⟩
abbrev QT (r : Int32) (sz : Nat) : Array Value → State → Outcome → State → Prop := va_Qi (fun (x : Int32) (_ : Unit) => x = r) (fun _ _ => True) (Ne sz)
abbrev QTv (sz : Nat) : Array Value → State → Outcome → State → Prop := va_Qv (fun (_ : Unit) => True) (fun _ _ => True) (Ne sz)
/-- length and letters of the two texts -/
def lS (i : Nat) : Nat := [108, 92].getD i 0
def chv (i k : Nat) : Int32 := ((((txB.getD i []).getD k 0) &&& 255).toUInt32 % 65536).toInt32
theorem lS_lt : ∀ i : Nat, lS i < 2 ^ 31
  | 0 => by decide
  | 1 => by decide
  | i + 2 => by show (0 : Nat) < 2 ^ 31; decide
theorem chv_nar : ∀ i, i < 2 → ∀ k, k < lS i → vp_nar .char (chv i k) = chv i k := by decide +kernel
theorem chv_nar2 {i k : Nat} (hi : i < 2) (hk : k < lS i) : narrow .char (.int (chv i k)) = .int (chv i k) := by
  have h := chv_nar i hi k hk
  have e : narrow .char (.int (chv i k)) = .int (vp_nar .char (chv i k)) := rfl
  rw [e, h]
theorem c_coder (l : Launch) {adK adV : Nat → Nat} {i : Nat} (hi : i < 2) (sz : Nat) : Met l yS_coder (wsM mS_coder) (rmJ 0) (va_Pc [.ref (adK i)] (PT adK adV sz)) (QT 0 sz) 0 0 (Ne sz) := by
  refine Met.ofW (cc := prog_22_method_152_code) (maxL := 1) (ret := (some .byte)) (by decide) rfl ?_
  intro p e s m args below meth c s₁ B hml hv
  obtain ⟨rfl, hsz, hT⟩ := hv
  have hx := B.exec
  have hb := B.bytes
  have hr := B.returns
  have hts : ∀ w ∈ gtb, w.before ([.ref (adK i)] : List Value).toArray s = true := fun w hw => atoms_spec (ws := wsM mS_coder) B.pre w (List.mem_cons_of_mem _ hw)
  have hown : s.vm.findClass "java/lang/String" = some m.cls := findClass_of_methodNamed B.named
  have hlocks := B.notSynchronized
  subst hsz
  have hS : va_S (Ne s.heap.size) s.heap s.heap [] := va_S.rf
  have hl := lv_entry ([.ref (adK i)]) (n := 1) (Nat.le_of_ble_eq_true rfl)
  rw [lg_entry_eq]
  generalize (lg_sl ([.ref (adK i)]) ++ List.replicate (1 - (lg_sl ([.ref (adK i)])).length) Slot.unset).toArray = ls at hl ⊢
  have hl : lv_has ls 1 [(0, .ref (adK i))] := hl
  refine va_gets hx hb hT.2.1 hS hown (hts _ fl_S_38) (fun _ z => z) (show decode prog_22_method_152_code 0 = .ok (.getstatic 38, 3) by decide +kernel) ?_
  refine lv_if_eq (x := 1) (tgt := 13) hx hb (show decode prog_22_method_152_code 3 = .ok (.ifCond .eq 10, 3) by decide +kernel) (by decide) (fun e => absurd e (by decide)) (fun _ => ?_)
  refine lv_aload_n hx hb (show decode prog_22_method_152_code 6 = .ok (.aload_n 0, 1) by decide +kernel) rfl (lv_at hl 0 rfl) ?_
  refine vk_getf hx hb (hT.1.1 i hi).2.1 hS hown (hts _ fl_S_15) (fun _ z => z) (show decode prog_22_method_152_code 7 = .ok (.getfield 15, 3) by decide +kernel) ?_
  refine lv_goto (tgt := 14) hx hb (show decode prog_22_method_152_code 10 = .ok (.goto 4, 3) by decide +kernel) (by decide) ?_
  exact W.zret hx hb hr rfl (fun t ht hW => ⟨⟨0, (), rfl, rfl, trivial⟩, hS.F ht⟩) hS.2.2 (show decode prog_22_method_152_code 14 = .ok (.ireturn, 1) by decide +kernel)
theorem c_isLatin1 (l : Launch) {adK adV : Nat → Nat} {i : Nat} (hi : i < 2) (sz : Nat) : Met l yS_isLatin1 (wsM mS_isLatin1) (rmJ 0) (va_Pc [.ref (adK i)] (PT adK adV sz)) (QT 1 sz) 0 0 (Ne sz) := by
  refine Met.ofW (cc := prog_22_method_154_code) (maxL := 1) (ret := (some .boolean)) (by decide) rfl ?_
  intro p e s m args below meth c s₁ B hml hv
  obtain ⟨rfl, hsz, hT⟩ := hv
  have hx := B.exec
  have hb := B.bytes
  have hr := B.returns
  have hts : ∀ w ∈ gtb, w.before ([.ref (adK i)] : List Value).toArray s = true := fun w hw => atoms_spec (ws := wsM mS_isLatin1) B.pre w (List.mem_cons_of_mem _ hw)
  have hown : s.vm.findClass "java/lang/String" = some m.cls := findClass_of_methodNamed B.named
  have hlocks := B.notSynchronized
  subst hsz
  have hS : va_S (Ne s.heap.size) s.heap s.heap [] := va_S.rf
  have hl := lv_entry ([.ref (adK i)]) (n := 1) (Nat.le_of_ble_eq_true rfl)
  rw [lg_entry_eq]
  generalize (lg_sl ([.ref (adK i)]) ++ List.replicate (1 - (lg_sl ([.ref (adK i)])).length) Slot.unset).toArray = ls at hl ⊢
  have hl : lv_has ls 1 [(0, .ref (adK i))] := hl
  refine va_gets hx hb hT.2.1 hS hown (hts _ fl_S_38) (fun _ z => z) (show decode prog_22_method_154_code 0 = .ok (.getstatic 38, 3) by decide +kernel) ?_
  refine lv_if_eq (x := 1) (tgt := 17) hx hb (show decode prog_22_method_154_code 3 = .ok (.ifCond .eq 14, 3) by decide +kernel) (by decide) (fun e => absurd e (by decide)) (fun _ => ?_)
  refine lv_aload_n hx hb (show decode prog_22_method_154_code 6 = .ok (.aload_n 0, 1) by decide +kernel) rfl (lv_at hl 0 rfl) ?_
  refine vk_getf hx hb (hT.1.1 i hi).2.1 hS hown (hts _ fl_S_15) (fun _ z => z) (show decode prog_22_method_154_code 7 = .ok (.getfield 15, 3) by decide +kernel) ?_
  refine lv_if_ne (x := 0) (tgt := 17) hx hb (show decode prog_22_method_154_code 10 = .ok (.ifCond .ne 7, 3) by decide +kernel) (by decide) (fun e => absurd rfl e) (fun _ => ?_)
  refine lv_iconst (v := 1) hx hb (show decode prog_22_method_154_code 13 = .ok (.iconst 1, 1) by decide +kernel) (by decide) ?_
  refine lv_goto (tgt := 18) hx hb (show decode prog_22_method_154_code 14 = .ok (.goto 4, 3) by decide +kernel) (by decide) ?_
  exact W.zret hx hb hr rfl (fun t ht hW => ⟨⟨1, (), rfl, rfl, trivial⟩, hS.F ht⟩) hS.2.2 (show decode prog_22_method_154_code 18 = .ok (.ireturn, 1) by decide +kernel)
theorem c_slength (l : Launch) {adK adV : Nat → Nat} {i : Nat} (hi : i < 2) (sz : Nat) : Met l yS_length (wsM mS_length) (rmJ 1) (va_Pc [.ref (adK i)] (PT adK adV sz)) (QT (nI (lS i)) sz) 0 0 (Ne sz) := by
  refine Met.ofW (cc := prog_22_method_54_code) (maxL := 1) (ret := (some .int)) (by decide) rfl ?_
  intro p e s m args below meth c s₁ B hml hv
  obtain ⟨rfl, hsz, hT⟩ := hv
  have hx := B.exec
  have hb := B.bytes
  have hr := B.returns
  have hts : ∀ w ∈ gtb, w.before ([.ref (adK i)] : List Value).toArray s = true := fun w hw => atoms_spec (ws := wsM mS_length) B.pre w (List.mem_cons_of_mem _ hw)
  have hown : s.vm.findClass "java/lang/String" = some m.cls := findClass_of_methodNamed B.named
  have hlocks := B.notSynchronized
  subst hsz
  have hS : va_S (Ne s.heap.size) s.heap s.heap [] := va_S.rf
  have hl := lv_entry ([.ref (adK i)]) (n := 1) (Nat.le_of_ble_eq_true rfl)
  rw [lg_entry_eq]
  generalize (lg_sl ([.ref (adK i)]) ++ List.replicate (1 - (lg_sl ([.ref (adK i)])).length) Slot.unset).toArray = ls at hl ⊢
  have hl : lv_has ls 1 [(0, .ref (adK i))] := hl
  refine lv_aload_n hx hb (show decode prog_22_method_54_code 0 = .ok (.aload_n 0, 1) by decide +kernel) rfl (lv_at hl 0 rfl) ?_
  refine vk_getf hx hb (hT.1.1 i hi).2.2.1 hS hown (hts _ fl_S_9) (fun _ z => z) (show decode prog_22_method_54_code 1 = .ok (.getfield 9, 3) by decide +kernel) ?_
  refine va_tlen hx hb (hT.1.1 i hi).2.2.2 hS (v := nI (lS i)) rfl (show decode prog_22_method_54_code 4 = .ok (.arraylength, 1) by decide +kernel) ?_
  refine lv_aload_n hx hb (show decode prog_22_method_54_code 5 = .ok (.aload_n 0, 1) by decide +kernel) rfl (lv_at hl 0 rfl) ?_
  refine va_calli (va_runV (C := "java/lang/String") (As := []) (rest := [.int (nI (lS i))]) ⟨hx, hb, hml, hown, hts⟩ (c_coder l hi s.heap.size) ⟨(callB_of (ws' := gtb) 0 hts (wsM_in cv_mS_coder) rfl rfl rfl (hts _ cv_mS_coder.2.1) (hts _ lk_S_335) ⟨cv_mS_coder.2.2.1.1, cv_mS_coder.2.2.1.2, cv_mS_coder.2.2.2.1⟩ ⟨Nat.le_of_ble_eq_true rfl, Nat.le_of_ble_eq_true rfl⟩), hts _ in_mS_coder, hts _ se_mS_coder⟩ ⟨PT_FB, vk_recv hT.1 hi hS, fun U hU hW => ⟨rfl, by rw [hU], by rw [hU]; exact hT.mv hW.alike⟩⟩ rfl rfl hl.1 rfl (lv_room (Nat.le_of_ble_eq_true rfl)) (show decode prog_22_method_54_code 6 = .ok (.invokevirtual 335, 3) by decide +kernel) ⟨Nat.le_of_ble_eq_true rfl, Nat.le_of_ble_eq_true rfl⟩) hS (fun q _ h => h) (fun q h => h) (fun r u t H1 locs1 ht hal hp hB hsz hk hS1 => ?_)
  subst hp
  refine lv_ishr (x := nI (lS i)) (y := 0) hx hb (show decode prog_22_method_54_code 9 = .ok (.ishr, 1) by decide +kernel) ?_
  refine W.iret hx hb hr (fun t ht hW => ⟨⟨_, (), rfl, ?_, trivial⟩, hS1.F ht⟩) hS1.2.2 (show decode prog_22_method_54_code 10 = .ok (.ireturn, 1) by decide +kernel)
  rcases (show i = 0 ∨ i = 1 by omega) with rfl | rfl <;> decide
theorem c_pcheck (l : Launch) {k n : Int32} {f : Value} (hf : f = .null ∨ ∃ t, f = .ref t) (h0 : ¬ k < 0) (h1 : k < n) (sz : Nat) : Met l yS_pcheck (wsM mS_pcheck) (rmJ 0) (va_Pc [.int k, .int n, f] (fun U => U.heap.size = sz)) (QT k sz) 0 0 (Ne sz) := by
  rcases hf with rfl | ⟨t, rfl⟩
  · refine Met.ofW (cc := prog_30_method_11_code) (maxL := 3) (ret := (some .int)) (by decide) rfl ?_
    intro p e s m args below meth c s₁ B hml hv
    obtain ⟨rfl, hsz⟩ := hv
    have hx := B.exec
    have hb := B.bytes
    have hr := B.returns
    have hts : ∀ w ∈ gtb, w.before ([.int k, .int n, .null] : List Value).toArray s = true := fun w hw => atoms_spec (ws := wsM mS_pcheck) B.pre w (List.mem_cons_of_mem _ hw)
    have hown : s.vm.findClass "jdk/internal/util/Preconditions" = some m.cls := findClass_of_methodNamed B.named
    have hlocks := B.notSynchronized
    subst hsz
    have hS : va_S (Ne s.heap.size) s.heap s.heap [] := va_S.rf
    have hl := lv_entry ([.int k, .int n, .null]) (n := 3) (Nat.le_of_ble_eq_true rfl)
    rw [lg_entry_eq]
    generalize (lg_sl ([.int k, .int n, .null]) ++ List.replicate (3 - (lg_sl ([.int k, .int n, .null])).length) Slot.unset).toArray = ls at hl ⊢
    have hl : lv_has ls 3 [(0, .int k), (1, .int n), (2, .null)] := hl
    refine lv_iload_n hx hb (show decode prog_30_method_11_code 0 = .ok (.iload_n 0, 1) by decide +kernel) rfl (lv_at hl 0 rfl) ?_
    refine lv_if_lt (x := k) (tgt := 9) hx hb (show decode prog_30_method_11_code 1 = .ok (.ifCond .lt 8, 3) by decide +kernel) (by decide) (fun e => absurd e h0) (fun _ => ?_)
    refine lv_iload_n hx hb (show decode prog_30_method_11_code 4 = .ok (.iload_n 0, 1) by decide +kernel) rfl (lv_at hl 0 rfl) ?_
    refine lv_iload_n hx hb (show decode prog_30_method_11_code 5 = .ok (.iload_n 1, 1) by decide +kernel) rfl (lv_at hl 1 rfl) ?_
    refine lv_icmp_lt (x := k) (y := n) (tgt := 16) hx hb (show decode prog_30_method_11_code 6 = .ok (.if_icmp .lt 10, 3) by decide +kernel) (by decide) (fun _ => ?_) (fun e => absurd h1 e)
    refine lv_iload_n hx hb (show decode prog_30_method_11_code 16 = .ok (.iload_n 0, 1) by decide +kernel) rfl (lv_at hl 0 rfl) ?_
    exact W.iret hx hb hr (fun t ht hW => ⟨⟨k, (), rfl, rfl, trivial⟩, hS.F ht⟩) hS.2.2 (show decode prog_30_method_11_code 17 = .ok (.ireturn, 1) by decide +kernel)
  · refine Met.ofW (cc := prog_30_method_11_code) (maxL := 3) (ret := (some .int)) (by decide) rfl ?_
    intro p e s m args below meth c s₁ B hml hv
    obtain ⟨rfl, hsz⟩ := hv
    have hx := B.exec
    have hb := B.bytes
    have hr := B.returns
    have hts : ∀ w ∈ gtb, w.before ([.int k, .int n, .ref t] : List Value).toArray s = true := fun w hw => atoms_spec (ws := wsM mS_pcheck) B.pre w (List.mem_cons_of_mem _ hw)
    have hown : s.vm.findClass "jdk/internal/util/Preconditions" = some m.cls := findClass_of_methodNamed B.named
    have hlocks := B.notSynchronized
    subst hsz
    have hS : va_S (Ne s.heap.size) s.heap s.heap [] := va_S.rf
    have hl := lv_entry ([.int k, .int n, .ref t]) (n := 3) (Nat.le_of_ble_eq_true rfl)
    rw [lg_entry_eq]
    generalize (lg_sl ([.int k, .int n, .ref t]) ++ List.replicate (3 - (lg_sl ([.int k, .int n, .ref t])).length) Slot.unset).toArray = ls at hl ⊢
    have hl : lv_has ls 3 [(0, .int k), (1, .int n), (2, .ref t)] := hl
    refine lv_iload_n hx hb (show decode prog_30_method_11_code 0 = .ok (.iload_n 0, 1) by decide +kernel) rfl (lv_at hl 0 rfl) ?_
    refine lv_if_lt (x := k) (tgt := 9) hx hb (show decode prog_30_method_11_code 1 = .ok (.ifCond .lt 8, 3) by decide +kernel) (by decide) (fun e => absurd e h0) (fun _ => ?_)
    refine lv_iload_n hx hb (show decode prog_30_method_11_code 4 = .ok (.iload_n 0, 1) by decide +kernel) rfl (lv_at hl 0 rfl) ?_
    refine lv_iload_n hx hb (show decode prog_30_method_11_code 5 = .ok (.iload_n 1, 1) by decide +kernel) rfl (lv_at hl 1 rfl) ?_
    refine lv_icmp_lt (x := k) (y := n) (tgt := 16) hx hb (show decode prog_30_method_11_code 6 = .ok (.if_icmp .lt 10, 3) by decide +kernel) (by decide) (fun _ => ?_) (fun e => absurd h1 e)
    refine lv_iload_n hx hb (show decode prog_30_method_11_code 16 = .ok (.iload_n 0, 1) by decide +kernel) rfl (lv_at hl 0 rfl) ?_
    exact W.iret hx hb hr (fun t ht hW => ⟨⟨k, (), rfl, rfl, trivial⟩, hS.F ht⟩) hS.2.2 (show decode prog_30_method_11_code 17 = .ok (.ireturn, 1) by decide +kernel)
theorem c_scheck (l : Launch) {adK adV : Nat → Nat} {k n : Int32} (h0 : ¬ k < 0) (h1 : k < n) (sz : Nat) : Met l yS_scheck (wsM mS_scheck) (rmJ 1) (va_Pc [.int k, .int n] (PT adK adV sz)) (QTv sz) 0 0 (Ne sz) := by
  refine Met.ofW (cc := prog_22_method_155_code) (maxL := 2) (ret := none) (by decide) rfl ?_
  intro p e s m args below meth c s₁ B hml hv
  obtain ⟨rfl, hsz, hT⟩ := hv
  have hx := B.exec
  have hb := B.bytes
  have hr := B.returns
  have hts : ∀ w ∈ gtb, w.before ([.int k, .int n] : List Value).toArray s = true := fun w hw => atoms_spec (ws := wsM mS_scheck) B.pre w (List.mem_cons_of_mem _ hw)
  have hown : s.vm.findClass "java/lang/String" = some m.cls := findClass_of_methodNamed B.named
  have hlocks := B.notSynchronized
  subst hsz
  have hS : va_S (Ne s.heap.size) s.heap s.heap [] := va_S.rf
  have hl := lv_entry ([.int k, .int n]) (n := 2) (Nat.le_of_ble_eq_true rfl)
  rw [lg_entry_eq]
  generalize (lg_sl ([.int k, .int n]) ++ List.replicate (2 - (lg_sl ([.int k, .int n])).length) Slot.unset).toArray = ls at hl ⊢
  have hl : lv_has ls 2 [(0, .int k), (1, .int n)] := hl
  refine lv_iload_n hx hb (show decode prog_22_method_155_code 0 = .ok (.iload_n 0, 1) by decide +kernel) rfl (lv_at hl 0 rfl) ?_
  refine lv_iload_n hx hb (show decode prog_22_method_155_code 1 = .ok (.iload_n 1, 1) by decide +kernel) rfl (lv_at hl 1 rfl) ?_
  rcases hT.2.2 with hz | ⟨t, hz⟩
  · refine va_gets hx hb hz hS hown (hts _ fl_S_1053) (fun _ z => z) (show decode prog_22_method_155_code 2 = .ok (.getstatic 1053, 3) by decide +kernel) ?_
    refine va_calli (va_runS (As := [.int k, .int n, .null]) (rest := []) ⟨hx, hb, hml, hown, hts⟩ (c_pcheck l (Or.inl rfl) h0 h1 s.heap.size) ⟨(callB_of (ws' := gtb) 3 hts (wsM_in cv_mS_pcheck) rfl rfl rfl (hts _ cv_mS_pcheck.2.1) (hts _ lk_S_1059) ⟨cv_mS_pcheck.2.2.1.1, cv_mS_pcheck.2.2.1.2, cv_mS_pcheck.2.2.2.1⟩ ⟨Nat.le_of_ble_eq_true rfl, Nat.le_of_ble_eq_true rfl⟩), hts _ st_mS_pcheck⟩ ⟨fun a U g mk h => h, fun U hU hW => ⟨rfl, congrArg Array.size hU⟩⟩ rfl rfl hl.1 rfl (lv_room (Nat.le_of_ble_eq_true rfl)) (show decode prog_22_method_155_code 5 = .ok (.invokestatic 1059, 3) by decide +kernel) ⟨Nat.le_of_ble_eq_true rfl, Nat.le_of_ble_eq_true rfl⟩) hS (fun q _ h => h) (fun q h => h) (fun r u t H1 locs1 ht hal hp hB hsz hk hS1 => ?_)
    refine lv_pop hx hb (show decode prog_22_method_155_code 8 = .ok (.pop, 1) by decide +kernel) rfl ?_
    exact W.vret hx hb hr (fun t ht hW => ⟨⟨(), rfl, trivial, trivial⟩, hS1.F ht⟩) hS1.2.2 (show decode prog_22_method_155_code 9 = .ok (.return_, 1) by decide +kernel)
  · refine va_gets hx hb hz hS hown (hts _ fl_S_1053) (fun _ z => z) (show decode prog_22_method_155_code 2 = .ok (.getstatic 1053, 3) by decide +kernel) ?_
    refine va_calli (va_runS (As := [.int k, .int n, .ref t]) (rest := []) ⟨hx, hb, hml, hown, hts⟩ (c_pcheck l (Or.inr ⟨t, rfl⟩) h0 h1 s.heap.size) ⟨(callB_of (ws' := gtb) 3 hts (wsM_in cv_mS_pcheck) rfl rfl rfl (hts _ cv_mS_pcheck.2.1) (hts _ lk_S_1059) ⟨cv_mS_pcheck.2.2.1.1, cv_mS_pcheck.2.2.1.2, cv_mS_pcheck.2.2.2.1⟩ ⟨Nat.le_of_ble_eq_true rfl, Nat.le_of_ble_eq_true rfl⟩), hts _ st_mS_pcheck⟩ ⟨fun a U g mk h => h, fun U hU hW => ⟨rfl, congrArg Array.size hU⟩⟩ rfl rfl hl.1 rfl (lv_room (Nat.le_of_ble_eq_true rfl)) (show decode prog_22_method_155_code 5 = .ok (.invokestatic 1059, 3) by decide +kernel) ⟨Nat.le_of_ble_eq_true rfl, Nat.le_of_ble_eq_true rfl⟩) hS (fun q _ h => h) (fun q h => h) (fun r u t H1 locs1 ht hal hp hB hsz hk hS1 => ?_)
    refine lv_pop hx hb (show decode prog_22_method_155_code 8 = .ok (.pop, 1) by decide +kernel) rfl ?_
    exact W.vret hx hb hr (fun t ht hW => ⟨⟨(), rfl, trivial, trivial⟩, hS1.F ht⟩) hS1.2.2 (show decode prog_22_method_155_code 9 = .ok (.return_, 1) by decide +kernel)
theorem c_lchar (l : Launch) {adK adV : Nat → Nat} {i k : Nat} (hi : i < 2) (hk : k < lS i) (sz : Nat) : Met l yS_lchar (wsM mS_lchar) (rmJ 2) (va_Pc [.ref (adV i), .int (nI k)] (PT adK adV sz)) (QT (chv i k) sz) 0 0 (Ne sz) := by
  have hL := lS_lt i
  refine Met.ofW (cc := prog_23_method_2_code) (maxL := 2) (ret := (some .char)) (by decide) rfl ?_
  intro p e s m args below meth c s₁ B hml hv
  obtain ⟨rfl, hsz, hT⟩ := hv
  have hx := B.exec
  have hb := B.bytes
  have hr := B.returns
  have hts : ∀ w ∈ gtb, w.before ([.ref (adV i), .int (nI k)] : List Value).toArray s = true := fun w hw => atoms_spec (ws := wsM mS_lchar) B.pre w (List.mem_cons_of_mem _ hw)
  have hown : s.vm.findClass "java/lang/StringLatin1" = some m.cls := findClass_of_methodNamed B.named
  have hlocks := B.notSynchronized
  subst hsz
  have hS : va_S (Ne s.heap.size) s.heap s.heap [] := va_S.rf
  have hl := lv_entry ([.ref (adV i), .int (nI k)]) (n := 2) (Nat.le_of_ble_eq_true rfl)
  rw [lg_entry_eq]
  generalize (lg_sl ([.ref (adV i), .int (nI k)]) ++ List.replicate (2 - (lg_sl ([.ref (adV i), .int (nI k)])).length) Slot.unset).toArray = ls at hl ⊢
  have hl : lv_has ls 2 [(0, .ref (adV i)), (1, .int (nI k))] := hl
  refine lv_iload_n hx hb (show decode prog_23_method_2_code 0 = .ok (.iload_n 1, 1) by decide +kernel) rfl (lv_at hl 1 rfl) ?_
  refine lv_aload_n hx hb (show decode prog_23_method_2_code 1 = .ok (.aload_n 0, 1) by decide +kernel) rfl (lv_at hl 0 rfl) ?_
  refine va_tlen hx hb (hT.1.1 i hi).2.2.2 hS (v := nI (lS i)) rfl (show decode prog_23_method_2_code 2 = .ok (.arraylength, 1) by decide +kernel) ?_
  refine va_callv (va_runS (As := [.int (nI k), .int (nI (lS i))]) (rest := []) ⟨hx, hb, hml, hown, hts⟩ (c_scheck l (adK := adK) (adV := adV) (nI_pos (by omega)) (nI_lt hk (by omega)) s.heap.size) ⟨(callB_of (ws' := gtb) 2 hts (wsM_in cv_mS_scheck) rfl rfl rfl (hts _ cv_mS_scheck.2.1) (hts _ lk_SL_9) ⟨cv_mS_scheck.2.2.1.1, cv_mS_scheck.2.2.1.2, cv_mS_scheck.2.2.2.1⟩ ⟨Nat.le_of_ble_eq_true rfl, Nat.le_of_ble_eq_true rfl⟩), hts _ st_mS_scheck⟩ ⟨PT_FB, fun U hU hW => ⟨rfl, by rw [hU], by rw [hU]; exact hT.mv hW.alike⟩⟩ rfl rfl hl.1 rfl (lv_room (Nat.le_of_ble_eq_true rfl)) (show decode prog_23_method_2_code 3 = .ok (.invokestatic 9, 3) by decide +kernel) ⟨Nat.le_of_ble_eq_true rfl, Nat.le_of_ble_eq_true rfl⟩) hS (fun q _ h => h) (fun q h => h) (fun u t H1 locs1 ht hal hp hB hsz hkk hS1 => ?_)
  refine lv_aload_n hx hb (show decode prog_23_method_2_code 6 = .ok (.aload_n 0, 1) by decide +kernel) rfl (lv_at hl 0 rfl) ?_
  refine lv_iload_n hx hb (show decode prog_23_method_2_code 7 = .ok (.iload_n 1, 1) by decide +kernel) rfl (lv_at hl 1 rfl) ?_
  refine va_tb hx hb (hT.1.1 i hi).2.2.2 hS1 (i := nI k) (v := .int ((txB.getD i []).getD k 0)) (vp_in_nI (N := lS i) hk (lS_lt i)) (by rw [nI_clamp (by omega)]) (show decode prog_23_method_2_code 8 = .ok (.baload, 1) by decide +kernel) ?_
  refine lv_sipush (v := 255) hx hb (show decode prog_23_method_2_code 9 = .ok (.sipush 255, 3) by decide +kernel) (by decide) ?_
  refine lv_iand (x := (txB.getD i []).getD k 0) (y := 255) hx hb (show decode prog_23_method_2_code 12 = .ok (.iand, 1) by decide +kernel) ?_
  refine lv_i2c (v := chv i k) hx hb (show decode prog_23_method_2_code 13 = .ok (.i2c, 1) by decide +kernel) rfl ?_
  exact W.zret hx hb hr (chv_nar2 hi hk) (fun t ht hW => ⟨⟨_, (), rfl, rfl, trivial⟩, hS1.F ht⟩) hS1.2.2 (show decode prog_23_method_2_code 14 = .ok (.ireturn, 1) by decide +kernel)
theorem c_schar (l : Launch) {adK adV : Nat → Nat} {i k : Nat} (hi : i < 2) (hk : k < lS i) (sz : Nat) : Met l yS_schar (wsM mS_schar) (rmJ 3) (va_Pc [.ref (adK i), .int (nI k)] (PT adK adV sz)) (QT (chv i k) sz) 0 0 (Ne sz) := by
  refine Met.ofW (cc := prog_22_method_56_code) (maxL := 2) (ret := (some .char)) (by decide) rfl ?_
  intro p e s m args below meth c s₁ B hml hv
  obtain ⟨rfl, hsz, hT⟩ := hv
  have hx := B.exec
  have hb := B.bytes
  have hr := B.returns
  have hts : ∀ w ∈ gtb, w.before ([.ref (adK i), .int (nI k)] : List Value).toArray s = true := fun w hw => atoms_spec (ws := wsM mS_schar) B.pre w (List.mem_cons_of_mem _ hw)
  have hown : s.vm.findClass "java/lang/String" = some m.cls := findClass_of_methodNamed B.named
  have hlocks := B.notSynchronized
  subst hsz
  have hS : va_S (Ne s.heap.size) s.heap s.heap [] := va_S.rf
  have hl := lv_entry ([.ref (adK i), .int (nI k)]) (n := 2) (Nat.le_of_ble_eq_true rfl)
  rw [lg_entry_eq]
  generalize (lg_sl ([.ref (adK i), .int (nI k)]) ++ List.replicate (2 - (lg_sl ([.ref (adK i), .int (nI k)])).length) Slot.unset).toArray = ls at hl ⊢
  have hl : lv_has ls 2 [(0, .ref (adK i)), (1, .int (nI k))] := hl
  refine lv_aload_n hx hb (show decode prog_22_method_56_code 0 = .ok (.aload_n 0, 1) by decide +kernel) rfl (lv_at hl 0 rfl) ?_
  refine va_calli (va_runV (C := "java/lang/String") (As := []) (rest := []) ⟨hx, hb, hml, hown, hts⟩ (c_isLatin1 l hi s.heap.size) ⟨(callB_of (ws' := gtb) 0 hts (wsM_in cv_mS_isLatin1) rfl rfl rfl (hts _ cv_mS_isLatin1.2.1) (hts _ lk_S_492) ⟨cv_mS_isLatin1.2.2.1.1, cv_mS_isLatin1.2.2.1.2, cv_mS_isLatin1.2.2.2.1⟩ ⟨Nat.le_of_ble_eq_true rfl, Nat.le_of_ble_eq_true rfl⟩), hts _ in_mS_isLatin1, hts _ se_mS_isLatin1⟩ ⟨PT_FB, vk_recv hT.1 hi hS, fun U hU hW => ⟨rfl, by rw [hU], by rw [hU]; exact hT.mv hW.alike⟩⟩ rfl rfl hl.1 rfl (lv_room (Nat.le_of_ble_eq_true rfl)) (show decode prog_22_method_56_code 1 = .ok (.invokevirtual 492, 3) by decide +kernel) ⟨Nat.le_of_ble_eq_true rfl, Nat.le_of_ble_eq_true rfl⟩) hS (fun q _ h => h) (fun q h => h) (fun r u t H1 locs1 ht hal hp hB hsz hkk hS1 => ?_)
  subst hp
  refine lv_if_eq (x := 1) (tgt := 16) hx hb (show decode prog_22_method_56_code 4 = .ok (.ifCond .eq 12, 3) by decide +kernel) (by decide) (fun e => absurd e (by decide)) (fun _ => ?_)
  refine lv_aload_n hx hb (show decode prog_22_method_56_code 7 = .ok (.aload_n 0, 1) by decide +kernel) rfl (lv_at hl 0 rfl) ?_
  refine vk_getf hx hb (hT.1.1 i hi).2.2.1 hS1 hown (hts _ fl_S_9) (fun _ z => z) (show decode prog_22_method_56_code 8 = .ok (.getfield 9, 3) by decide +kernel) ?_
  refine lv_iload_n hx hb (show decode prog_22_method_56_code 11 = .ok (.iload_n 1, 1) by decide +kernel) rfl (lv_at hl 1 rfl) ?_
  have hT1 : TX adK adV (Ne H1.size) s H1 := ⟨(hT.1.kept hS1.2.1).narrow (fun q h => Nat.le_trans hsz h), (hT.2.1.kept hS1.2.1).narrow (fun q h => Nat.le_trans hsz h), (hT.2.2.kept hS1.2.1).narrow (fun q h => Nat.le_trans hsz h)⟩
  refine va_calli (va_runS (As := [.ref (adV i), .int (nI k)]) (rest := []) ⟨hx, hb, hml, hown, hts⟩ (c_lchar l hi hk H1.size) ⟨(callB_of (ws' := gtb) 2 hts (wsM_in cv_mS_lchar) rfl rfl rfl (hts _ cv_mS_lchar.2.1) (hts _ lk_S_495) ⟨cv_mS_lchar.2.2.1.1, cv_mS_lchar.2.2.1.2, cv_mS_lchar.2.2.2.1⟩ ⟨Nat.le_of_ble_eq_true rfl, Nat.le_of_ble_eq_true rfl⟩), hts _ st_mS_lchar⟩ ⟨PT_FB, fun U hU hW => ⟨rfl, by rw [hU], by rw [hU]; exact hT1.mv hW.alike⟩⟩ rfl rfl hl.1 rfl (lv_room (Nat.le_of_ble_eq_true rfl)) (show decode prog_22_method_56_code 12 = .ok (.invokestatic 495, 3) by decide +kernel) ⟨Nat.le_of_ble_eq_true rfl, Nat.le_of_ble_eq_true rfl⟩) hS1 (fun q _ h => Nat.le_trans hsz h) (fun q h => Nat.le_trans hsz h) (fun r u t H2 locs2 ht hal hp hB hsz2 hkk2 hS2 => ?_)
  subst hp
  exact W.zret hx hb hr (chv_nar2 hi hk) (fun t ht hW => ⟨⟨_, (), rfl, rfl, trivial⟩, hS2.F ht⟩) hS2.2.2 (show decode prog_22_method_56_code 15 = .ok (.ireturn, 1) by decide +kernel)
