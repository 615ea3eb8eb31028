/-! the law's own look: it catches what the class throws -/
theorem ofWH {l : Launch} {y : MethodName} {ws ws' : List Cond} {rm : Room} {Pc : Array Value → State → Prop} {Qc : Array Value → State → Outcome → State → Prop} {mc ms : Nat} {free : Addr → Prop} {cc : ByteArray} {maxL : Nat} {ret : Option FieldType} {hh : List (Nat × Nat × Nat × Nat)}
    (hy : plainName y.cls = true) (hw : ws = Cond.codeWith y cc maxL ret hh :: ws')
    (body : ∀ p e s m args below meth c s₁, BodyLoose p l y (headSpec ws rm) cc maxL ret e s m args below meth c s₁ → c.maxLocals = maxL → Pc args s →
      W p l e (headSpec ws rm).room s m args below meth c s.heap [] 0 0 (MQ below Qc args s mc ms free) (entryFrame m args maxL)) : Met l y ws rm Pc Qc mc ms free := by
  refine MetFree.of_bodyS (code := cc) (maxLocals := maxL) (ret := ret) hy ?_ ?_
  · intro args s m h hn
    obtain ⟨m9, meth, c, hn9, h1, h2, h3, h4, -, h5, h6, -⟩ := Cond.codeWith_spec (atoms_spec (ws := ws) h _ (by rw [hw]; exact List.mem_cons_self))
    cases hn.symm.trans hn9
    exact ⟨meth, c, h1, h2, h3, h4, h5, h6⟩
  · intro p e s m args below meth c s₁ B hml hP _
    have hh0 : s₁.heap = s.heap := by rw [B.state]; rfl
    obtain ⟨t, a1, o, b1, b2, b3⟩ := body p e s m args below meth c s₁ B hml hP s₁ hh0 (Stand.of_body B)
    exact ⟨t, o, a1, b1, b2, ⟨b3.1, b3.2⟩⟩
def lkf (k j : Nat) : Prop := csp k j ∨ k = 93
def wsH : List Cond := Cond.codeWith yL_look method_3_code 5 (some .int) hhL :: gtb
section HLOOK
variable {pp n nf : Nat} {s : Int} {F : FTab} {ag C : Nat → Int} {Bg E : Nat → Nat} {M : Mem} {x w : Int}
def KH (pp nf : Nat) (s : Int) (F : FTab) (ag : Nat → Int) (M : Mem) (x w : Int) : List AV → Mem → Prop := Ki (fun r M' => r = lkT pp x w ∧ Fp lkf M M' ∧ (lkT pp x w = 0 → M' 93 0 = lkV pp nf s F ag x w))
theorem hl_tail {r : Int} {M' : Mem} {K : List AV → Mem → Prop} (hK : K [(0, 0)] (mset M' 93 0 r)) : A mL_look 5 0 8 [(19, ((0 : Nat) : Int)), (0, x), (0, w), (32, ((93 : Nat) : Int)), (2, 0)] [(0, r), (0, 0), (32, ((93 : Nat) : Int))] M' K := by
  refine A_i2l (by decide +kernel) ?_
  refine B_last (M' := mset M' 93 0 r) (by decide +kernel) (by decide) rfl ?_
  refine A_goto (off := 11) (tgt := 21) (by decide +kernel) (by omega) ?_
  refine A_iconst (a := 0) (by decide +kernel) (by unfold in32; omega) ?_
  exact A_ret ⟨by decide +kernel, Or.inl rfl⟩ hK
set_option maxHeartbeats 1000000 in
theorem k_hlook (hS : SC M pp n s nf F ag C Bg E) (hf : SF pp s nf F) (l : Launch) (hfl : l.stackTraces = false) (ad : Nat → Nat) (dd : va_G) (cs : CS) (SM : Mem) (sz : Nat) :
    Met l yL_look wsH (rmM 5 1) (va_Pc (([(19, ((0 : Nat) : Int)), (0, x), (0, w), (32, ((93 : Nat) : Int))] : List AV).map (tv ad)) (PU ad dd cs SM [(19, ((0 : Nat) : Int)), (0, x), (0, w), (32, ((93 : Nat) : Int))] M sz)) (QU ad dd cs SM (KH pp nf s F ag M x w) sz) 1 16 (Aw ad sz) := by
  have eargs : ([(19, ((0 : Nat) : Int)), (0, x), (0, w), (32, ((93 : Nat) : Int))] : List AV).map (tv ad) = [.ref (ad 0), .int (Int32.ofInt x), .int (Int32.ofInt w), .ref (ad 93)] := by
    rw [List.map_cons, List.map_cons, List.map_cons, List.map_cons, List.map_nil, tv_0, tv_0, tv_r _ (show 2 ≤ 19 by omega), tv_r _ (show 2 ≤ 32 by omega), Int.toNat_natCast, Int.toNat_natCast]
  refine ofWH (cc := method_3_code) (maxL := 5) (ret := some .int) (hh := hhL) (by decide) rfl ?_
  intro p e s0 m args' below meth c s₁ B hml hv
  obtain ⟨rfl, hsz, hP, hK, hD, hN, hR, hM, hvok⟩ := hv
  have hts := atoms_spec (ws := wsH) B.pre
  have htab := vx_table (x := yL_look) B (hts _ List.mem_cons_self)
  have hv0 : vok (19, ((0 : Nat) : Int)) := hvok _ List.mem_cons_self
  have hvx : vok (0, x) := hvok _ (List.mem_cons_of_mem _ List.mem_cons_self)
  have hvw : vok (0, w) := hvok _ (List.mem_cons_of_mem _ (List.mem_cons_of_mem _ List.mem_cons_self))
  have hv93 : vok (32, ((93 : Nat) : Int)) := hvok _ (List.mem_cons_of_mem _ (List.mem_cons_of_mem _ (List.mem_cons_of_mem _ List.mem_cons_self)))
  subst hsz
  rw [lg_entry_eq]
  have hl := lv_entry ([.ref (ad 0), .int (Int32.ofInt x), .int (Int32.ofInt w), .ref (ad 93)]) (n := 5) (Nat.le_of_ble_eq_true rfl)
  rw [eargs] at hts B ⊢
  generalize (lg_sl ([.ref (ad 0), .int (Int32.ofInt x), .int (Int32.ofInt w), .ref (ad 93)]) ++ List.replicate (5 - (lg_sl ([.ref (ad 0), .int (Int32.ofInt x), .int (Int32.ofInt w), .ref (ad 93)])).length) Slot.unset).toArray = ls at hl ⊢
  have hl : lv_has ls 5 [(0, .ref (ad 0)), (1, .int (Int32.ofInt x)), (2, .int (Int32.ofInt w)), (3, .ref (ad 93))] := hl
  obtain ⟨av, hav⟩ : ∃ av : Array Value, av = ([.ref (ad 0), .int (Int32.ofInt x), .int (Int32.ofInt w), .ref (ad 93)] : List Value).toArray := ⟨_, rfl⟩
  rw [← hav] at hts B ⊢
  obtain ⟨Qs, hQs⟩ : ∃ Qs : State → Prop, Qs = MQ below (QU ad dd cs SM (KH pp nf s F ag M x w) s0.heap.size) av s0 1 16 (Aw ad s0.heap.size) := ⟨_, rfl⟩
  rw [← hQs]
  obtain ⟨X, hX⟩ : ∃ X : JC, X = (p, l, e, (headSpec wsH (rmM 5 1)).room, s0, m, av, below, meth, c, Qs, Aw ad s0.heap.size, ad, dd, cs, SM, 1, 16) := ⟨_, rfl⟩
  have hE : EN mL_look 5 X := by
    rw [hX]
    exact ⟨B.exec, B.bytes, hml, B.returns, B.notSynchronized, findClass_of_methodNamed B.named, fun w hw hg => hts w (List.mem_cons_of_mem _ (gtb_in hw hg)), ⟨Nat.le_of_ble_eq_true rfl, Nat.le_of_ble_eq_true rfl, Nat.le_of_ble_eq_true rfl, Nat.le_of_ble_eq_true rfl, hfl⟩, hK, hN, hR, fun k hk => Or.inl ⟨k, hk, rfl⟩, fun q hq => Or.inr hq⟩
  have hS0 : ST X M s0.heap [] := by
    rw [hX]; exact ⟨hP, Aw_D hD, va_S.rf, hM⟩
  have hL : LSX X mL_look [(19, ((0 : Nat) : Int)), (0, x), (0, w), (32, ((93 : Nat) : Int)), (2, 0)] ls := by
    rw [hX]
    refine ⟨lv_mono hl (fun q hq => ?_), fun v hv => ?_⟩
    · have hq : q ∈ lav ad 0 [(19, ((0 : Nat) : Int)), (0, x), (0, w), (32, ((93 : Nat) : Int)), (2, 0)] := hq
      have e : lav ad 0 [(19, ((0 : Nat) : Int)), (0, x), (0, w), (32, ((93 : Nat) : Int)), (2, 0)] = [(0, tv ad (19, ((0 : Nat) : Int))), (1, tv ad (0, x)), (2, tv ad (0, w)), (3, tv ad (32, ((93 : Nat) : Int)))] := rfl
      rw [e, tv_0, tv_0, tv_r _ (show 2 ≤ 19 by omega), tv_r _ (show 2 ≤ 32 by omega), Int.toNat_natCast, Int.toNat_natCast] at hq
      exact hq
    · rcases List.mem_cons.mp hv with h | hv
      · exact Or.inr (h ▸ hv0)
      rcases List.mem_cons.mp hv with h | hv
      · exact Or.inr (h ▸ hvx)
      rcases List.mem_cons.mp hv with h | hv
      · exact Or.inr (h ▸ hvw)
      rcases List.mem_cons.mp hv with h | hv
      · exact Or.inr (h ▸ hv93)
      rcases List.mem_cons.mp hv with h | hv
      · exact Or.inl (by rw [h])
      · cases hv
  have hRT : RT X mL_look (KH pp nf s F ag M x w) := by
    rw [hX]
    intro pc v jl M' H' locs cells slots hret hvv hKv hS' hc hs
    have hq : ∀ t : State, t.heap = H' → s0.WarmedH t.vm → QU ad dd cs SM (KH pp nf s F ag M x w) s0.heap.size av s0 (.returned ((v.map (tv ad)).head?)) t := fun t ht hW =>
      ⟨v, M', rfl, by obtain ⟨r, rfl, -⟩ := hKv; exact Nat.le_refl 1, hKv, by rw [ht]; exact hS'.1, hS'.2.1, hS'.2.2.2, hvv, va_S.F hS'.2.2.1 ht⟩
    obtain ⟨r, rfl, hr⟩ := hKv
    refine W.widen hc hs ?_
    show W p l e _ s0 m av below meth c H' locs 1 16 Qs _
    rw [hQs]
    exact W.iret B.exec B.bytes B.returns hq hS'.2.2.1.2.2 hret.1 B.notSynchronized
  have hown : s0.vm.findClass RL = some m.cls := findClass_of_methodNamed B.named
  have hgt : ∀ w ∈ gtb, w.before av s0 = true := fun w hw => hts w (List.mem_cons_of_mem _ hw)
  have hrec := xrecv_of (ci := 9) hE hS0 (q := (RX10, TX10, 13)) rfl hv0
  have hPU := PU_at (args := [(19, ((0 : Nat) : Int)), (0, x), (0, w)]) hE hS0 (fun v hv => by
    rcases List.mem_cons.mp hv with h | hv
    · exact h ▸ hv0
    rcases List.mem_cons.mp hv with h | hv
    · exact h ▸ hvx
    rcases List.mem_cons.mp hv with h | hv
    · exact h ▸ hvw
    · cases hv)
  have hcf := cf_of hE
  have hgE := gtb_hts hE
  have hcb := cb_of (al' := 1) hE cv_m10_look (show 4 < 5 by omega) (hgE _ lk_L_7)
  have ejad : jad X = ad := by rw [hX]
  have hkl := k_look (x := x) (w := w) hS hf (X.2.1) hE.2.2.2.2.2.2.2.1.2.2.2.2 (jad X) (jD X) (jC X) (jM X) s0.heap.size
  have htv : ([(19, ((0 : Nat) : Int)), (0, x), (0, w)] : List AV).map (tv (jad X)) = [.ref (jad X 0), .int (Int32.ofInt x), .int (Int32.ofInt w)] := by
    rw [List.map_cons, List.map_cons, List.map_cons, List.map_nil, tv_0, tv_0, tv_r _ (show 2 ≤ 19 by omega), Int.toNat_natCast]
  rw [htv] at hkl
  have hAs := Aw_sub (H := s0.heap) hE.2.2.2.2.2.2.2.2.2.2.2.1 hE.2.2.2.2.2.2.2.2.2.2.2.2 hS0.2.2.1.1
  have hnc : va_Nc "java/util/NoSuchElementException" "java/lang/IndexOutOfBoundsException" s0 := by
    obtain ⟨adV, -, -, -, -, -, y5⟩ := hR.2.2.2.2
    exact y5
  have thrown : ∀ (T : Int) (H : Heap) (locs : List Loc), (T = 1 ∨ T = 2) → lkT pp x w = T → ST X M H locs → ∀ (ls : Array Slot) (pc : Nat), decode method_3_code pc = .ok (.ireturn, 1) → xW X H locs 1 16 (F0 (jm X) pc ls [.int (Int32.ofInt T)]) := fun T H locs hT1 hT hS' ls pc hd => by
    have := hRT pc [(0, T)] ls M H locs 1 16 ⟨hd, Or.inl rfl⟩ (fun v hv => by
      rcases List.mem_cons.mp hv with h | hv
      · rw [h]; exact vok_0.mpr (by unfold in32; omega)
      · cases hv) ⟨T, rfl, hT.symm, Fp.rf, fun z => by omega⟩ hS' (by rw [hX]; exact Nat.le_refl 1) (by rw [hX]; exact Nat.le_refl 16)
    exact this
  have goal0 : xW X s0.heap [] 0 0 (F0 (jm X) 0 ls []) := by
    refine lv_aload_n (x := jad X 93) hE.1 hE.2.1 (show decode method_3_code 0 = .ok (.aload_n 3, 1) by decide +kernel) rfl (by rw [ejad]; exact lv_at hl 3 rfl) ?_
    refine lv_iconst (v := Int32.ofInt 0) hE.1 hE.2.1 (show decode method_3_code 1 = .ok (.iconst 0, 1) by decide +kernel) rfl ?_
    refine lv_aload_n (x := jad X 0) hE.1 hE.2.1 (show decode method_3_code 2 = .ok (.aload_n 0, 1) by decide +kernel) rfl (by rw [ejad]; exact lv_at hl 0 rfl) ?_
    refine lv_iload_n (x := Int32.ofInt x) hE.1 hE.2.1 (show decode method_3_code 3 = .ok (.iload_n 1, 1) by decide +kernel) rfl (lv_at hl 1 rfl) ?_
    refine lv_iload_n (x := Int32.ofInt w) hE.1 hE.2.1 (show decode method_3_code 4 = .ok (.iload_n 2, 1) by decide +kernel) rfl (lv_at hl 2 rfl) ?_
    have hr := vx_runV (C := RX10) (As := [.int (Int32.ofInt x), .int (Int32.ofInt w)]) (rest := [.int (Int32.ofInt 0), .ref (jad X 93)]) (cells := 0) (slots := 0) (locs := []) (H := s0.heap) (below := jb X) (p := jp X) (l := X.2.1) (e := je X) (meth := jt X) (g := F0 (jm X) 5 ls [.int (Int32.ofInt w), .int (Int32.ofInt x), .ref (jad X 0), .int (Int32.ofInt 0), .ref (jad X 93)]) hcf hkl ⟨hcb, hgE _ in_m10_look, hgE _ se_m10_look⟩ ⟨FB, hrec, fun U hU hW => ⟨rfl, hPU U hU hW⟩⟩ rfl rfl hL.1.1 rfl (Nat.le_of_ble_eq_true rfl) (show decode method_3_code 5 = .ok (.invokevirtual 7, 3) by decide +kernel) (by rw [hX]; exact ⟨Nat.le_of_ble_eq_true rfl, Nat.le_of_ble_eq_true rfl⟩)
    intro T hT X0
    rcases hr T hT X0 with ⟨v, st₀, t, T', L, h0, X', hLo, e1, e2, ⟨v', M', q1, q2, ⟨r, rfl, r1, r2, r3⟩, q4, q5, q6, q7, q8⟩, stp⟩ | ⟨q, st₀, t, T', L, E', ce, h0, X', hLo, e1, e2, ⟨hE1, hPx, hDx, hFx⟩, hce, hcv, hcl, stp⟩
    · have hv' : v = some (tv (jad X) (0, r)) := by cases q1; rfl
      subst hv'
      have hF := q8
      rw [show va_F (Aw (jad X) s0.heap.size) st₀ t = (st₀.heap.size ≤ t.heap.size ∧ ∀ q : Nat, q < st₀.heap.size → ¬ Aw (jad X) s0.heap.size q → t.heap[q]? = st₀.heap[q]?) from rfl, h0] at hF
      have hS' : ST X M' T'.heap ([] ++ L) := by
        refine ⟨by rw [e1]; exact q4, q5.weaken (fun k q _ h => hAs q.1 h), ⟨Nat.le_trans hS0.2.2.1.1 (by rw [e1]; exact hF.1), fun q h1 h2 => ?_, fun q hq => ?_⟩, q6⟩
        · rw [e1, hF.2 q (Nat.lt_of_lt_of_le h1 hS0.2.2.1.1) (fun z => h2 (hAs q z))]
          exact hS0.2.2.1.2.1 q h1 h2
        · rcases List.mem_append.mp hq with h | h
          · cases h
          · exact hAs _ (hLo q h)
      have hA := hl_tail (x := x) (w := w) (r := r) (M' := M') (K := KH pp nf s F ag M x w) ⟨0, rfl, r2.symm, (r3.mono (fun k j z => Or.inl z) : Fp lkf M M').set (Or.inr rfl), fun _ => by rw [mset_s]; exact r1⟩
      have hx := hA X ls T'.heap ([] ++ L) (0 + 1) (0 + 16) hE hS' hL (fun v hv => by
        rcases List.mem_cons.mp hv with h | hv
        · exact h ▸ q7 _ List.mem_cons_self
        rcases List.mem_cons.mp hv with h | hv
        · rw [h]; exact vok_0.mpr (by unfold in32; omega)
        rcases List.mem_cons.mp hv with h | hv
        · exact h ▸ hv93
        · cases hv) hRT (by rw [hX]; exact Nat.le_refl 1) (by rw [hX]; exact Nat.le_refl 16)
      have e3 : ([(0, r), (0, 0), (32, ((93 : Nat) : Int))] : List AV).map (tv (jad X)) = [tv (jad X) (0, r), .int (Int32.ofInt 0), .ref (jad X 93)] := by
        rw [List.map_cons, List.map_cons, List.map_cons, List.map_nil, tv_0 _ 0, tv_r _ (show 2 ≤ 32 by omega), Int.toNat_natCast]
      rw [e3] at hx
      obtain ⟨t2, a1, b1⟩ := hx T' rfl X'
      exact ⟨t2, stp t2 a1, b1⟩
    · have hF := hFx
      rw [show va_F (Aw (jad X) s0.heap.size) st₀ t = (st₀.heap.size ≤ t.heap.size ∧ ∀ q : Nat, q < st₀.heap.size → ¬ Aw (jad X) s0.heap.size q → t.heap[q]? = st₀.heap[q]?) from rfl, h0] at hF
      have hS' : ST X M T'.heap ([] ++ L) := by
        refine ⟨by rw [e1]; exact hPx, hDx.weaken (fun k q _ h => hAs q.1 h), ⟨Nat.le_trans hS0.2.2.1.1 (by rw [e1]; exact hF.1), fun q h1 h2 => ?_, fun q hq => ?_⟩, hS0.2.2.2⟩
        · rw [e1, hF.2 q (Nat.lt_of_lt_of_le h1 hS0.2.2.1.1) (fun z => h2 (hAs q z))]
          exact hS0.2.2.1.2.1 q h1 h2
        · rcases List.mem_append.mp hq with h | h
          · cases h
          · exact hAs _ (hLo q h)
      have hce' : T'.heap[q]? = some ce := by rw [e1]; exact hce
      have ejs : js X = s0 := by rw [hX]
      have ejc : jc X = c := by rw [hX]
      have htab' : (jc X).exceptionTable.toList = [⟨0, 10, 13, 13⟩, ⟨0, 10, 17, 15⟩] := by rw [ejc, htab]; rfl
      have vw : vx_W (jp X) (X.2.1) (je X) (jR X) (js X) (jm X) (ja X) (jb X) (jt X) (jc X) T'.heap ([] ++ L) (0 + 1) (0 + 16) (jQ X) (F0 (jm X) 5 ls [.int (Int32.ofInt 0), .ref (jad X 93)]) q := by
        rcases hE1 with ⟨rfl, hT1⟩ | ⟨rfl, hT2⟩
        · refine vx_catch (own := RL) (name := "java/lang/IndexOutOfBoundsException") (by rw [hX]; exact hown) [] ⟨0, 10, 13, 13⟩ [⟨0, 10, 17, 15⟩] htab' (fun z hz => by cases hz) (by decide) (by decide) (hgE _ cl_io) (cast_self (hgE _ ii_io)) hce' hcv hcl ?_
          refine lv_astore (x := q) hE.1 hE.2.1 (show decode method_3_code 13 = .ok (.astore 4, 2) by decide +kernel) hl (by omega) rfl (fun ls2 hl2 => ?_)
          refine lv_iconst (v := Int32.ofInt 1) hE.1 hE.2.1 (show decode method_3_code 15 = .ok (.iconst 1, 1) by decide +kernel) rfl ?_
          exact thrown 1 _ _ (Or.inl rfl) hT1 hS' ls2 16 (by decide +kernel)
        · refine vx_catch (own := RL) (name := "java/util/NoSuchElementException") (by rw [hX]; exact hown) [⟨0, 10, 13, 13⟩] ⟨0, 10, 17, 15⟩ [] htab' (fun z hz => ?_) (by decide) (by decide) (hgE _ cl_ns) (cast_self (hgE _ ii_ns)) hce' hcv hcl ?_
          · rcases List.mem_cons.mp hz with h | hz
            · rw [h]
              exact Or.inr ⟨by decide, "java/lang/IndexOutOfBoundsException", hgE _ cl_io, by rw [ejs]; exact hnc⟩
            · cases hz
          refine lv_astore (x := q) hE.1 hE.2.1 (show decode method_3_code 17 = .ok (.astore 4, 2) by decide +kernel) hl (by omega) rfl (fun ls2 hl2 => ?_)
          refine lv_iconst (v := Int32.ofInt 2) hE.1 hE.2.1 (show decode method_3_code 19 = .ok (.iconst 2, 1) by decide +kernel) rfl ?_
          exact thrown 2 _ _ (Or.inr rfl) hT2 hS' ls2 20 (by decide +kernel)
      obtain ⟨t2, a1, b1⟩ := vw T' rfl X'
      exact ⟨t2, stp.trans a1, b1⟩
  rw [hX] at goal0
  exact goal0
end HLOOK
