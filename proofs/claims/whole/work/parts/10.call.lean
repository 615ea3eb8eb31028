/-! contracts, over A: a method's own, and a call of it -/
def wsM (mt : MT) : List Cond := .code mt.1 mt.2.1 mt.2.2.1 mt.2.2.2 :: gtb
def rmM (d al : Nat) : Room := { frames := d + 3, cells := al, slots := 16 * al, locals := 64 * d + 192 }
def Aw (ad : Nat → Nat) (sz : Nat) : Nat → Prop := fun q => (∃ k, k < NW ∧ q = ad k) ∨ sz ≤ q
def PU (ad : Nat → Nat) (dd : va_G) (cs : CS) (SM : Mem) (args : List AV) (M : Mem) (sz : Nat) (U : State) : Prop :=
  U.heap.size = sz ∧ va_P dd wcl (wl ad cs M) U.heap ∧ va_K dd wcl (atys cs) U ∧ va_D (fun _ => True) (wl ad cs M) ∧ (∀ w ∈ nstW, va_Nw w U) ∧ RS ad SM (Aw ad sz) U U.heap ∧ MR SM M ∧ ∀ v ∈ args, vok v
def QU (ad : Nat → Nat) (dd : va_G) (cs : CS) (SM : Mem) (K : List AV → Mem → Prop) (sz : Nat) (_ : Array Value) (st : State) (oc : Outcome) (t : State) : Prop :=
  ∃ (v : List AV) (M' : Mem), oc = .returned ((v.map (tv ad)).head?) ∧ v.length ≤ 1 ∧ K v M' ∧ va_P dd wcl (wl ad cs M') t.heap ∧ va_D (Aw ad sz) (wl ad cs M') ∧ MR SM M' ∧ (∀ x ∈ v, vok x) ∧ va_F (Aw ad sz) st t
/-- THE CONTRACT: with these arguments and this memory it returns, and K holds of what it returns and of the memory then -/
def Ct (mt : MT) (d al : Nat) (args : List AV) (M : Mem) (K : List AV → Mem → Prop) : Prop :=
  ∀ (l : Launch) (ad : Nat → Nat) (dd : va_G) (cs : CS) (SM : Mem) (sz : Nat), l.stackTraces = false → Met l mt.1 (wsM mt) (rmM d al) (va_Pc (args.map (tv ad)) (PU ad dd cs SM args M sz)) (QU ad dd cs SM K sz) al (16 * al) (Aw ad sz)
def ents : List AV → List AV
  | [] => []
  | v :: l => if v.1 = 1 then v :: (2, 0) :: ents l else v :: ents l
def entL (mt : MT) (args : List AV) : List AV := ents args ++ List.replicate (mt.2.2.1 - (ents args).length) (2, 0)
theorem ents_len (ad : Nat → Nat) : ∀ l : List AV, (lg_sl (l.map (tv ad))).length = (ents l).length
  | [] => rfl
  | v :: l => by
    have ih := ents_len ad l
    unfold lg_sl at ih ⊢
    rw [List.map_cons, List.flatMap_cons, List.length_append, ih, tv_cat, show ents (v :: l) = if v.1 = 1 then v :: (2, 0) :: ents l else v :: ents l from rfl]
    by_cases h : v.1 = 1
    · rw [if_pos h, if_pos h, if_pos rfl, List.length_cons, List.length_cons]; simp only [List.length_cons, List.length_nil]; omega
    · rw [if_neg h, if_neg h, if_neg (by omega), List.length_cons]; simp only [List.length_cons, List.length_nil]; omega
theorem ents_mem (ad : Nat → Nat) : ∀ (l : List AV) (i : Nat) (q : Nat × Value), q ∈ lav ad i (ents l) → q ∈ lv_args i (l.map (tv ad))
  | [], i, q, h => by simp [ents, lav] at h
  | v :: l, i, q, h => by
    rw [List.map_cons]
    unfold lv_args
    rw [tv_cat]
    unfold ents at h
    by_cases h1 : v.1 = 1
    · rw [if_pos h1] at h
      rw [if_pos (by rw [if_pos h1])]
      unfold lav at h
      rw [if_neg (by omega)] at h
      rcases List.mem_cons.mp h with e | e
      · rw [e]; exact List.mem_cons_self
      · unfold lav at e
        rw [if_pos rfl] at e
        exact List.mem_cons_of_mem _ (ents_mem ad l (i + 1 + 1) q e)
    · rw [if_neg h1] at h
      rw [if_neg (by rw [if_neg h1]; omega)]
      unfold lav at h
      split at h
      · exact List.mem_cons_of_mem _ (ents_mem ad l (i + 1) q h)
      · rcases List.mem_cons.mp h with e | e
        · rw [e]; exact List.mem_cons_self
        · exact List.mem_cons_of_mem _ (ents_mem ad l (i + 1) q e)
theorem entL_mem (ad : Nat → Nat) (mt : MT) (l : List AV) : ∀ q ∈ lav ad 0 (entL mt l), q ∈ lv_args 0 (l.map (tv ad)) := by
  intro q hq
  apply ents_mem
  obtain ⟨j, v, h1, h2, h3⟩ := (lav_mem _ 0 q).mp hq
  refine (lav_mem _ 0 q).mpr ⟨j, v, ?_, h2, h3⟩
  unfold entL at h1
  by_cases hj : j < (ents l).length
  · rwa [List.getElem?_append_left hj] at h1
  · rw [List.getElem?_append_right (by omega)] at h1
    have := List.eq_of_mem_replicate (List.mem_of_getElem? h1)
    rw [this] at h2; exact absurd rfl h2
theorem ents_lok {l : List AV} (h : ∀ v ∈ l, vok v) : ∀ v ∈ ents l, lok v := by
  induction l with
  | nil => intro v hv; simp [ents] at hv
  | cons a l ih =>
    have ih := ih (fun v hv => h v (List.mem_cons_of_mem _ hv))
    intro v hv
    unfold ents at hv
    split at hv
    · rcases List.mem_cons.mp hv with e | e
      · exact Or.inr (e ▸ h a List.mem_cons_self)
      · rcases List.mem_cons.mp e with e | e
        · rw [e]; exact Or.inl rfl
        · exact ih v e
    · rcases List.mem_cons.mp hv with e | e
      · exact Or.inr (e ▸ h a List.mem_cons_self)
      · exact ih v e
theorem entL_lok {mt : MT} {l : List AV} (h : ∀ v ∈ l, vok v) : ∀ v ∈ entL mt l, lok v := by
  intro v hv
  rcases List.mem_append.mp hv with e | e
  · exact ents_lok h v e
  · rw [List.eq_of_mem_replicate e]; exact Or.inl rfl
theorem Aw_D {ad : Nat → Nat} {cs : CS} {M : Mem} {A : Nat → Prop} {sz : Nat} (h : va_D A (wl ad cs M)) : va_D (Aw ad sz) (wl ad cs M) :=
  ⟨h.1, fun k q hq => by obtain ⟨h1, h2⟩ := wl_some hq; rw [h2]; exact Or.inl ⟨k, h1, rfl⟩⟩
set_option maxHeartbeats 1000000 in
theorem Ct_of_A {mt : MT} {d al : Nat} {args : List AV} {M : Mem} {K : List AV → Mem → Prop} (hy : plainName mt.1.cls = true) (hlen : (ents args).length ≤ mt.2.2.1) (h : A mt d al 0 (entL mt args) [] M K) : Ct mt d al args M K := by
  intro l ad dd cs SM sz hfl
  refine Met.ofW (cc := mt.2.1) (maxL := mt.2.2.1) (ret := mt.2.2.2) hy rfl ?_
  intro p e s m args' below meth c s₁ B hml hv
  obtain ⟨rfl, hsz, hP, hK, hD, hN, hR, hM, hvok⟩ := hv
  have hts := atoms_spec (ws := wsM mt) B.pre
  rw [lg_entry_eq]
  refine h (p, l, e, (headSpec (wsM mt) (rmM d al)).room, s, m, (args.map (tv ad)).toArray, below, meth, c, MQ below (QU ad dd cs SM K sz) (args.map (tv ad)).toArray s al (16 * al) (Aw ad sz), Aw ad sz, ad, dd, cs, SM, al, 16 * al) _ s.heap [] 0 0 ?_ ?_ ?_ ?_ ?_ ?_ ?_
  · exact ⟨B.exec, B.bytes, hml, B.returns, B.notSynchronized, findClass_of_methodNamed B.named, fun w hw hg => hts w (List.mem_cons_of_mem _ (gtb_in hw hg)), ⟨Nat.le_refl (d + 3), Nat.le_refl (64 * d + 192), Nat.le_refl al, Nat.le_refl (16 * al), hfl⟩, hK, hN, hR, fun k hk => Or.inl ⟨k, hk, rfl⟩, fun q hq => Or.inr (hsz ▸ hq)⟩
  · exact ⟨hP, Aw_D hD, va_S.rf, hM⟩
  · exact ⟨lv_mono (lv_entry _ (by rw [ents_len]; exact hlen)) (entL_mem ad mt args), entL_lok hvok⟩
  · intro v hv; cases hv
  · intro pc v jl M' H' locs cells slots hret hvv hKv hS hc hs
    have hq : ∀ (r : Option Value), r = (v.map (tv ad)).head? → v.length ≤ 1 → ∀ t : State, t.heap = H' → s.WarmedH t.vm → QU ad dd cs SM K sz (args.map (tv ad)).toArray s (.returned r) t := fun r hr hl t ht hW =>
      ⟨v, M', by rw [hr], hl, hKv, by rw [ht]; exact hS.1, hS.2.1, hS.2.2.2, hvv, va_S.F hS.2.2.1 ht⟩
    refine W.widen hc hs ?_
    match v, hret, hq with
    | [], ⟨hd, hr⟩, hq => exact W.vret B.exec B.bytes (B.returns.trans hr) (hq none rfl (by simp)) hS.2.2.1.2.2 hd B.notSynchronized
    | (0, x) :: [], ⟨hd, hr⟩, hq =>
      rcases hr with hr | ⟨hr, hx⟩
      · exact W.iret B.exec B.bytes (B.returns.trans hr) (hq _ rfl (by simp)) hS.2.2.1.2.2 hd B.notSynchronized
      · exact W.zret B.exec B.bytes (B.returns.trans hr) (by rcases hx with rfl | rfl <;> rfl) (hq _ rfl (by simp)) hS.2.2.1.2.2 hd B.notSynchronized
    | (1, x) :: [], ⟨hd, hr⟩, hq => exact W.lret B.exec B.bytes (B.returns.trans hr) (hq _ rfl (by simp)) hS.2.2.1.2.2 hd B.notSynchronized
  · exact Nat.le_of_eq (Nat.zero_add al)
  · exact Nat.le_of_eq (Nat.zero_add _)
/-- what the tables say of a method that is called -/
def CV (y : MT) (n : Nat) : Prop := Cond.code y.1 y.2.1 y.2.2.1 y.2.2.2 ∈ gtb ∧ Cond.initialized y.1.cls ∈ gtb ∧ (y.1.cls ≠ "java/lang/invoke/MethodHandle" ∧ y.1.cls ≠ "java/lang/invoke/VarHandle") ∧ (parseMethodDescriptor y.1.desc).map (fun d => d.parameters.length) = some n ∧ y.2.2.1 ≤ 40
theorem goods (ws : List Cond) (h : ∀ w ∈ ws, w ∈ gtb) : GoodIn gtb ws := fun w hw => ⟨h w hw, good_of_word (List.mem_filter.mp (h w hw)).2⟩
theorem wsM_in {y : MT} {n : Nat} (h : CV y n) : GoodIn gtb (wsM y) := goods _ (fun w hw => by
  rcases List.mem_cons.mp hw with e | e
  · rw [e]; exact h.1
  · exact e)
def acs (st : List AV) : Nat := (st.map (fun v => if v.1 = 1 then 2 else 1)).sum
theorem acs_eq (ad : Nat → Nat) (st : List AV) : ((st.map (tv ad)).map fun v => v.category).sum = acs st := by
  unfold acs
  rw [List.map_map]
  congr 1
  apply List.map_congr_left
  intro v _
  exact tv_cat ad v
theorem FB {ad : Nat → Nat} {dd : va_G} {cs : CS} {SM : Mem} {args : List AV} {M : Mem} {sz : Nat} {av : List Value} : FrameBlind (va_Pc av (PU ad dd cs SM args M sz)) := by
  intro a U g mk h
  obtain ⟨h0, h1, h2, h3, h4, h5, h6, h7, h8⟩ := h
  exact ⟨h0, h1, h2, va_K.moved (u := U) (U := U.calling g mk a) (Vm.Alike.refl U.vm) h3, h4, fun w hw => va_Nw.same (u := U) (U := U.calling g mk a) (by
    have : ∀ w ∈ nstW, w.onTables = true := by decide +kernel
    exact this w hw) rfl (h5 w hw), h6.calling rfl, h7, h8⟩
theorem nst_warm {s U : State} (hW : s.WarmedH U.vm) (h : ∀ w ∈ nstW, va_Nw w s) : ∀ w ∈ nstW, va_Nw w U := by
  intro w hw
  have h1 := h w hw
  have h2 : ∃ a i x q, w = .methodLinkNest a i x q := by
    have : ∀ w ∈ nstW, (match w with | .methodLinkNest .. => true | _ => false) = true := by decide +kernel
    have h3 := this w hw
    split at h3
    · exact ⟨_, _, _, _, rfl⟩
    · cases h3
  obtain ⟨a, i, x, q, rfl⟩ := h2
  exact va_Nw.warmM hW h1
section CALL
variable {mt y : MT} {d d' al al' pc idx n : Nat} {ls st args : List AV} {M : Mem} {K K' : List AV → Mem → Prop}
theorem Aw_sub {X : JC} {H : Heap} (h1 : ∀ k, k < NW → jA X (jad X k)) (h2 : ∀ q, (js X).heap.size ≤ q → jA X q) (hz : (js X).heap.size ≤ H.size) : ∀ q, Aw (jad X) H.size q → jA X q := by
  rintro q (⟨k, hk, rfl⟩ | hq)
  · exact h1 k hk
  · exact h2 q (Nat.le_trans hz hq)
theorem PU_at {X : JC} {H : Heap} {locs : List Loc} (hE : EN mt d X) (hS : ST X M H locs) (hv : ∀ v ∈ args, vok v) : ∀ U : State, U.heap = H → (js X).WarmedH U.vm → PU (jad X) (jD X) (jC X) (jM X) args M H.size U := by
  intro U hU hW
  refine ⟨by rw [hU], by rw [hU]; exact hS.1, va_K.moved hW.alike hE.2.2.2.2.2.2.2.2.1, hS.2.1.weaken (fun _ _ _ _ => trivial), nst_warm hW hE.2.2.2.2.2.2.2.2.2.1, ?_, hS.2.2.2, hv⟩
  rw [hU]
  exact hE.2.2.2.2.2.2.2.2.2.2.1.move hS.2.2.1 hW (Aw_sub hE.2.2.2.2.2.2.2.2.2.2.2.1 hE.2.2.2.2.2.2.2.2.2.2.2.2 hS.2.2.1.1)
/-- behind a call -/
theorem A_after {X : JC} {jl : Array Slot} {H : Heap} {locs : List Loc} {cells slots : Nat} {st0 : List Value} {a : Array Value} (hE : EN mt d X) (hS : ST X M H locs) (hL : LSX X mt ls jl) (hv : ∀ v ∈ st, vok v) (hR : RT X mt K') (hc : cells + al ≤ jk X) (hs : slots + 16 * al ≤ jn X) (hal : al' ≤ al)
    (hr : va_Run (jp X) (X.2.1) (je X) (jR X) (js X) (jm X) (ja X) (jb X) (jt X) (jc X) H locs cells slots al' (16 * al') (F0 (jm X) pc jl st0) (st.map (tv (jad X))) (QU (jad X) (jD X) (jC X) (jM X) K H.size a) (Aw (jad X) H.size))
    (kk : ∀ v M', K v M' → (∀ x ∈ v, vok x) → A mt d (al - al') (pc + 3) ls (v ++ st) M' K') : xW X H locs cells slots (F0 (jm X) pc jl st0) := by
  intro T hT X0
  obtain ⟨v, st₀, t, T', L, h0, X', hLo, e1, e2, ⟨v', M', q1, q2, q3, q4, q5, q6, q7, q8⟩, stp⟩ := hr T hT X0
  have hv' : v = (v'.map (tv (jad X))).head? := by cases q1; rfl
  have hAs := Aw_sub (H := H) hE.2.2.2.2.2.2.2.2.2.2.2.1 hE.2.2.2.2.2.2.2.2.2.2.2.2 hS.2.2.1.1
  have hl : v.toList ++ st.map (tv (jad X)) = (v' ++ st).map (tv (jad X)) := by
    rw [hv', List.map_append]
    congr 1
    match v', q2 with
    | [], _ => rfl
    | [w], _ => rfl
  have hF := q8
  rw [show va_F (Aw (jad X) H.size) st₀ t = (st₀.heap.size ≤ t.heap.size ∧ ∀ q : Nat, q < st₀.heap.size → ¬ Aw (jad X) H.size q → t.heap[q]? = st₀.heap[q]?) from rfl, h0] at hF
  have hS' : ST X M' T'.heap (locs ++ L) := by
    refine ⟨by rw [e1]; exact q4, q5.weaken (fun k q _ h => hAs q.1 h), ⟨Nat.le_trans hS.2.2.1.1 (by rw [e1]; exact hF.1), fun q h1 h2 => ?_, fun q hq => ?_⟩, q6⟩
    · rw [e1, hF.2 q (Nat.lt_of_lt_of_le h1 hS.2.2.1.1) (fun z => h2 (hAs q z))]
      exact hS.2.2.1.2.1 q h1 h2
    · rcases List.mem_append.mp hq with h | h
      · exact hS.2.2.1.2.2 q h
      · exact hAs _ (hLo q h)
  have hk := kk v' M' q3 q7 X jl T'.heap (locs ++ L) (cells + al') (slots + 16 * al') hE hS' hL (fun w hw => (List.mem_append.mp hw).elim (q7 w) (hv w)) hR (by omega) (by omega)
  rw [← hl] at hk
  obtain ⟨t2, a1, b1⟩ := hk T' rfl X'
  exact ⟨t2, stp t2 a1, b1⟩
theorem room_ok {X : JC} (hE : EN mt d X) (hcv : CV y n) (hd : d' < d) : (rmM d' al').frames + 1 ≤ (jR X).frames ∧ 8 + (y.2.2.1 + 11) + (rmM d' al').locals ≤ (jR X).locals := by
  obtain ⟨h1, h2, -⟩ := hE.2.2.2.2.2.2.2.1
  have h3 := hcv.2.2.2.2
  simp only [rmM]
  omega
theorem cb_of {X : JC} {own : String} (hE : EN mt d X) (hcv : CV y n) (hd : d' < d) (hl : (Cond.methodLink own idx y.1).before (ja X) (js X) = true) : CallB (jR X) (js X) (ja X) own idx y.1 y.2.1 y.2.2.1 y.2.2.2 (wsM y) (rmM d' al') al' (16 * al') n := by
  have hts := gtb_hts hE
  exact callB_of (ws' := gtb) n hts (wsM_in hcv) rfl rfl rfl (hts _ hcv.2.1) hl ⟨hcv.2.2.1.1, hcv.2.2.1.2, hcv.2.2.2.1⟩ (room_ok hE hcv hd)
theorem cn_of {X : JC} {own host : String} (hE : EN mt d X) (hcv : CV y n) (hd : d' < d) (hl : Cond.methodLinkNest own idx y.1 host ∈ nstW) : va_CN (jR X) (js X) (ja X) own idx y.1 host y.2.1 y.2.2.1 y.2.2.2 (wsM y) (rmM d' al') al' (16 * al') n := by
  have hts := gtb_hts hE
  exact va_cnB (ws' := gtb) n hts (wsM_in hcv) rfl rfl rfl (hE.2.2.2.2.2.2.2.2.2.1 _ hl) (hts _ hcv.2.1) ⟨hcv.2.2.1.1, hcv.2.2.1.2, hcv.2.2.2.1⟩ (room_ok hE hcv hd)
theorem cf_of {X : JC} (hE : EN mt d X) : CallFix (jp X) (jm X) (jc X) mt.2.1 mt.2.2.1 (js X) (ja X) gtb mt.1.cls := ⟨hE.1, hE.2.1, hE.2.2.1, hE.2.2.2.2.2.1, gtb_hts hE⟩
/-- a call of a static method -/
theorem A_callS (h : decode mt.2.1 pc = .ok (.invokestatic idx, 3)) (hcv : CV y n) (hst : Cond.static y.1 ∈ gtb) (hlk : Cond.methodLink mt.1.cls idx y.1 ∈ gtb) (hn : args.length = n) (hd : d' < d) (hal : al' ≤ al) (hr8 : acs st ≤ 8)
    (hC : Ct y d' al' args M K') (kk : ∀ v M', K' v M' → (∀ x ∈ v, vok x) → A mt d (al - al') (pc + 3) ls (v ++ st) M' K) : A mt d al pc ls (args.reverse ++ st) M K := by
  intro X jl H locs cells slots hE hS hL hv hR hc hs
  have hva : ∀ v ∈ args, vok v := fun v h => hv v (List.mem_append.mpr (Or.inl (List.mem_reverse.mpr h)))
  refine A_after hE hS hL (fun v h => hv v (List.mem_append.mpr (Or.inr h))) hR hc hs hal (va_runS (cf_of hE) (hC (X.2.1) (jad X) (jD X) (jC X) (jM X) H.size hE.2.2.2.2.2.2.2.1.2.2.2.2) ⟨cb_of hE hcv hd (gtb_hts hE _ hlk), gtb_hts hE _ hst⟩ ⟨FB, fun U hU hW => ⟨rfl, PU_at hE hS hva U hU hW⟩⟩ rfl (by rw [List.length_map]; exact hn) hL.1.1 (by rw [List.map_append, List.map_reverse]) (lv_room (by rw [acs_eq]; exact hr8)) h ⟨?_, ?_⟩) kk
  · have := hE.2.2.2.2.2.2.2.1.2.2.1; omega
  · have := hE.2.2.2.2.2.2.2.1.2.2.2.1; omega
theorem A_callSN {host : String} (h : decode mt.2.1 pc = .ok (.invokestatic idx, 3)) (hcv : CV y n) (hst : Cond.static y.1 ∈ gtb) (hlk : Cond.methodLinkNest mt.1.cls idx y.1 host ∈ nstW) (hn : args.length = n) (hd : d' < d) (hal : al' ≤ al) (hr8 : acs st ≤ 8)
    (hC : Ct y d' al' args M K') (kk : ∀ v M', K' v M' → (∀ x ∈ v, vok x) → A mt d (al - al') (pc + 3) ls (v ++ st) M' K) : A mt d al pc ls (args.reverse ++ st) M K := by
  intro X jl H locs cells slots hE hS hL hv hR hc hs
  have hva : ∀ v ∈ args, vok v := fun v h => hv v (List.mem_append.mpr (Or.inl (List.mem_reverse.mpr h)))
  refine A_after hE hS hL (fun v h => hv v (List.mem_append.mpr (Or.inr h))) hR hc hs hal (va_runSN (cf_of hE) (hC (X.2.1) (jad X) (jD X) (jC X) (jM X) H.size hE.2.2.2.2.2.2.2.1.2.2.2.2) ⟨cn_of hE hcv hd hlk, gtb_hts hE _ hst, trivial⟩ ⟨FB, fun U hU hW => ⟨rfl, PU_at hE hS hva U hU hW⟩⟩ rfl (by rw [List.length_map]; exact hn) hL.1.1 (by rw [List.map_append, List.map_reverse]) (lv_room (by rw [acs_eq]; exact hr8)) h ⟨?_, ?_⟩) kk
  · have := hE.2.2.2.2.2.2.2.1.2.2.1; omega
  · have := hE.2.2.2.2.2.2.2.1.2.2.2.1; omega
theorem xrecv_of {X : JC} {H : Heap} {locs : List Loc} {ci : Nat} {o : Int} {q : vw_C} (hE : EN mt d X) (hS : ST X M H locs) (hq : wcl[ci]? = some q) (ho : vok (10 + ci, o)) : ∃ cell : Cell, H[jad X o.toNat]? = some cell ∧ cell.vm.isStatics = false ∧ (js X).vm.findClass q.1 = some cell.cls := by
  have hci := ci_lt hq
  obtain ⟨-, ho0, ho1, hko⟩ := (vok_r (by omega)).mp ho
  have hnw := kd_obj hko hci
  exact va_recv hE.2.2.2.2.2.2.2.2.1 hS.1 hq (q0 := o.toNat) (by rw [wl_get hnw, ent_o hko (by omega), Nat.add_sub_cancel_left])
/-- a call of an instance's method -/
theorem A_callV {ci : Nat} {o : Int} {q : vw_C} (h : decode mt.2.1 pc = .ok (.invokevirtual idx, 3)) (hcv : CV y n) (hq : wcl[ci]? = some q) (hqy : y.1.cls = q.1) (hin : Cond.instanceMethod y.1 ∈ gtb) (hse : Cond.selects y.1.cls y.1 y.1 ∈ gtb) (hlk : Cond.methodLink mt.1.cls idx y.1 ∈ gtb) (hn : args.length = n) (hd : d' < d) (hal : al' ≤ al) (hr8 : acs st ≤ 8)
    (hC : Ct y d' al' ((10 + ci, o) :: args) M K') (kk : ∀ v M', K' v M' → (∀ x ∈ v, vok x) → A mt d (al - al') (pc + 3) ls (v ++ st) M' K) : A mt d al pc ls (args.reverse ++ (10 + ci, o) :: st) M K := by
  intro X jl H locs cells slots hE hS hL hv hR hc hs
  have hvo : vok (10 + ci, o) := hv _ (List.mem_append.mpr (Or.inr List.mem_cons_self))
  have hva : ∀ v ∈ (10 + ci, o) :: args, vok v := vk_c hvo (fun v h => hv v (List.mem_append.mpr (Or.inl (List.mem_reverse.mpr h))))
  have htv : tv (jad X) (10 + ci, o) = .ref (jad X o.toNat) := tv_r _ (by omega)
  have hM := hC (X.2.1) (jad X) (jD X) (jC X) (jM X) H.size hE.2.2.2.2.2.2.2.1.2.2.2.2
  rw [List.map_cons, htv] at hM
  refine A_after hE hS hL (fun v h => hv v (List.mem_append.mpr (Or.inr (List.mem_cons_of_mem _ h)))) hR hc hs hal (va_runV (C := y.1.cls) (cf_of hE) hM ⟨cb_of hE hcv hd (gtb_hts hE _ hlk), gtb_hts hE _ hin, gtb_hts hE _ hse⟩ ⟨FB, by rw [hqy]; exact xrecv_of hE hS hq hvo, fun U hU hW => ⟨rfl, PU_at hE hS hva U hU hW⟩⟩ rfl (by rw [List.length_map]; exact hn) hL.1.1 (by rw [List.map_append, List.map_reverse, List.map_cons, htv]) (lv_room (by rw [acs_eq]; exact hr8)) h ⟨?_, ?_⟩) kk
  · have := hE.2.2.2.2.2.2.2.1.2.2.1; omega
  · have := hE.2.2.2.2.2.2.2.1.2.2.2.1; omega
theorem A_callVN {ci : Nat} {o : Int} {q : vw_C} {host : String} (h : decode mt.2.1 pc = .ok (.invokevirtual idx, 3)) (hcv : CV y n) (hq : wcl[ci]? = some q) (hqy : y.1.cls = q.1) (hin : Cond.instanceMethod y.1 ∈ gtb) (hse : Cond.selects y.1.cls y.1 y.1 ∈ gtb) (hlk : Cond.methodLinkNest mt.1.cls idx y.1 host ∈ nstW) (hn : args.length = n) (hd : d' < d) (hal : al' ≤ al) (hr8 : acs st ≤ 8)
    (hC : Ct y d' al' ((10 + ci, o) :: args) M K') (kk : ∀ v M', K' v M' → (∀ x ∈ v, vok x) → A mt d (al - al') (pc + 3) ls (v ++ st) M' K) : A mt d al pc ls (args.reverse ++ (10 + ci, o) :: st) M K := by
  intro X jl H locs cells slots hE hS hL hv hR hc hs
  have hvo : vok (10 + ci, o) := hv _ (List.mem_append.mpr (Or.inr List.mem_cons_self))
  have hva : ∀ v ∈ (10 + ci, o) :: args, vok v := vk_c hvo (fun v h => hv v (List.mem_append.mpr (Or.inl (List.mem_reverse.mpr h))))
  have htv : tv (jad X) (10 + ci, o) = .ref (jad X o.toNat) := tv_r _ (by omega)
  have hM := hC (X.2.1) (jad X) (jD X) (jC X) (jM X) H.size hE.2.2.2.2.2.2.2.1.2.2.2.2
  rw [List.map_cons, htv] at hM
  refine A_after hE hS hL (fun v h => hv v (List.mem_append.mpr (Or.inr (List.mem_cons_of_mem _ h)))) hR hc hs hal (va_runVN (C := y.1.cls) (cf_of hE) hM ⟨cn_of hE hcv hd hlk, gtb_hts hE _ hin, gtb_hts hE _ hse⟩ ⟨FB, by rw [hqy]; exact xrecv_of hE hS hq hvo, fun U hU hW => ⟨rfl, PU_at hE hS hva U hU hW⟩⟩ rfl (by rw [List.length_map]; exact hn) hL.1.1 (by rw [List.map_append, List.map_reverse, List.map_cons, htv]) (lv_room (by rw [acs_eq]; exact hr8)) h ⟨?_, ?_⟩) kk
  · have := hE.2.2.2.2.2.2.2.1.2.2.1; omega
  · have := hE.2.2.2.2.2.2.2.1.2.2.2.1; omega
end CALL
