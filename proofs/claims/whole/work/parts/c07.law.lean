/-! the law's body (made by wip/whole/glaw.py) -/
abbrev mLaw : MT := (yL_law, code, 7, some .boolean)
theorem Ct97 {y : MT} {d al : Nat} {args : List AV} {M : Mem} {K : List AV → Mem → Prop} (h : Ct y d al args M K) : Ct y d al args M (fun v M' => K v M' ∧ ∀ k, NW ≤ k → M' k = M k) := by
  intro l ad dd cs SM sz hfl p e ha hc hk s m ar below hf hap hP hT
  obtain ⟨n, o, a1, a2, a3, ⟨v, M', q1, q2, q3, q4, q5, q6, q7, q8⟩, a5⟩ := h l ad dd cs SM sz hfl p e ha hc hk s m ar below hf hap hP hT
  have hM := hP.2.2.2.2.2.2.2
  exact ⟨n, o, a1, a2, a3, ⟨v, M', q1, q2, ⟨q3, fun k hk => (q6.2.2 k hk).trans (hM.1.2.2 k hk).symm⟩, q4, q5, q6, q7, q8⟩, a5⟩
section LCALL
variable {mt y : MT} {d d' al pc idx n : Nat} {ls st args : List AV} {M : Mem} {K : List AV → Mem → Prop}
theorem L_cVi {P : Int → Mem → Prop} {ci : Nat} {o : Int} {q : vw_C} (h : decode mt.2.1 pc = .ok (.invokevirtual idx, 3)) (hcv : CV y n) (hq : wcl[ci]? = some q) (hqy : y.1.cls = q.1) (hin : Cond.instanceMethod y.1 ∈ gtb) (hse : Cond.selects y.1.cls y.1 y.1 ∈ gtb) (hlk : Cond.methodLink mt.1.cls idx y.1 ∈ gtb) (hn : args.length = n) (hd : d' < d) (hr8 : acs st ≤ 8) (hC : CI y d' ((10 + ci, o) :: args) M P) (kk : ∀ r M', P r M' → (∀ k, NW ≤ k → M' k = M k) → A mt d al (pc + 3) ls ((0, r) :: st) M' K) : A mt d al pc ls (args.reverse ++ (10 + ci, o) :: st) M K :=
  A_callV h hcv hq hqy hin hse hlk hn hd (Nat.zero_le al) hr8 (Ct97 hC) (fun v M1 hk _ => by obtain ⟨⟨r, rfl, hk⟩, h97⟩ := hk; exact kk r M1 hk h97)
theorem L_cVl {P : Int → Mem → Prop} {ci : Nat} {o : Int} {q : vw_C} (h : decode mt.2.1 pc = .ok (.invokevirtual idx, 3)) (hcv : CV y n) (hq : wcl[ci]? = some q) (hqy : y.1.cls = q.1) (hin : Cond.instanceMethod y.1 ∈ gtb) (hse : Cond.selects y.1.cls y.1 y.1 ∈ gtb) (hlk : Cond.methodLink mt.1.cls idx y.1 ∈ gtb) (hn : args.length = n) (hd : d' < d) (hr8 : acs st ≤ 8) (hC : CL y d' ((10 + ci, o) :: args) M P) (kk : ∀ r M', P r M' → (∀ k, NW ≤ k → M' k = M k) → A mt d al (pc + 3) ls ((1, r) :: st) M' K) : A mt d al pc ls (args.reverse ++ (10 + ci, o) :: st) M K :=
  A_callV h hcv hq hqy hin hse hlk hn hd (Nat.zero_le al) hr8 (Ct97 hC) (fun v M1 hk _ => by obtain ⟨⟨r, rfl, hk⟩, h97⟩ := hk; exact kk r M1 hk h97)
theorem wsH_in : GoodIn gtb wsH := goods _ (fun w hw => by
  rcases List.mem_cons.mp hw with e | e
  · rw [e]; exact cw_L_look
  · exact e)
/-- the call of the law's look -/
theorem A_hlook {pp n' nf : Nat} {s : Int} {F : FTab} {ag C : Nat → Int} {Bg E : Nat → Nat} {x w : Int} (hmt : mt.1.cls = RL) (hS : SC M pp n' s nf F ag C Bg E) (hf : SF pp s nf F) (h : decode mt.2.1 pc = .ok (.invokestatic 39, 3)) (hd : 5 < d) (hal : 1 ≤ al) (hr8 : acs st ≤ 8)
    (kk : ∀ M', Fp lkf M M' → (lkT pp x w = 0 → M' 93 0 = lkV pp nf s F ag x w) → (∀ k, NW ≤ k → M' k = M k) → A mt d (al - 1) (pc + 3) ls ((0, lkT pp x w) :: st) M' K) : A mt d al pc ls (([(19, ((0 : Nat) : Int)), (0, x), (0, w), (32, ((93 : Nat) : Int))] : List AV).reverse ++ st) M K := by
  intro X jl H locs cells slots hE hS' hL hv hR hc hs
  have hva : ∀ v ∈ ([(19, ((0 : Nat) : Int)), (0, x), (0, w), (32, ((93 : Nat) : Int))] : List AV), vok v := fun v h => hv v (List.mem_append.mpr (Or.inl (List.mem_reverse.mpr h)))
  have hts := gtb_hts hE
  have hrm : (rmM 5 1).frames + 1 ≤ (jR X).frames ∧ 8 + (5 + 11) + (rmM 5 1).locals ≤ (jR X).locals := by
    obtain ⟨h1, h2, -⟩ := hE.2.2.2.2.2.2.2.1
    simp only [rmM]
    omega
  have hM := k_hlook (x := x) (w := w) hS hf (X.2.1) hE.2.2.2.2.2.2.2.1.2.2.2.2 (jad X) (jD X) (jC X) (jM X) H.size
  refine A_after (al' := 1) (K := fun v M' => KH pp nf s F ag M x w v M') hE hS' hL (fun v h => hv v (List.mem_append.mpr (Or.inr h))) hR hc hs hal (vx_runSW (hh := hhL) (bytes := method_3_code) (maxL := 5) (ret := some .int) (n := 4) (by have := cf_of hE; rw [hmt] at this; exact this) hM ⟨⟨rfl, rfl, hrm.1, hrm.2, pay_in hts wsH_in, List.mem_cons_self⟩, hts _ cw_L_look, hts _ in_L_law, ⟨by decide, by decide⟩, fun sig hsig => ?_, hts _ lk_LL_39, hts _ st_L_look⟩ ⟨FB, fun U hU hW => ⟨rfl, PU_at hE hS' hva U hU hW⟩⟩ rfl (by rw [List.length_map]; rfl) hL.1.1 (by rw [List.map_append, List.map_reverse]) (lv_room (by rw [acs_eq]; exact hr8)) h ⟨?_, ?_⟩) (fun v M' hk hvv => ?_)
  · have e : (parseMethodDescriptor yL_look.desc).map (fun d => d.parameters.length) = some 4 := by decide +kernel
    rw [hsig] at e
    exact (Option.some.inj e).symm
  · have := hE.2.2.2.2.2.2.2.1.2.2.1; omega
  · have := hE.2.2.2.2.2.2.2.1.2.2.2.1; omega
  · obtain ⟨r, rfl, rfl, h1, h2⟩ := hk
    exact kk M' h1 h2 (fun k hk => h1.row (fun j q => by unfold lkf csp cs at q; unfold NW at hk; omega))
end LCALL
def PC2 (S : Nat → Int) (L i : Nat) (M : Mem) : Prop := INV M ∧ M 97 = S ∧ S 4000 = (L : Int) ∧ i + 6 ≤ L ∧ L ≤ 3072

theorem lc_0 {S : Nat → Int} {L i al : Nat} {M : Mem} {K : List AV → Mem → Prop} (hp : PC2 S L i M) (kk : ∀ M', INV M' → M' 97 = S → A mLaw 903 al 1438 [(33, ((97 : Nat) : Int)), (19, ((0 : Nat) : Int)), (20, ((59 : Nat) : Int)), (32, ((93 : Nat) : Int)), (0, (i : Int)), (2, 0), (2, 0)] [] M' K) : A mLaw 903 al 176 [(33, ((97 : Nat) : Int)), (19, ((0 : Nat) : Int)), (20, ((59 : Nat) : Int)), (32, ((93 : Nat) : Int)), (0, (i : Int)), (2, 0), (2, 0)] [] M K := by
  obtain ⟨hinv, hM, hS, hi, hL⟩ := hp
  have e1 : w32 ((i : Int) + 1) = ((i + 1 : Nat) : Int) := by rw [w32_id (by omega) (by omega)]; omega
  have e2 : w32 ((i : Int) + 2) = ((i + 2 : Nat) : Int) := by rw [w32_id (by omega) (by omega)]; omega
  have e3 : w32 ((i : Int) + 3) = ((i + 3 : Nat) : Int) := by rw [w32_id (by omega) (by omega)]; omega
  have e4 : w32 ((i : Int) + 4) = ((i + 4 : Nat) : Int) := by rw [w32_id (by omega) (by omega)]; omega
  have e5 : w32 ((i : Int) + 5) = ((i + 5 : Nat) : Int) := by rw [w32_id (by omega) (by omega)]; omega
  refine A_aload_n (i := 1) (f := 1) (by omega) rfl (by decide +kernel) rfl ?_
  refine A_aload_n (i := 0) (f := 0) (by omega) rfl (by decide +kernel) rfl ?_
  refine A_iload (i := 4) (by decide +kernel) rfl ?_
  refine A_iconst (a := 1) (by decide +kernel) (by unfold in32; omega) ?_
  refine A_iadd (by decide +kernel) ?_
  refine B_sald (v := S (i + 1)) (by decide +kernel) (by rw [e1, hM, hS]; omega) (by rw [e1, Int.toNat_natCast, Int.toNat_natCast, hM]) ?_
  refine A_aload_n (i := 0) (f := 0) (by omega) rfl (by decide +kernel) rfl ?_
  refine A_iload (i := 4) (by decide +kernel) rfl ?_
  refine A_iconst (a := 2) (by decide +kernel) (by unfold in32; omega) ?_
  refine A_iadd (by decide +kernel) ?_
  refine B_sald (v := S (i + 2)) (by decide +kernel) (by rw [e2, hM, hS]; omega) (by rw [e2, Int.toNat_natCast, Int.toNat_natCast, hM]) ?_
  refine A_aload_n (i := 0) (f := 0) (by omega) rfl (by decide +kernel) rfl ?_
  refine A_iload (i := 4) (by decide +kernel) rfl ?_
  refine A_iconst (a := 3) (by decide +kernel) (by unfold in32; omega) ?_
  refine A_iadd (by decide +kernel) ?_
  refine B_sald (v := S (i + 3)) (by decide +kernel) (by rw [e3, hM, hS]; omega) (by rw [e3, Int.toNat_natCast, Int.toNat_natCast, hM]) ?_
  refine A_aload_n (i := 0) (f := 0) (by omega) rfl (by decide +kernel) rfl ?_
  refine A_iload (i := 4) (by decide +kernel) rfl ?_
  refine A_iconst (a := 4) (by decide +kernel) (by unfold in32; omega) ?_
  refine A_iadd (by decide +kernel) ?_
  refine B_sald (v := S (i + 4)) (by decide +kernel) (by rw [e4, hM, hS]; omega) (by rw [e4, Int.toNat_natCast, Int.toNat_natCast, hM]) ?_
  refine A_aload_n (i := 0) (f := 0) (by omega) rfl (by decide +kernel) rfl ?_
  refine A_iload (i := 4) (by decide +kernel) rfl ?_
  refine A_iconst (a := 5) (by decide +kernel) (by unfold in32; omega) ?_
  refine A_iadd (by decide +kernel) ?_
  refine B_sald (v := S (i + 5)) (by decide +kernel) (by rw [e5, hM, hS]; omega) (by rw [e5, Int.toNat_natCast, Int.toNat_natCast, hM]) ?_
  refine L_cVi (q := (RX10, TX10, 13)) (ci := 9) (o := ((0 : Nat) : Int)) (args := [(0, S (i + 1)), (0, S (i + 2)), (0, S (i + 3)), (0, S (i + 4)), (0, S (i + 5))]) (st := []) (by decide +kernel) cv_m10_feed rfl rfl in_m10_feed se_m10_feed lk_L_21 rfl (show 3 < 903 by omega) (Nat.le_of_ble_eq_true rfl) (p_feed (Q := fun v w M2 => v = w ∧ INV M2) hinv (fun v M' h => ⟨rfl, h⟩)) (fun r M1 hr h97 => ?_)
  have hM1 : M1 97 = S := (h97 97 (by decide)).trans hM
  refine A_aload_n (i := 2) (f := 2) (by omega) rfl (by decide +kernel) rfl ?_
  refine A_aload_n (i := 0) (f := 0) (by omega) rfl (by decide +kernel) rfl ?_
  refine A_iload (i := 4) (by decide +kernel) rfl ?_
  refine A_iconst (a := 1) (by decide +kernel) (by unfold in32; omega) ?_
  refine A_iadd (by decide +kernel) ?_
  refine B_sald (v := S (i + 1)) (by decide +kernel) (by rw [e1, hM1, hS]; omega) (by rw [e1, Int.toNat_natCast, Int.toNat_natCast, hM1]) ?_
  refine A_aload_n (i := 0) (f := 0) (by omega) rfl (by decide +kernel) rfl ?_
  refine A_iload (i := 4) (by decide +kernel) rfl ?_
  refine A_iconst (a := 2) (by decide +kernel) (by unfold in32; omega) ?_
  refine A_iadd (by decide +kernel) ?_
  refine B_sald (v := S (i + 2)) (by decide +kernel) (by rw [e2, hM1, hS]; omega) (by rw [e2, Int.toNat_natCast, Int.toNat_natCast, hM1]) ?_
  refine A_aload_n (i := 0) (f := 0) (by omega) rfl (by decide +kernel) rfl ?_
  refine A_iload (i := 4) (by decide +kernel) rfl ?_
  refine A_iconst (a := 3) (by decide +kernel) (by unfold in32; omega) ?_
  refine A_iadd (by decide +kernel) ?_
  refine B_sald (v := S (i + 3)) (by decide +kernel) (by rw [e3, hM1, hS]; omega) (by rw [e3, Int.toNat_natCast, Int.toNat_natCast, hM1]) ?_
  refine A_aload_n (i := 0) (f := 0) (by omega) rfl (by decide +kernel) rfl ?_
  refine A_iload (i := 4) (by decide +kernel) rfl ?_
  refine A_iconst (a := 4) (by decide +kernel) (by unfold in32; omega) ?_
  refine A_iadd (by decide +kernel) ?_
  refine B_sald (v := S (i + 4)) (by decide +kernel) (by rw [e4, hM1, hS]; omega) (by rw [e4, Int.toNat_natCast, Int.toNat_natCast, hM1]) ?_
  refine A_aload_n (i := 0) (f := 0) (by omega) rfl (by decide +kernel) rfl ?_
  refine A_iload (i := 4) (by decide +kernel) rfl ?_
  refine A_iconst (a := 5) (by decide +kernel) (by unfold in32; omega) ?_
  refine A_iadd (by decide +kernel) ?_
  refine B_sald (v := S (i + 5)) (by decide +kernel) (by rw [e5, hM1, hS]; omega) (by rw [e5, Int.toNat_natCast, Int.toNat_natCast, hM1]) ?_
  refine L_cVi (q := (RX11, TX11, 59)) (ci := 10) (o := ((59 : Nat) : Int)) (args := [(0, S (i + 1)), (0, S (i + 2)), (0, S (i + 3)), (0, S (i + 4)), (0, S (i + 5))]) (st := [(0, r)]) (by decide +kernel) cv_m11_feed rfl rfl in_m11_feed se_m11_feed lk_L_25 rfl (show 1 < 903 by omega) (Nat.le_of_ble_eq_true rfl) hr (fun r2 M2 hr2 h97b => ?_)
  obtain ⟨e, hinv2⟩ := hr2
  have hM2 : M2 97 = S := (h97b 97 (by decide)).trans hM1
  exact A_ic_eq (off := 1194) (tgt := 1438) (by decide +kernel) (by omega) (fun _ => kk M2 hinv2 hM2) (fun b => absurd e b)
theorem lc_1 {S : Nat → Int} {L i al : Nat} {M : Mem} {K : List AV → Mem → Prop} (hp : PC2 S L i M) (kk : ∀ M', INV M' → M' 97 = S → A mLaw 903 al 1438 [(33, ((97 : Nat) : Int)), (19, ((0 : Nat) : Int)), (20, ((59 : Nat) : Int)), (32, ((93 : Nat) : Int)), (0, (i : Int)), (2, 0), (2, 0)] [] M' K) : A mLaw 903 al 249 [(33, ((97 : Nat) : Int)), (19, ((0 : Nat) : Int)), (20, ((59 : Nat) : Int)), (32, ((93 : Nat) : Int)), (0, (i : Int)), (2, 0), (2, 0)] [] M K := by
  obtain ⟨hinv, hM, hS, hi, hL⟩ := hp
  have e1 : w32 ((i : Int) + 1) = ((i + 1 : Nat) : Int) := by rw [w32_id (by omega) (by omega)]; omega
  have e2 : w32 ((i : Int) + 2) = ((i + 2 : Nat) : Int) := by rw [w32_id (by omega) (by omega)]; omega
  have e3 : w32 ((i : Int) + 3) = ((i + 3 : Nat) : Int) := by rw [w32_id (by omega) (by omega)]; omega
  have e4 : w32 ((i : Int) + 4) = ((i + 4 : Nat) : Int) := by rw [w32_id (by omega) (by omega)]; omega
  have e5 : w32 ((i : Int) + 5) = ((i + 5 : Nat) : Int) := by rw [w32_id (by omega) (by omega)]; omega
  refine A_aload_n (i := 1) (f := 1) (by omega) rfl (by decide +kernel) rfl ?_
  refine A_aload_n (i := 0) (f := 0) (by omega) rfl (by decide +kernel) rfl ?_
  refine A_iload (i := 4) (by decide +kernel) rfl ?_
  refine A_iconst (a := 1) (by decide +kernel) (by unfold in32; omega) ?_
  refine A_iadd (by decide +kernel) ?_
  refine B_sald (v := S (i + 1)) (by decide +kernel) (by rw [e1, hM, hS]; omega) (by rw [e1, Int.toNat_natCast, Int.toNat_natCast, hM]) ?_
  refine L_cVi (q := (RX10, TX10, 13)) (ci := 9) (o := ((0 : Nat) : Int)) (args := [(0, S (i + 1))]) (st := []) (by decide +kernel) cv_m10_text rfl rfl in_m10_text se_m10_text lk_L_26 rfl (show 7 < 903 by omega) (Nat.le_of_ble_eq_true rfl) (p_text (Q := fun v w M2 => v = w ∧ INV M2) word_R hinv (fun v M' h => ⟨rfl, h⟩)) (fun r M1 hr h97 => ?_)
  have hM1 : M1 97 = S := (h97 97 (by decide)).trans hM
  refine A_aload_n (i := 2) (f := 2) (by omega) rfl (by decide +kernel) rfl ?_
  refine A_aload_n (i := 0) (f := 0) (by omega) rfl (by decide +kernel) rfl ?_
  refine A_iload (i := 4) (by decide +kernel) rfl ?_
  refine A_iconst (a := 1) (by decide +kernel) (by unfold in32; omega) ?_
  refine A_iadd (by decide +kernel) ?_
  refine B_sald (v := S (i + 1)) (by decide +kernel) (by rw [e1, hM1, hS]; omega) (by rw [e1, Int.toNat_natCast, Int.toNat_natCast, hM1]) ?_
  refine L_cVi (q := (RX11, TX11, 59)) (ci := 10) (o := ((59 : Nat) : Int)) (args := [(0, S (i + 1))]) (st := [(0, r)]) (by decide +kernel) cv_m11_text rfl rfl in_m11_text se_m11_text lk_L_30 rfl (show 902 < 903 by omega) (Nat.le_of_ble_eq_true rfl) hr (fun r2 M2 hr2 h97b => ?_)
  obtain ⟨e, hinv2⟩ := hr2
  have hM2 : M2 97 = S := (h97b 97 (by decide)).trans hM1
  exact A_ic_eq (off := 1169) (tgt := 1438) (by decide +kernel) (by omega) (fun _ => kk M2 hinv2 hM2) (fun b => absurd e b)
theorem lc_2 {S : Nat → Int} {L i al : Nat} {M : Mem} {K : List AV → Mem → Prop} (hp : PC2 S L i M) (kk : ∀ M', INV M' → M' 97 = S → A mLaw 903 al 1438 [(33, ((97 : Nat) : Int)), (19, ((0 : Nat) : Int)), (20, ((59 : Nat) : Int)), (32, ((93 : Nat) : Int)), (0, (i : Int)), (2, 0), (2, 0)] [] M' K) : A mLaw 903 al 274 [(33, ((97 : Nat) : Int)), (19, ((0 : Nat) : Int)), (20, ((59 : Nat) : Int)), (32, ((93 : Nat) : Int)), (0, (i : Int)), (2, 0), (2, 0)] [] M K := by
  obtain ⟨hinv, hM, hS, hi, hL⟩ := hp
  have e1 : w32 ((i : Int) + 1) = ((i + 1 : Nat) : Int) := by rw [w32_id (by omega) (by omega)]; omega
  have e2 : w32 ((i : Int) + 2) = ((i + 2 : Nat) : Int) := by rw [w32_id (by omega) (by omega)]; omega
  have e3 : w32 ((i : Int) + 3) = ((i + 3 : Nat) : Int) := by rw [w32_id (by omega) (by omega)]; omega
  have e4 : w32 ((i : Int) + 4) = ((i + 4 : Nat) : Int) := by rw [w32_id (by omega) (by omega)]; omega
  have e5 : w32 ((i : Int) + 5) = ((i + 5 : Nat) : Int) := by rw [w32_id (by omega) (by omega)]; omega
  refine A_aload_n (i := 1) (f := 1) (by omega) rfl (by decide +kernel) rfl ?_
  refine A_aload_n (i := 0) (f := 0) (by omega) rfl (by decide +kernel) rfl ?_
  refine A_iload (i := 4) (by decide +kernel) rfl ?_
  refine A_iconst (a := 1) (by decide +kernel) (by unfold in32; omega) ?_
  refine A_iadd (by decide +kernel) ?_
  refine B_sald (v := S (i + 1)) (by decide +kernel) (by rw [e1, hM, hS]; omega) (by rw [e1, Int.toNat_natCast, Int.toNat_natCast, hM]) ?_
  refine L_cVi (q := (RX10, TX10, 13)) (ci := 9) (o := ((0 : Nat) : Int)) (args := [(0, S (i + 1))]) (st := []) (by decide +kernel) cv_m10_fault rfl rfl in_m10_fault se_m10_fault lk_L_31 rfl (show 1 < 903 by omega) (Nat.le_of_ble_eq_true rfl) (p_fault (Q := fun v w M2 => v = w ∧ INV M2) hinv (fun v M' h => ⟨rfl, h⟩)) (fun r M1 hr h97 => ?_)
  have hM1 : M1 97 = S := (h97 97 (by decide)).trans hM
  refine A_aload_n (i := 2) (f := 2) (by omega) rfl (by decide +kernel) rfl ?_
  refine A_aload_n (i := 0) (f := 0) (by omega) rfl (by decide +kernel) rfl ?_
  refine A_iload (i := 4) (by decide +kernel) rfl ?_
  refine A_iconst (a := 1) (by decide +kernel) (by unfold in32; omega) ?_
  refine A_iadd (by decide +kernel) ?_
  refine B_sald (v := S (i + 1)) (by decide +kernel) (by rw [e1, hM1, hS]; omega) (by rw [e1, Int.toNat_natCast, Int.toNat_natCast, hM1]) ?_
  refine L_cVi (q := (RX11, TX11, 59)) (ci := 10) (o := ((59 : Nat) : Int)) (args := [(0, S (i + 1))]) (st := [(0, r)]) (by decide +kernel) cv_m11_fault rfl rfl in_m11_fault se_m11_fault lk_L_34 rfl (show 1 < 903 by omega) (Nat.le_of_ble_eq_true rfl) hr (fun r2 M2 hr2 h97b => ?_)
  obtain ⟨e, hinv2⟩ := hr2
  have hM2 : M2 97 = S := (h97b 97 (by decide)).trans hM1
  exact A_ic_eq (off := 1144) (tgt := 1438) (by decide +kernel) (by omega) (fun _ => kk M2 hinv2 hM2) (fun b => absurd e b)
theorem lc_3 {S : Nat → Int} {L i al : Nat} {M : Mem} {K : List AV → Mem → Prop} (hp : PC2 S L i M) (kk : ∀ M', INV M' → M' 97 = S → A mLaw 903 al 1438 [(33, ((97 : Nat) : Int)), (19, ((0 : Nat) : Int)), (20, ((59 : Nat) : Int)), (32, ((93 : Nat) : Int)), (0, (i : Int)), (2, 0), (2, 0)] [] M' K) : A mLaw 903 al 299 [(33, ((97 : Nat) : Int)), (19, ((0 : Nat) : Int)), (20, ((59 : Nat) : Int)), (32, ((93 : Nat) : Int)), (0, (i : Int)), (2, 0), (2, 0)] [] M K := by
  obtain ⟨hinv, hM, hS, hi, hL⟩ := hp
  have e1 : w32 ((i : Int) + 1) = ((i + 1 : Nat) : Int) := by rw [w32_id (by omega) (by omega)]; omega
  have e2 : w32 ((i : Int) + 2) = ((i + 2 : Nat) : Int) := by rw [w32_id (by omega) (by omega)]; omega
  have e3 : w32 ((i : Int) + 3) = ((i + 3 : Nat) : Int) := by rw [w32_id (by omega) (by omega)]; omega
  have e4 : w32 ((i : Int) + 4) = ((i + 4 : Nat) : Int) := by rw [w32_id (by omega) (by omega)]; omega
  have e5 : w32 ((i : Int) + 5) = ((i + 5 : Nat) : Int) := by rw [w32_id (by omega) (by omega)]; omega
  refine A_aload_n (i := 1) (f := 1) (by omega) rfl (by decide +kernel) rfl ?_
  refine A_aload_n (i := 0) (f := 0) (by omega) rfl (by decide +kernel) rfl ?_
  refine A_iload (i := 4) (by decide +kernel) rfl ?_
  refine A_iconst (a := 1) (by decide +kernel) (by unfold in32; omega) ?_
  refine A_iadd (by decide +kernel) ?_
  refine B_sald (v := S (i + 1)) (by decide +kernel) (by rw [e1, hM, hS]; omega) (by rw [e1, Int.toNat_natCast, Int.toNat_natCast, hM]) ?_
  refine A_aload_n (i := 0) (f := 0) (by omega) rfl (by decide +kernel) rfl ?_
  refine A_iload (i := 4) (by decide +kernel) rfl ?_
  refine A_iconst (a := 2) (by decide +kernel) (by unfold in32; omega) ?_
  refine A_iadd (by decide +kernel) ?_
  refine B_sald (v := S (i + 2)) (by decide +kernel) (by rw [e2, hM, hS]; omega) (by rw [e2, Int.toNat_natCast, Int.toNat_natCast, hM]) ?_
  refine L_cVi (q := (RX10, TX10, 13)) (ci := 9) (o := ((0 : Nat) : Int)) (args := [(0, S (i + 1)), (0, S (i + 2))]) (st := []) (by decide +kernel) cv_m10_named rfl rfl in_m10_named se_m10_named lk_L_35 rfl (show 4 < 903 by omega) (Nat.le_of_ble_eq_true rfl) (p_named (Q := fun v w M2 => v = w ∧ INV M2) hinv (fun v M' h => ⟨rfl, h⟩)) (fun r M1 hr h97 => ?_)
  have hM1 : M1 97 = S := (h97 97 (by decide)).trans hM
  refine A_aload_n (i := 2) (f := 2) (by omega) rfl (by decide +kernel) rfl ?_
  refine A_aload_n (i := 0) (f := 0) (by omega) rfl (by decide +kernel) rfl ?_
  refine A_iload (i := 4) (by decide +kernel) rfl ?_
  refine A_iconst (a := 1) (by decide +kernel) (by unfold in32; omega) ?_
  refine A_iadd (by decide +kernel) ?_
  refine B_sald (v := S (i + 1)) (by decide +kernel) (by rw [e1, hM1, hS]; omega) (by rw [e1, Int.toNat_natCast, Int.toNat_natCast, hM1]) ?_
  refine A_aload_n (i := 0) (f := 0) (by omega) rfl (by decide +kernel) rfl ?_
  refine A_iload (i := 4) (by decide +kernel) rfl ?_
  refine A_iconst (a := 2) (by decide +kernel) (by unfold in32; omega) ?_
  refine A_iadd (by decide +kernel) ?_
  refine B_sald (v := S (i + 2)) (by decide +kernel) (by rw [e2, hM1, hS]; omega) (by rw [e2, Int.toNat_natCast, Int.toNat_natCast, hM1]) ?_
  refine L_cVi (q := (RX11, TX11, 59)) (ci := 10) (o := ((59 : Nat) : Int)) (args := [(0, S (i + 1)), (0, S (i + 2))]) (st := [(0, r)]) (by decide +kernel) cv_m11_named rfl rfl in_m11_named se_m11_named lk_L_38 rfl (show 2 < 903 by omega) (Nat.le_of_ble_eq_true rfl) hr (fun r2 M2 hr2 h97b => ?_)
  obtain ⟨e, hinv2⟩ := hr2
  have hM2 : M2 97 = S := (h97b 97 (by decide)).trans hM1
  exact A_ic_eq (off := 1107) (tgt := 1438) (by decide +kernel) (by omega) (fun _ => kk M2 hinv2 hM2) (fun b => absurd e b)
theorem lc_4 {S : Nat → Int} {L i al : Nat} {M : Mem} {K : List AV → Mem → Prop} (hp : PC2 S L i M) (hal : 1 ≤ al) (kk : ∀ M', INV M' → M' 97 = S → A mLaw 903 (al - 1) 1438 [(33, ((97 : Nat) : Int)), (19, ((0 : Nat) : Int)), (20, ((59 : Nat) : Int)), (32, ((93 : Nat) : Int)), (0, (i : Int)), (2, 0), (2, 0)] [] M' K) : A mLaw 903 al 336 [(33, ((97 : Nat) : Int)), (19, ((0 : Nat) : Int)), (20, ((59 : Nat) : Int)), (32, ((93 : Nat) : Int)), (0, (i : Int)), (2, 0), (2, 0)] [] M K := by
  obtain ⟨hinv, hM, hS, hi, hL⟩ := hp
  have e1 : w32 ((i : Int) + 1) = ((i + 1 : Nat) : Int) := by rw [w32_id (by omega) (by omega)]; omega
  have e2 : w32 ((i : Int) + 2) = ((i + 2 : Nat) : Int) := by rw [w32_id (by omega) (by omega)]; omega
  have e3 : w32 ((i : Int) + 3) = ((i + 3 : Nat) : Int) := by rw [w32_id (by omega) (by omega)]; omega
  have e4 : w32 ((i : Int) + 4) = ((i + 4 : Nat) : Int) := by rw [w32_id (by omega) (by omega)]; omega
  have e5 : w32 ((i : Int) + 5) = ((i + 5 : Nat) : Int) := by rw [w32_id (by omega) (by omega)]; omega
  obtain ⟨hT', hF', hG', pp, n, nf, s, F, ag, C, Bg, E, hX⟩ := id hinv
  refine A_aload_n (i := 1) (f := 1) (by omega) rfl (by decide +kernel) rfl ?_
  refine A_aload_n (i := 0) (f := 0) (by omega) rfl (by decide +kernel) rfl ?_
  refine A_iload (i := 4) (by decide +kernel) rfl ?_
  refine A_iconst (a := 1) (by decide +kernel) (by unfold in32; omega) ?_
  refine A_iadd (by decide +kernel) ?_
  refine B_sald (v := S (i + 1)) (by decide +kernel) (by rw [e1, hM, hS]; omega) (by rw [e1, Int.toNat_natCast, Int.toNat_natCast, hM]) ?_
  refine A_aload_n (i := 0) (f := 0) (by omega) rfl (by decide +kernel) rfl ?_
  refine A_iload (i := 4) (by decide +kernel) rfl ?_
  refine A_iconst (a := 2) (by decide +kernel) (by unfold in32; omega) ?_
  refine A_iadd (by decide +kernel) ?_
  refine B_sald (v := S (i + 2)) (by decide +kernel) (by rw [e2, hM, hS]; omega) (by rw [e2, Int.toNat_natCast, Int.toNat_natCast, hM]) ?_
  refine A_aload_n (i := 3) (f := 3) (by omega) rfl (by decide +kernel) rfl ?_
  refine A_hlook (st := []) (x := S (i + 1)) (w := S (i + 2)) rfl hX.1 hX.2.2.1 (by decide +kernel) (by omega) hal (Nat.le_of_ble_eq_true rfl) (fun M1 f1 hv1 h97 => ?_)
  have hM1 : M1 97 = S := (h97 97 (by decide)).trans hM
  have q1 : Fp qs M M1 := f1.mono (fun k j z => by
    rcases z with z | z
    · exact Or.inl z
    · exact Or.inr (Or.inr (Or.inr (Or.inr z))))
  have x1 := hX.q q1
  refine A_istore (i := 5) (by decide +kernel) (by decide) (fun w h0 hw => by simp at hw; first | (rw [← hw]; decide) | (rw [← hw]; simp)) ?_
  refine A_aload_n (i := 2) (f := 2) (by omega) rfl (by decide +kernel) rfl ?_
  refine A_aload_n (i := 0) (f := 0) (by omega) rfl (by decide +kernel) rfl ?_
  refine A_iload (i := 4) (by decide +kernel) rfl ?_
  refine A_iconst (a := 1) (by decide +kernel) (by unfold in32; omega) ?_
  refine A_iadd (by decide +kernel) ?_
  refine B_sald (v := S (i + 1)) (by decide +kernel) (by rw [e1, hM1, hS]; omega) (by rw [e1, Int.toNat_natCast, Int.toNat_natCast, hM1]) ?_
  refine A_aload_n (i := 0) (f := 0) (by omega) rfl (by decide +kernel) rfl ?_
  refine A_iload (i := 4) (by decide +kernel) rfl ?_
  refine A_iconst (a := 2) (by decide +kernel) (by unfold in32; omega) ?_
  refine A_iadd (by decide +kernel) ?_
  refine B_sald (v := S (i + 2)) (by decide +kernel) (by rw [e2, hM1, hS]; omega) (by rw [e2, Int.toNat_natCast, Int.toNat_natCast, hM1]) ?_
  refine L_cVi (P := fun r M2 => r = (if lkT pp (S (i + 1)) (S (i + 2)) = 0 then lkV pp nf s F ag (S (i + 1)) (S (i + 2)) else 0) ∧ Fp rs (mset M1 59 0 (lkT pp (S (i + 1)) (S (i + 2)))) M2) (q := (RX11, TX11, 59)) (ci := 10) (o := ((59 : Nat) : Int)) (args := [(0, S (i + 1)), (0, S (i + 2))]) (st := []) (by decide +kernel) cv_m11_look rfl rfl in_m11_look se_m11_look lk_L_44 rfl (show 4 < 903 by omega) (Nat.le_of_ble_eq_true rfl) (s_look_r x1.2.1 hX.2.2.1 (fun M2 f2 => ⟨rfl, f2⟩)) (fun r M2 hr h97b => ?_)
  obtain ⟨hr, f2⟩ := hr
  have hM2 : M2 97 = S := (h97b 97 (by decide)).trans hM1
  have t2 : M2 59 0 = lkT pp (S (i + 1)) (S (i + 2)) := by rw [f2 59 0 (by unfold rs; omega), mset_s]
  have v2 : M2 93 = M1 93 := (f2.row (fun j z => by unfold rs at z; omega)).trans (funext fun j => mset_k (by decide))
  have i2 : INV M2 := (hinv.q q1).q (rs_q f2)
  refine A_istore (i := 6) (by decide +kernel) (by decide) (fun w h0 hw => by simp at hw; first | (rw [← hw]; decide) | (rw [← hw]; simp)) ?_
  refine A_aload_n (i := 2) (f := 2) (by omega) rfl (by decide +kernel) rfl ?_
  refine L_cVi (P := fun r M3 => r = M2 59 0 ∧ M3 = M2) (q := (RX11, TX11, 59)) (ci := 10) (o := ((59 : Nat) : Int)) (args := []) (st := []) (by decide +kernel) cv_m11_thrown rfl rfl in_m11_thrown se_m11_thrown lk_L_45 rfl (show 1 < 903 by omega) (Nat.le_of_ble_eq_true rfl) (q_11_thrown ⟨rfl, rfl⟩) (fun r3 M3 hr3 _ => ?_)
  obtain ⟨hr3, rfl⟩ := hr3
  rw [t2] at hr3
  subst hr3
  refine A_iload (i := 5) (by decide +kernel) rfl ?_
  refine A_ic_eq (off := 5) (tgt := 384) (by decide +kernel) (by omega) (fun _ => ?_) (fun b => absurd rfl b)
  refine A_iload (i := 5) (by decide +kernel) rfl ?_
  have fin : A mLaw 903 (al - 1) 401 [(33, ((97 : Nat) : Int)), (19, ((0 : Nat) : Int)), (20, ((59 : Nat) : Int)), (32, ((93 : Nat) : Int)), (0, (i : Int)), (0, lkT pp (S (i + 1)) (S (i + 2))), (0, r)] [] M3 K := by
    refine A_goto (off := 1037) (tgt := 1438) (by decide +kernel) (by omega) ?_
    exact A_weak (lsub.keep (lsub.keep (lsub.keep (lsub.keep (lsub.keep (lsub.drop (lsub.drop lsub.nil))))))) (kk M3 i2 hM2)
  refine A_if_ne (off := 15) (tgt := 401) (by decide +kernel) (by omega) (fun _ => fin) (fun b => ?_)
  have hT0 : lkT pp (S (i + 1)) (S (i + 2)) = 0 := Decidable.not_not.mp b
  refine A_aload_n (i := 3) (f := 3) (by omega) rfl (by decide +kernel) rfl ?_
  refine A_iconst (a := 0) (by decide +kernel) (by unfold in32; omega) ?_
  refine B_lald (v := r) (by decide +kernel) (by decide) (by
    show M3 93 0 = r
    rw [v2, hr, if_pos hT0]; exact hv1 hT0) ?_
  refine A_iload (i := 6) (by decide +kernel) rfl ?_
  refine A_i2l (by decide +kernel) ?_
  refine A_lcmp (by decide +kernel) ?_
  exact A_if_eq (off := 5) (tgt := 401) (by decide +kernel) (by omega) (fun _ => fin) (fun b => absurd (lcmp_eq.mpr rfl) b)
theorem lc_5 {S : Nat → Int} {L i al : Nat} {M : Mem} {K : List AV → Mem → Prop} (hp : PC2 S L i M) (kk : ∀ M', INV M' → M' 97 = S → A mLaw 903 al 1438 [(33, ((97 : Nat) : Int)), (19, ((0 : Nat) : Int)), (20, ((59 : Nat) : Int)), (32, ((93 : Nat) : Int)), (0, (i : Int)), (2, 0), (2, 0)] [] M' K) : A mLaw 903 al 404 [(33, ((97 : Nat) : Int)), (19, ((0 : Nat) : Int)), (20, ((59 : Nat) : Int)), (32, ((93 : Nat) : Int)), (0, (i : Int)), (2, 0), (2, 0)] [] M K := by
  obtain ⟨hinv, hM, hS, hi, hL⟩ := hp
  have e1 : w32 ((i : Int) + 1) = ((i + 1 : Nat) : Int) := by rw [w32_id (by omega) (by omega)]; omega
  have e2 : w32 ((i : Int) + 2) = ((i + 2 : Nat) : Int) := by rw [w32_id (by omega) (by omega)]; omega
  have e3 : w32 ((i : Int) + 3) = ((i + 3 : Nat) : Int) := by rw [w32_id (by omega) (by omega)]; omega
  have e4 : w32 ((i : Int) + 4) = ((i + 4 : Nat) : Int) := by rw [w32_id (by omega) (by omega)]; omega
  have e5 : w32 ((i : Int) + 5) = ((i + 5 : Nat) : Int) := by rw [w32_id (by omega) (by omega)]; omega
  refine A_aload_n (i := 1) (f := 1) (by omega) rfl (by decide +kernel) rfl ?_
  refine A_aload_n (i := 0) (f := 0) (by omega) rfl (by decide +kernel) rfl ?_
  refine A_iload (i := 4) (by decide +kernel) rfl ?_
  refine A_iconst (a := 1) (by decide +kernel) (by unfold in32; omega) ?_
  refine A_iadd (by decide +kernel) ?_
  refine B_sald (v := S (i + 1)) (by decide +kernel) (by rw [e1, hM, hS]; omega) (by rw [e1, Int.toNat_natCast, Int.toNat_natCast, hM]) ?_
  refine A_aload_n (i := 0) (f := 0) (by omega) rfl (by decide +kernel) rfl ?_
  refine A_iload (i := 4) (by decide +kernel) rfl ?_
  refine A_iconst (a := 2) (by decide +kernel) (by unfold in32; omega) ?_
  refine A_iadd (by decide +kernel) ?_
  refine B_sald (v := S (i + 2)) (by decide +kernel) (by rw [e2, hM, hS]; omega) (by rw [e2, Int.toNat_natCast, Int.toNat_natCast, hM]) ?_
  refine A_aload_n (i := 0) (f := 0) (by omega) rfl (by decide +kernel) rfl ?_
  refine A_iload (i := 4) (by decide +kernel) rfl ?_
  refine A_iconst (a := 3) (by decide +kernel) (by unfold in32; omega) ?_
  refine A_iadd (by decide +kernel) ?_
  refine B_sald (v := S (i + 3)) (by decide +kernel) (by rw [e3, hM, hS]; omega) (by rw [e3, Int.toNat_natCast, Int.toNat_natCast, hM]) ?_
  refine L_cVi (q := (RX10, TX10, 13)) (ci := 9) (o := ((0 : Nat) : Int)) (args := [(0, S (i + 1)), (0, S (i + 2)), (0, S (i + 3))]) (st := []) (by decide +kernel) cv_m10_stands rfl rfl in_m10_stands se_m10_stands lk_L_49 rfl (show 4 < 903 by omega) (Nat.le_of_ble_eq_true rfl) (p_stands (Q := fun v w M2 => v = w ∧ INV M2) hinv (fun v M' h => ⟨rfl, h⟩)) (fun r M1 hr h97 => ?_)
  have hM1 : M1 97 = S := (h97 97 (by decide)).trans hM
  refine A_aload_n (i := 2) (f := 2) (by omega) rfl (by decide +kernel) rfl ?_
  refine A_aload_n (i := 0) (f := 0) (by omega) rfl (by decide +kernel) rfl ?_
  refine A_iload (i := 4) (by decide +kernel) rfl ?_
  refine A_iconst (a := 1) (by decide +kernel) (by unfold in32; omega) ?_
  refine A_iadd (by decide +kernel) ?_
  refine B_sald (v := S (i + 1)) (by decide +kernel) (by rw [e1, hM1, hS]; omega) (by rw [e1, Int.toNat_natCast, Int.toNat_natCast, hM1]) ?_
  refine A_aload_n (i := 0) (f := 0) (by omega) rfl (by decide +kernel) rfl ?_
  refine A_iload (i := 4) (by decide +kernel) rfl ?_
  refine A_iconst (a := 2) (by decide +kernel) (by unfold in32; omega) ?_
  refine A_iadd (by decide +kernel) ?_
  refine B_sald (v := S (i + 2)) (by decide +kernel) (by rw [e2, hM1, hS]; omega) (by rw [e2, Int.toNat_natCast, Int.toNat_natCast, hM1]) ?_
  refine A_aload_n (i := 0) (f := 0) (by omega) rfl (by decide +kernel) rfl ?_
  refine A_iload (i := 4) (by decide +kernel) rfl ?_
  refine A_iconst (a := 3) (by decide +kernel) (by unfold in32; omega) ?_
  refine A_iadd (by decide +kernel) ?_
  refine B_sald (v := S (i + 3)) (by decide +kernel) (by rw [e3, hM1, hS]; omega) (by rw [e3, Int.toNat_natCast, Int.toNat_natCast, hM1]) ?_
  refine L_cVi (q := (RX11, TX11, 59)) (ci := 10) (o := ((59 : Nat) : Int)) (args := [(0, S (i + 1)), (0, S (i + 2)), (0, S (i + 3))]) (st := [(0, r)]) (by decide +kernel) cv_m11_stands rfl rfl in_m11_stands se_m11_stands lk_L_53 rfl (show 4 < 903 by omega) (Nat.le_of_ble_eq_true rfl) hr (fun r2 M2 hr2 h97b => ?_)
  obtain ⟨e, hinv2⟩ := hr2
  have hM2 : M2 97 = S := (h97b 97 (by decide)).trans hM1
  exact A_ic_eq (off := 990) (tgt := 1438) (by decide +kernel) (by omega) (fun _ => kk M2 hinv2 hM2) (fun b => absurd e b)
theorem lc_6 {S : Nat → Int} {L i al : Nat} {M : Mem} {K : List AV → Mem → Prop} (hp : PC2 S L i M) (kk : ∀ M', INV M' → M' 97 = S → A mLaw 903 al 1438 [(33, ((97 : Nat) : Int)), (19, ((0 : Nat) : Int)), (20, ((59 : Nat) : Int)), (32, ((93 : Nat) : Int)), (0, (i : Int)), (2, 0), (2, 0)] [] M' K) : A mLaw 903 al 453 [(33, ((97 : Nat) : Int)), (19, ((0 : Nat) : Int)), (20, ((59 : Nat) : Int)), (32, ((93 : Nat) : Int)), (0, (i : Int)), (2, 0), (2, 0)] [] M K := by
  obtain ⟨hinv, hM, hS, hi, hL⟩ := hp
  have e1 : w32 ((i : Int) + 1) = ((i + 1 : Nat) : Int) := by rw [w32_id (by omega) (by omega)]; omega
  have e2 : w32 ((i : Int) + 2) = ((i + 2 : Nat) : Int) := by rw [w32_id (by omega) (by omega)]; omega
  have e3 : w32 ((i : Int) + 3) = ((i + 3 : Nat) : Int) := by rw [w32_id (by omega) (by omega)]; omega
  have e4 : w32 ((i : Int) + 4) = ((i + 4 : Nat) : Int) := by rw [w32_id (by omega) (by omega)]; omega
  have e5 : w32 ((i : Int) + 5) = ((i + 5 : Nat) : Int) := by rw [w32_id (by omega) (by omega)]; omega
  refine A_aload_n (i := 1) (f := 1) (by omega) rfl (by decide +kernel) rfl ?_
  refine A_aload_n (i := 0) (f := 0) (by omega) rfl (by decide +kernel) rfl ?_
  refine A_iload (i := 4) (by decide +kernel) rfl ?_
  refine A_iconst (a := 1) (by decide +kernel) (by unfold in32; omega) ?_
  refine A_iadd (by decide +kernel) ?_
  refine B_sald (v := S (i + 1)) (by decide +kernel) (by rw [e1, hM, hS]; omega) (by rw [e1, Int.toNat_natCast, Int.toNat_natCast, hM]) ?_
  refine L_cVi (q := (RX10, TX10, 13)) (ci := 9) (o := ((0 : Nat) : Int)) (args := [(0, S (i + 1))]) (st := []) (by decide +kernel) cv_m10_season rfl rfl in_m10_season se_m10_season lk_L_54 rfl (show 2 < 903 by omega) (Nat.le_of_ble_eq_true rfl) (p_season (Q := fun v w M2 => v = w ∧ INV M2) hinv (fun v M' h => ⟨rfl, h⟩)) (fun r M1 hr h97 => ?_)
  have hM1 : M1 97 = S := (h97 97 (by decide)).trans hM
  refine A_aload_n (i := 2) (f := 2) (by omega) rfl (by decide +kernel) rfl ?_
  refine A_aload_n (i := 0) (f := 0) (by omega) rfl (by decide +kernel) rfl ?_
  refine A_iload (i := 4) (by decide +kernel) rfl ?_
  refine A_iconst (a := 1) (by decide +kernel) (by unfold in32; omega) ?_
  refine A_iadd (by decide +kernel) ?_
  refine B_sald (v := S (i + 1)) (by decide +kernel) (by rw [e1, hM1, hS]; omega) (by rw [e1, Int.toNat_natCast, Int.toNat_natCast, hM1]) ?_
  refine L_cVi (q := (RX11, TX11, 59)) (ci := 10) (o := ((59 : Nat) : Int)) (args := [(0, S (i + 1))]) (st := [(0, r)]) (by decide +kernel) cv_m11_season rfl rfl in_m11_season se_m11_season lk_L_58 rfl (show 2 < 903 by omega) (Nat.le_of_ble_eq_true rfl) hr (fun r2 M2 hr2 h97b => ?_)
  obtain ⟨e, hinv2⟩ := hr2
  have hM2 : M2 97 = S := (h97b 97 (by decide)).trans hM1
  exact A_ic_eq (off := 965) (tgt := 1438) (by decide +kernel) (by omega) (fun _ => kk M2 hinv2 hM2) (fun b => absurd e b)
theorem lc_7 {S : Nat → Int} {L i al : Nat} {M : Mem} {K : List AV → Mem → Prop} (hp : PC2 S L i M) (kk : ∀ M', INV M' → M' 97 = S → A mLaw 903 al 1438 [(33, ((97 : Nat) : Int)), (19, ((0 : Nat) : Int)), (20, ((59 : Nat) : Int)), (32, ((93 : Nat) : Int)), (0, (i : Int)), (2, 0), (2, 0)] [] M' K) : A mLaw 903 al 478 [(33, ((97 : Nat) : Int)), (19, ((0 : Nat) : Int)), (20, ((59 : Nat) : Int)), (32, ((93 : Nat) : Int)), (0, (i : Int)), (2, 0), (2, 0)] [] M K := by
  obtain ⟨hinv, hM, hS, hi, hL⟩ := hp
  have e1 : w32 ((i : Int) + 1) = ((i + 1 : Nat) : Int) := by rw [w32_id (by omega) (by omega)]; omega
  have e2 : w32 ((i : Int) + 2) = ((i + 2 : Nat) : Int) := by rw [w32_id (by omega) (by omega)]; omega
  have e3 : w32 ((i : Int) + 3) = ((i + 3 : Nat) : Int) := by rw [w32_id (by omega) (by omega)]; omega
  have e4 : w32 ((i : Int) + 4) = ((i + 4 : Nat) : Int) := by rw [w32_id (by omega) (by omega)]; omega
  have e5 : w32 ((i : Int) + 5) = ((i + 5 : Nat) : Int) := by rw [w32_id (by omega) (by omega)]; omega
  refine A_aload_n (i := 1) (f := 1) (by omega) rfl (by decide +kernel) rfl ?_
  refine A_aload_n (i := 0) (f := 0) (by omega) rfl (by decide +kernel) rfl ?_
  refine A_iload (i := 4) (by decide +kernel) rfl ?_
  refine A_iconst (a := 1) (by decide +kernel) (by unfold in32; omega) ?_
  refine A_iadd (by decide +kernel) ?_
  refine B_sald (v := S (i + 1)) (by decide +kernel) (by rw [e1, hM, hS]; omega) (by rw [e1, Int.toNat_natCast, Int.toNat_natCast, hM]) ?_
  refine A_aload_n (i := 0) (f := 0) (by omega) rfl (by decide +kernel) rfl ?_
  refine A_iload (i := 4) (by decide +kernel) rfl ?_
  refine A_iconst (a := 2) (by decide +kernel) (by unfold in32; omega) ?_
  refine A_iadd (by decide +kernel) ?_
  refine B_sald (v := S (i + 2)) (by decide +kernel) (by rw [e2, hM, hS]; omega) (by rw [e2, Int.toNat_natCast, Int.toNat_natCast, hM]) ?_
  refine A_aload_n (i := 0) (f := 0) (by omega) rfl (by decide +kernel) rfl ?_
  refine A_iload (i := 4) (by decide +kernel) rfl ?_
  refine A_iconst (a := 3) (by decide +kernel) (by unfold in32; omega) ?_
  refine A_iadd (by decide +kernel) ?_
  refine B_sald (v := S (i + 3)) (by decide +kernel) (by rw [e3, hM, hS]; omega) (by rw [e3, Int.toNat_natCast, Int.toNat_natCast, hM]) ?_
  refine L_cVi (q := (RX10, TX10, 13)) (ci := 9) (o := ((0 : Nat) : Int)) (args := [(0, S (i + 1)), (0, S (i + 2)), (0, S (i + 3))]) (st := []) (by decide +kernel) cv_m10_raise rfl rfl in_m10_raise se_m10_raise lk_L_59 rfl (show 5 < 903 by omega) (Nat.le_of_ble_eq_true rfl) (p_raise (Q := fun v w M2 => v = w ∧ INV M2) hinv (fun v M' h => ⟨rfl, h⟩)) (fun r M1 hr h97 => ?_)
  have hM1 : M1 97 = S := (h97 97 (by decide)).trans hM
  refine A_aload_n (i := 2) (f := 2) (by omega) rfl (by decide +kernel) rfl ?_
  refine A_aload_n (i := 0) (f := 0) (by omega) rfl (by decide +kernel) rfl ?_
  refine A_iload (i := 4) (by decide +kernel) rfl ?_
  refine A_iconst (a := 1) (by decide +kernel) (by unfold in32; omega) ?_
  refine A_iadd (by decide +kernel) ?_
  refine B_sald (v := S (i + 1)) (by decide +kernel) (by rw [e1, hM1, hS]; omega) (by rw [e1, Int.toNat_natCast, Int.toNat_natCast, hM1]) ?_
  refine A_aload_n (i := 0) (f := 0) (by omega) rfl (by decide +kernel) rfl ?_
  refine A_iload (i := 4) (by decide +kernel) rfl ?_
  refine A_iconst (a := 2) (by decide +kernel) (by unfold in32; omega) ?_
  refine A_iadd (by decide +kernel) ?_
  refine B_sald (v := S (i + 2)) (by decide +kernel) (by rw [e2, hM1, hS]; omega) (by rw [e2, Int.toNat_natCast, Int.toNat_natCast, hM1]) ?_
  refine A_aload_n (i := 0) (f := 0) (by omega) rfl (by decide +kernel) rfl ?_
  refine A_iload (i := 4) (by decide +kernel) rfl ?_
  refine A_iconst (a := 3) (by decide +kernel) (by unfold in32; omega) ?_
  refine A_iadd (by decide +kernel) ?_
  refine B_sald (v := S (i + 3)) (by decide +kernel) (by rw [e3, hM1, hS]; omega) (by rw [e3, Int.toNat_natCast, Int.toNat_natCast, hM1]) ?_
  refine L_cVi (q := (RX11, TX11, 59)) (ci := 10) (o := ((59 : Nat) : Int)) (args := [(0, S (i + 1)), (0, S (i + 2)), (0, S (i + 3))]) (st := [(0, r)]) (by decide +kernel) cv_m11_raise rfl rfl in_m11_raise se_m11_raise lk_L_62 rfl (show 4 < 903 by omega) (Nat.le_of_ble_eq_true rfl) hr (fun r2 M2 hr2 h97b => ?_)
  obtain ⟨e, hinv2⟩ := hr2
  have hM2 : M2 97 = S := (h97b 97 (by decide)).trans hM1
  exact A_ic_eq (off := 916) (tgt := 1438) (by decide +kernel) (by omega) (fun _ => kk M2 hinv2 hM2) (fun b => absurd e b)
theorem lc_8 {S : Nat → Int} {L i al : Nat} {M : Mem} {K : List AV → Mem → Prop} (hp : PC2 S L i M) (kk : ∀ M', INV M' → M' 97 = S → A mLaw 903 al 1438 [(33, ((97 : Nat) : Int)), (19, ((0 : Nat) : Int)), (20, ((59 : Nat) : Int)), (32, ((93 : Nat) : Int)), (0, (i : Int)), (2, 0), (2, 0)] [] M' K) : A mLaw 903 al 527 [(33, ((97 : Nat) : Int)), (19, ((0 : Nat) : Int)), (20, ((59 : Nat) : Int)), (32, ((93 : Nat) : Int)), (0, (i : Int)), (2, 0), (2, 0)] [] M K := by
  obtain ⟨hinv, hM, hS, hi, hL⟩ := hp
  have e1 : w32 ((i : Int) + 1) = ((i + 1 : Nat) : Int) := by rw [w32_id (by omega) (by omega)]; omega
  have e2 : w32 ((i : Int) + 2) = ((i + 2 : Nat) : Int) := by rw [w32_id (by omega) (by omega)]; omega
  have e3 : w32 ((i : Int) + 3) = ((i + 3 : Nat) : Int) := by rw [w32_id (by omega) (by omega)]; omega
  have e4 : w32 ((i : Int) + 4) = ((i + 4 : Nat) : Int) := by rw [w32_id (by omega) (by omega)]; omega
  have e5 : w32 ((i : Int) + 5) = ((i + 5 : Nat) : Int) := by rw [w32_id (by omega) (by omega)]; omega
  refine A_aload_n (i := 1) (f := 1) (by omega) rfl (by decide +kernel) rfl ?_
  refine A_aload_n (i := 0) (f := 0) (by omega) rfl (by decide +kernel) rfl ?_
  refine A_iload (i := 4) (by decide +kernel) rfl ?_
  refine A_iconst (a := 1) (by decide +kernel) (by unfold in32; omega) ?_
  refine A_iadd (by decide +kernel) ?_
  refine B_sald (v := S (i + 1)) (by decide +kernel) (by rw [e1, hM, hS]; omega) (by rw [e1, Int.toNat_natCast, Int.toNat_natCast, hM]) ?_
  refine L_cVi (q := (RX10, TX10, 13)) (ci := 9) (o := ((0 : Nat) : Int)) (args := [(0, S (i + 1))]) (st := []) (by decide +kernel) cv_m10_strike rfl rfl in_m10_strike se_m10_strike lk_L_63 rfl (show 3 < 903 by omega) (Nat.le_of_ble_eq_true rfl) (p_strike (Q := fun v w M2 => v = w ∧ INV M2) hinv (fun v M' h => ⟨rfl, h⟩)) (fun r M1 hr h97 => ?_)
  have hM1 : M1 97 = S := (h97 97 (by decide)).trans hM
  refine A_aload_n (i := 2) (f := 2) (by omega) rfl (by decide +kernel) rfl ?_
  refine A_aload_n (i := 0) (f := 0) (by omega) rfl (by decide +kernel) rfl ?_
  refine A_iload (i := 4) (by decide +kernel) rfl ?_
  refine A_iconst (a := 1) (by decide +kernel) (by unfold in32; omega) ?_
  refine A_iadd (by decide +kernel) ?_
  refine B_sald (v := S (i + 1)) (by decide +kernel) (by rw [e1, hM1, hS]; omega) (by rw [e1, Int.toNat_natCast, Int.toNat_natCast, hM1]) ?_
  refine L_cVi (q := (RX11, TX11, 59)) (ci := 10) (o := ((59 : Nat) : Int)) (args := [(0, S (i + 1))]) (st := [(0, r)]) (by decide +kernel) cv_m11_strike rfl rfl in_m11_strike se_m11_strike lk_L_66 rfl (show 2 < 903 by omega) (Nat.le_of_ble_eq_true rfl) hr (fun r2 M2 hr2 h97b => ?_)
  obtain ⟨e, hinv2⟩ := hr2
  have hM2 : M2 97 = S := (h97b 97 (by decide)).trans hM1
  exact A_ic_eq (off := 891) (tgt := 1438) (by decide +kernel) (by omega) (fun _ => kk M2 hinv2 hM2) (fun b => absurd e b)
theorem lc_9 {S : Nat → Int} {L i al : Nat} {M : Mem} {K : List AV → Mem → Prop} (hp : PC2 S L i M) (kk : ∀ M', INV M' → M' 97 = S → A mLaw 903 al 1438 [(33, ((97 : Nat) : Int)), (19, ((0 : Nat) : Int)), (20, ((59 : Nat) : Int)), (32, ((93 : Nat) : Int)), (0, (i : Int)), (2, 0), (2, 0)] [] M' K) : A mLaw 903 al 552 [(33, ((97 : Nat) : Int)), (19, ((0 : Nat) : Int)), (20, ((59 : Nat) : Int)), (32, ((93 : Nat) : Int)), (0, (i : Int)), (2, 0), (2, 0)] [] M K := by
  obtain ⟨hinv, hM, hS, hi, hL⟩ := hp
  have e1 : w32 ((i : Int) + 1) = ((i + 1 : Nat) : Int) := by rw [w32_id (by omega) (by omega)]; omega
  have e2 : w32 ((i : Int) + 2) = ((i + 2 : Nat) : Int) := by rw [w32_id (by omega) (by omega)]; omega
  have e3 : w32 ((i : Int) + 3) = ((i + 3 : Nat) : Int) := by rw [w32_id (by omega) (by omega)]; omega
  have e4 : w32 ((i : Int) + 4) = ((i + 4 : Nat) : Int) := by rw [w32_id (by omega) (by omega)]; omega
  have e5 : w32 ((i : Int) + 5) = ((i + 5 : Nat) : Int) := by rw [w32_id (by omega) (by omega)]; omega
  refine A_aload_n (i := 1) (f := 1) (by omega) rfl (by decide +kernel) rfl ?_
  refine A_aload_n (i := 0) (f := 0) (by omega) rfl (by decide +kernel) rfl ?_
  refine A_iload (i := 4) (by decide +kernel) rfl ?_
  refine A_iconst (a := 1) (by decide +kernel) (by unfold in32; omega) ?_
  refine A_iadd (by decide +kernel) ?_
  refine B_sald (v := S (i + 1)) (by decide +kernel) (by rw [e1, hM, hS]; omega) (by rw [e1, Int.toNat_natCast, Int.toNat_natCast, hM]) ?_
  refine A_aload_n (i := 0) (f := 0) (by omega) rfl (by decide +kernel) rfl ?_
  refine A_iload (i := 4) (by decide +kernel) rfl ?_
  refine A_iconst (a := 2) (by decide +kernel) (by unfold in32; omega) ?_
  refine A_iadd (by decide +kernel) ?_
  refine B_sald (v := S (i + 2)) (by decide +kernel) (by rw [e2, hM, hS]; omega) (by rw [e2, Int.toNat_natCast, Int.toNat_natCast, hM]) ?_
  refine L_cVi (q := (RX10, TX10, 13)) (ci := 9) (o := ((0 : Nat) : Int)) (args := [(0, S (i + 1)), (0, S (i + 2))]) (st := []) (by decide +kernel) cv_m10_fact rfl rfl in_m10_fact se_m10_fact lk_L_67 rfl (show 3 < 903 by omega) (Nat.le_of_ble_eq_true rfl) (p_fact (Q := fun v w M2 => v = w ∧ INV M2) hinv (fun v M' h => ⟨rfl, h⟩)) (fun r M1 hr h97 => ?_)
  have hM1 : M1 97 = S := (h97 97 (by decide)).trans hM
  refine A_aload_n (i := 2) (f := 2) (by omega) rfl (by decide +kernel) rfl ?_
  refine A_aload_n (i := 0) (f := 0) (by omega) rfl (by decide +kernel) rfl ?_
  refine A_iload (i := 4) (by decide +kernel) rfl ?_
  refine A_iconst (a := 1) (by decide +kernel) (by unfold in32; omega) ?_
  refine A_iadd (by decide +kernel) ?_
  refine B_sald (v := S (i + 1)) (by decide +kernel) (by rw [e1, hM1, hS]; omega) (by rw [e1, Int.toNat_natCast, Int.toNat_natCast, hM1]) ?_
  refine A_aload_n (i := 0) (f := 0) (by omega) rfl (by decide +kernel) rfl ?_
  refine A_iload (i := 4) (by decide +kernel) rfl ?_
  refine A_iconst (a := 2) (by decide +kernel) (by unfold in32; omega) ?_
  refine A_iadd (by decide +kernel) ?_
  refine B_sald (v := S (i + 2)) (by decide +kernel) (by rw [e2, hM1, hS]; omega) (by rw [e2, Int.toNat_natCast, Int.toNat_natCast, hM1]) ?_
  refine L_cVi (q := (RX11, TX11, 59)) (ci := 10) (o := ((59 : Nat) : Int)) (args := [(0, S (i + 1)), (0, S (i + 2))]) (st := [(0, r)]) (by decide +kernel) cv_m11_fact rfl rfl in_m11_fact se_m11_fact lk_L_70 rfl (show 2 < 903 by omega) (Nat.le_of_ble_eq_true rfl) hr (fun r2 M2 hr2 h97b => ?_)
  obtain ⟨e, hinv2⟩ := hr2
  have hM2 : M2 97 = S := (h97b 97 (by decide)).trans hM1
  exact A_ic_eq (off := 854) (tgt := 1438) (by decide +kernel) (by omega) (fun _ => kk M2 hinv2 hM2) (fun b => absurd e b)
theorem lc_10 {S : Nat → Int} {L i al : Nat} {M : Mem} {K : List AV → Mem → Prop} (hp : PC2 S L i M) (kk : ∀ M', INV M' → M' 97 = S → A mLaw 903 al 1438 [(33, ((97 : Nat) : Int)), (19, ((0 : Nat) : Int)), (20, ((59 : Nat) : Int)), (32, ((93 : Nat) : Int)), (0, (i : Int)), (2, 0), (2, 0)] [] M' K) : A mLaw 903 al 589 [(33, ((97 : Nat) : Int)), (19, ((0 : Nat) : Int)), (20, ((59 : Nat) : Int)), (32, ((93 : Nat) : Int)), (0, (i : Int)), (2, 0), (2, 0)] [] M K := by
  obtain ⟨hinv, hM, hS, hi, hL⟩ := hp
  have e1 : w32 ((i : Int) + 1) = ((i + 1 : Nat) : Int) := by rw [w32_id (by omega) (by omega)]; omega
  have e2 : w32 ((i : Int) + 2) = ((i + 2 : Nat) : Int) := by rw [w32_id (by omega) (by omega)]; omega
  have e3 : w32 ((i : Int) + 3) = ((i + 3 : Nat) : Int) := by rw [w32_id (by omega) (by omega)]; omega
  have e4 : w32 ((i : Int) + 4) = ((i + 4 : Nat) : Int) := by rw [w32_id (by omega) (by omega)]; omega
  have e5 : w32 ((i : Int) + 5) = ((i + 5 : Nat) : Int) := by rw [w32_id (by omega) (by omega)]; omega
  refine A_aload_n (i := 1) (f := 1) (by omega) rfl (by decide +kernel) rfl ?_
  refine A_aload_n (i := 0) (f := 0) (by omega) rfl (by decide +kernel) rfl ?_
  refine A_iload (i := 4) (by decide +kernel) rfl ?_
  refine A_iconst (a := 1) (by decide +kernel) (by unfold in32; omega) ?_
  refine A_iadd (by decide +kernel) ?_
  refine B_sald (v := S (i + 1)) (by decide +kernel) (by rw [e1, hM, hS]; omega) (by rw [e1, Int.toNat_natCast, Int.toNat_natCast, hM]) ?_
  refine A_aload_n (i := 0) (f := 0) (by omega) rfl (by decide +kernel) rfl ?_
  refine A_iload (i := 4) (by decide +kernel) rfl ?_
  refine A_iconst (a := 2) (by decide +kernel) (by unfold in32; omega) ?_
  refine A_iadd (by decide +kernel) ?_
  refine B_sald (v := S (i + 2)) (by decide +kernel) (by rw [e2, hM, hS]; omega) (by rw [e2, Int.toNat_natCast, Int.toNat_natCast, hM]) ?_
  refine A_aload_n (i := 0) (f := 0) (by omega) rfl (by decide +kernel) rfl ?_
  refine A_iload (i := 4) (by decide +kernel) rfl ?_
  refine A_iconst (a := 3) (by decide +kernel) (by unfold in32; omega) ?_
  refine A_iadd (by decide +kernel) ?_
  refine B_sald (v := S (i + 3)) (by decide +kernel) (by rw [e3, hM, hS]; omega) (by rw [e3, Int.toNat_natCast, Int.toNat_natCast, hM]) ?_
  refine L_cVi (q := (RX10, TX10, 13)) (ci := 9) (o := ((0 : Nat) : Int)) (args := [(0, S (i + 1)), (0, S (i + 2)), (0, S (i + 3))]) (st := []) (by decide +kernel) cv_m10_ring rfl rfl in_m10_ring se_m10_ring lk_L_71 rfl (show 4 < 903 by omega) (Nat.le_of_ble_eq_true rfl) (p_ring (Q := fun v w M2 => v = w ∧ INV M2) hinv (fun v M' h => ⟨rfl, h⟩)) (fun r M1 hr h97 => ?_)
  have hM1 : M1 97 = S := (h97 97 (by decide)).trans hM
  refine A_aload_n (i := 2) (f := 2) (by omega) rfl (by decide +kernel) rfl ?_
  refine A_aload_n (i := 0) (f := 0) (by omega) rfl (by decide +kernel) rfl ?_
  refine A_iload (i := 4) (by decide +kernel) rfl ?_
  refine A_iconst (a := 1) (by decide +kernel) (by unfold in32; omega) ?_
  refine A_iadd (by decide +kernel) ?_
  refine B_sald (v := S (i + 1)) (by decide +kernel) (by rw [e1, hM1, hS]; omega) (by rw [e1, Int.toNat_natCast, Int.toNat_natCast, hM1]) ?_
  refine A_aload_n (i := 0) (f := 0) (by omega) rfl (by decide +kernel) rfl ?_
  refine A_iload (i := 4) (by decide +kernel) rfl ?_
  refine A_iconst (a := 2) (by decide +kernel) (by unfold in32; omega) ?_
  refine A_iadd (by decide +kernel) ?_
  refine B_sald (v := S (i + 2)) (by decide +kernel) (by rw [e2, hM1, hS]; omega) (by rw [e2, Int.toNat_natCast, Int.toNat_natCast, hM1]) ?_
  refine A_aload_n (i := 0) (f := 0) (by omega) rfl (by decide +kernel) rfl ?_
  refine A_iload (i := 4) (by decide +kernel) rfl ?_
  refine A_iconst (a := 3) (by decide +kernel) (by unfold in32; omega) ?_
  refine A_iadd (by decide +kernel) ?_
  refine B_sald (v := S (i + 3)) (by decide +kernel) (by rw [e3, hM1, hS]; omega) (by rw [e3, Int.toNat_natCast, Int.toNat_natCast, hM1]) ?_
  refine L_cVi (q := (RX11, TX11, 59)) (ci := 10) (o := ((59 : Nat) : Int)) (args := [(0, S (i + 1)), (0, S (i + 2)), (0, S (i + 3))]) (st := [(0, r)]) (by decide +kernel) cv_m11_ring rfl rfl in_m11_ring se_m11_ring lk_L_74 rfl (show 4 < 903 by omega) (Nat.le_of_ble_eq_true rfl) hr (fun r2 M2 hr2 h97b => ?_)
  obtain ⟨e, hinv2⟩ := hr2
  have hM2 : M2 97 = S := (h97b 97 (by decide)).trans hM1
  exact A_ic_eq (off := 805) (tgt := 1438) (by decide +kernel) (by omega) (fun _ => kk M2 hinv2 hM2) (fun b => absurd e b)
theorem lc_11 {S : Nat → Int} {L i al : Nat} {M : Mem} {K : List AV → Mem → Prop} (hp : PC2 S L i M) (kk : ∀ M', INV M' → M' 97 = S → A mLaw 903 al 1438 [(33, ((97 : Nat) : Int)), (19, ((0 : Nat) : Int)), (20, ((59 : Nat) : Int)), (32, ((93 : Nat) : Int)), (0, (i : Int)), (2, 0), (2, 0)] [] M' K) : A mLaw 903 al 638 [(33, ((97 : Nat) : Int)), (19, ((0 : Nat) : Int)), (20, ((59 : Nat) : Int)), (32, ((93 : Nat) : Int)), (0, (i : Int)), (2, 0), (2, 0)] [] M K := by
  obtain ⟨hinv, hM, hS, hi, hL⟩ := hp
  have e1 : w32 ((i : Int) + 1) = ((i + 1 : Nat) : Int) := by rw [w32_id (by omega) (by omega)]; omega
  have e2 : w32 ((i : Int) + 2) = ((i + 2 : Nat) : Int) := by rw [w32_id (by omega) (by omega)]; omega
  have e3 : w32 ((i : Int) + 3) = ((i + 3 : Nat) : Int) := by rw [w32_id (by omega) (by omega)]; omega
  have e4 : w32 ((i : Int) + 4) = ((i + 4 : Nat) : Int) := by rw [w32_id (by omega) (by omega)]; omega
  have e5 : w32 ((i : Int) + 5) = ((i + 5 : Nat) : Int) := by rw [w32_id (by omega) (by omega)]; omega
  refine A_aload_n (i := 1) (f := 1) (by omega) rfl (by decide +kernel) rfl ?_
  refine A_aload_n (i := 0) (f := 0) (by omega) rfl (by decide +kernel) rfl ?_
  refine A_iload (i := 4) (by decide +kernel) rfl ?_
  refine A_iconst (a := 1) (by decide +kernel) (by unfold in32; omega) ?_
  refine A_iadd (by decide +kernel) ?_
  refine B_sald (v := S (i + 1)) (by decide +kernel) (by rw [e1, hM, hS]; omega) (by rw [e1, Int.toNat_natCast, Int.toNat_natCast, hM]) ?_
  refine A_aload_n (i := 0) (f := 0) (by omega) rfl (by decide +kernel) rfl ?_
  refine A_iload (i := 4) (by decide +kernel) rfl ?_
  refine A_iconst (a := 2) (by decide +kernel) (by unfold in32; omega) ?_
  refine A_iadd (by decide +kernel) ?_
  refine B_sald (v := S (i + 2)) (by decide +kernel) (by rw [e2, hM, hS]; omega) (by rw [e2, Int.toNat_natCast, Int.toNat_natCast, hM]) ?_
  refine A_aload_n (i := 0) (f := 0) (by omega) rfl (by decide +kernel) rfl ?_
  refine A_iload (i := 4) (by decide +kernel) rfl ?_
  refine A_iconst (a := 3) (by decide +kernel) (by unfold in32; omega) ?_
  refine A_iadd (by decide +kernel) ?_
  refine B_sald (v := S (i + 3)) (by decide +kernel) (by rw [e3, hM, hS]; omega) (by rw [e3, Int.toNat_natCast, Int.toNat_natCast, hM]) ?_
  refine L_cVi (q := (RX10, TX10, 13)) (ci := 9) (o := ((0 : Nat) : Int)) (args := [(0, S (i + 1)), (0, S (i + 2)), (0, S (i + 3))]) (st := []) (by decide +kernel) cv_m10_say rfl rfl in_m10_say se_m10_say lk_L_75 rfl (show 6 < 903 by omega) (Nat.le_of_ble_eq_true rfl) (p_say (Q := fun v w M2 => v = w ∧ INV M2) hinv (fun v M' h => ⟨rfl, h⟩)) (fun r M1 hr h97 => ?_)
  have hM1 : M1 97 = S := (h97 97 (by decide)).trans hM
  refine A_aload_n (i := 2) (f := 2) (by omega) rfl (by decide +kernel) rfl ?_
  refine A_aload_n (i := 0) (f := 0) (by omega) rfl (by decide +kernel) rfl ?_
  refine A_iload (i := 4) (by decide +kernel) rfl ?_
  refine A_iconst (a := 1) (by decide +kernel) (by unfold in32; omega) ?_
  refine A_iadd (by decide +kernel) ?_
  refine B_sald (v := S (i + 1)) (by decide +kernel) (by rw [e1, hM1, hS]; omega) (by rw [e1, Int.toNat_natCast, Int.toNat_natCast, hM1]) ?_
  refine A_aload_n (i := 0) (f := 0) (by omega) rfl (by decide +kernel) rfl ?_
  refine A_iload (i := 4) (by decide +kernel) rfl ?_
  refine A_iconst (a := 2) (by decide +kernel) (by unfold in32; omega) ?_
  refine A_iadd (by decide +kernel) ?_
  refine B_sald (v := S (i + 2)) (by decide +kernel) (by rw [e2, hM1, hS]; omega) (by rw [e2, Int.toNat_natCast, Int.toNat_natCast, hM1]) ?_
  refine A_aload_n (i := 0) (f := 0) (by omega) rfl (by decide +kernel) rfl ?_
  refine A_iload (i := 4) (by decide +kernel) rfl ?_
  refine A_iconst (a := 3) (by decide +kernel) (by unfold in32; omega) ?_
  refine A_iadd (by decide +kernel) ?_
  refine B_sald (v := S (i + 3)) (by decide +kernel) (by rw [e3, hM1, hS]; omega) (by rw [e3, Int.toNat_natCast, Int.toNat_natCast, hM1]) ?_
  refine L_cVi (q := (RX11, TX11, 59)) (ci := 10) (o := ((59 : Nat) : Int)) (args := [(0, S (i + 1)), (0, S (i + 2)), (0, S (i + 3))]) (st := [(0, r)]) (by decide +kernel) cv_m11_say rfl rfl in_m11_say se_m11_say lk_L_78 rfl (show 6 < 903 by omega) (Nat.le_of_ble_eq_true rfl) hr (fun r2 M2 hr2 h97b => ?_)
  obtain ⟨e, hinv2⟩ := hr2
  have hM2 : M2 97 = S := (h97b 97 (by decide)).trans hM1
  exact A_ic_eq (off := 756) (tgt := 1438) (by decide +kernel) (by omega) (fun _ => kk M2 hinv2 hM2) (fun b => absurd e b)
theorem lc_12 {S : Nat → Int} {L i al : Nat} {M : Mem} {K : List AV → Mem → Prop} (hp : PC2 S L i M) (kk : ∀ M', INV M' → M' 97 = S → A mLaw 903 al 1438 [(33, ((97 : Nat) : Int)), (19, ((0 : Nat) : Int)), (20, ((59 : Nat) : Int)), (32, ((93 : Nat) : Int)), (0, (i : Int)), (2, 0), (2, 0)] [] M' K) : A mLaw 903 al 687 [(33, ((97 : Nat) : Int)), (19, ((0 : Nat) : Int)), (20, ((59 : Nat) : Int)), (32, ((93 : Nat) : Int)), (0, (i : Int)), (2, 0), (2, 0)] [] M K := by
  obtain ⟨hinv, hM, hS, hi, hL⟩ := hp
  have e1 : w32 ((i : Int) + 1) = ((i + 1 : Nat) : Int) := by rw [w32_id (by omega) (by omega)]; omega
  have e2 : w32 ((i : Int) + 2) = ((i + 2 : Nat) : Int) := by rw [w32_id (by omega) (by omega)]; omega
  have e3 : w32 ((i : Int) + 3) = ((i + 3 : Nat) : Int) := by rw [w32_id (by omega) (by omega)]; omega
  have e4 : w32 ((i : Int) + 4) = ((i + 4 : Nat) : Int) := by rw [w32_id (by omega) (by omega)]; omega
  have e5 : w32 ((i : Int) + 5) = ((i + 5 : Nat) : Int) := by rw [w32_id (by omega) (by omega)]; omega
  refine A_aload_n (i := 1) (f := 1) (by omega) rfl (by decide +kernel) rfl ?_
  refine A_aload_n (i := 0) (f := 0) (by omega) rfl (by decide +kernel) rfl ?_
  refine A_iload (i := 4) (by decide +kernel) rfl ?_
  refine A_iconst (a := 1) (by decide +kernel) (by unfold in32; omega) ?_
  refine A_iadd (by decide +kernel) ?_
  refine B_sald (v := S (i + 1)) (by decide +kernel) (by rw [e1, hM, hS]; omega) (by rw [e1, Int.toNat_natCast, Int.toNat_natCast, hM]) ?_
  refine A_aload_n (i := 0) (f := 0) (by omega) rfl (by decide +kernel) rfl ?_
  refine A_iload (i := 4) (by decide +kernel) rfl ?_
  refine A_iconst (a := 2) (by decide +kernel) (by unfold in32; omega) ?_
  refine A_iadd (by decide +kernel) ?_
  refine B_sald (v := S (i + 2)) (by decide +kernel) (by rw [e2, hM, hS]; omega) (by rw [e2, Int.toNat_natCast, Int.toNat_natCast, hM]) ?_
  refine A_aload_n (i := 0) (f := 0) (by omega) rfl (by decide +kernel) rfl ?_
  refine A_iload (i := 4) (by decide +kernel) rfl ?_
  refine A_iconst (a := 3) (by decide +kernel) (by unfold in32; omega) ?_
  refine A_iadd (by decide +kernel) ?_
  refine B_sald (v := S (i + 3)) (by decide +kernel) (by rw [e3, hM, hS]; omega) (by rw [e3, Int.toNat_natCast, Int.toNat_natCast, hM]) ?_
  refine A_aload_n (i := 0) (f := 0) (by omega) rfl (by decide +kernel) rfl ?_
  refine A_iload (i := 4) (by decide +kernel) rfl ?_
  refine A_iconst (a := 4) (by decide +kernel) (by unfold in32; omega) ?_
  refine A_iadd (by decide +kernel) ?_
  refine B_sald (v := S (i + 4)) (by decide +kernel) (by rw [e4, hM, hS]; omega) (by rw [e4, Int.toNat_natCast, Int.toNat_natCast, hM]) ?_
  refine L_cVl (q := (RX10, TX10, 13)) (ci := 9) (o := ((0 : Nat) : Int)) (args := [(0, S (i + 1)), (0, S (i + 2)), (0, S (i + 3)), (0, S (i + 4))]) (st := []) (by decide +kernel) cv_m10_place rfl rfl in_m10_place se_m10_place lk_L_79 rfl (show 6 < 903 by omega) (Nat.le_of_ble_eq_true rfl) (p_place (Q := fun v w M2 => v = w ∧ INV M2) hinv (fun v M' h => ⟨rfl, h⟩)) (fun r M1 hr h97 => ?_)
  have hM1 : M1 97 = S := (h97 97 (by decide)).trans hM
  refine A_aload_n (i := 2) (f := 2) (by omega) rfl (by decide +kernel) rfl ?_
  refine A_aload_n (i := 0) (f := 0) (by omega) rfl (by decide +kernel) rfl ?_
  refine A_iload (i := 4) (by decide +kernel) rfl ?_
  refine A_iconst (a := 1) (by decide +kernel) (by unfold in32; omega) ?_
  refine A_iadd (by decide +kernel) ?_
  refine B_sald (v := S (i + 1)) (by decide +kernel) (by rw [e1, hM1, hS]; omega) (by rw [e1, Int.toNat_natCast, Int.toNat_natCast, hM1]) ?_
  refine A_aload_n (i := 0) (f := 0) (by omega) rfl (by decide +kernel) rfl ?_
  refine A_iload (i := 4) (by decide +kernel) rfl ?_
  refine A_iconst (a := 2) (by decide +kernel) (by unfold in32; omega) ?_
  refine A_iadd (by decide +kernel) ?_
  refine B_sald (v := S (i + 2)) (by decide +kernel) (by rw [e2, hM1, hS]; omega) (by rw [e2, Int.toNat_natCast, Int.toNat_natCast, hM1]) ?_
  refine A_aload_n (i := 0) (f := 0) (by omega) rfl (by decide +kernel) rfl ?_
  refine A_iload (i := 4) (by decide +kernel) rfl ?_
  refine A_iconst (a := 3) (by decide +kernel) (by unfold in32; omega) ?_
  refine A_iadd (by decide +kernel) ?_
  refine B_sald (v := S (i + 3)) (by decide +kernel) (by rw [e3, hM1, hS]; omega) (by rw [e3, Int.toNat_natCast, Int.toNat_natCast, hM1]) ?_
  refine A_aload_n (i := 0) (f := 0) (by omega) rfl (by decide +kernel) rfl ?_
  refine A_iload (i := 4) (by decide +kernel) rfl ?_
  refine A_iconst (a := 4) (by decide +kernel) (by unfold in32; omega) ?_
  refine A_iadd (by decide +kernel) ?_
  refine B_sald (v := S (i + 4)) (by decide +kernel) (by rw [e4, hM1, hS]; omega) (by rw [e4, Int.toNat_natCast, Int.toNat_natCast, hM1]) ?_
  refine L_cVl (q := (RX11, TX11, 59)) (ci := 10) (o := ((59 : Nat) : Int)) (args := [(0, S (i + 1)), (0, S (i + 2)), (0, S (i + 3)), (0, S (i + 4))]) (st := [(1, r)]) (by decide +kernel) cv_m11_place rfl rfl in_m11_place se_m11_place lk_L_83 rfl (show 4 < 903 by omega) (Nat.le_of_ble_eq_true rfl) hr (fun r2 M2 hr2 h97b => ?_)
  obtain ⟨e, hinv2⟩ := hr2
  have hM2 : M2 97 = S := (h97b 97 (by decide)).trans hM1
  refine A_lcmp (by decide +kernel) ?_
  exact A_if_eq (off := 694) (tgt := 1438) (by decide +kernel) (by omega) (fun _ => kk M2 hinv2 hM2) (fun b => absurd (lcmp_eq.mpr e) b)
theorem lc_13 {S : Nat → Int} {L i al : Nat} {M : Mem} {K : List AV → Mem → Prop} (hp : PC2 S L i M) (kk : ∀ M', INV M' → M' 97 = S → A mLaw 903 al 1438 [(33, ((97 : Nat) : Int)), (19, ((0 : Nat) : Int)), (20, ((59 : Nat) : Int)), (32, ((93 : Nat) : Int)), (0, (i : Int)), (2, 0), (2, 0)] [] M' K) : A mLaw 903 al 749 [(33, ((97 : Nat) : Int)), (19, ((0 : Nat) : Int)), (20, ((59 : Nat) : Int)), (32, ((93 : Nat) : Int)), (0, (i : Int)), (2, 0), (2, 0)] [] M K := by
  obtain ⟨hinv, hM, hS, hi, hL⟩ := hp
  have e1 : w32 ((i : Int) + 1) = ((i + 1 : Nat) : Int) := by rw [w32_id (by omega) (by omega)]; omega
  have e2 : w32 ((i : Int) + 2) = ((i + 2 : Nat) : Int) := by rw [w32_id (by omega) (by omega)]; omega
  have e3 : w32 ((i : Int) + 3) = ((i + 3 : Nat) : Int) := by rw [w32_id (by omega) (by omega)]; omega
  have e4 : w32 ((i : Int) + 4) = ((i + 4 : Nat) : Int) := by rw [w32_id (by omega) (by omega)]; omega
  have e5 : w32 ((i : Int) + 5) = ((i + 5 : Nat) : Int) := by rw [w32_id (by omega) (by omega)]; omega
  refine A_aload_n (i := 1) (f := 1) (by omega) rfl (by decide +kernel) rfl ?_
  refine A_aload_n (i := 0) (f := 0) (by omega) rfl (by decide +kernel) rfl ?_
  refine A_iload (i := 4) (by decide +kernel) rfl ?_
  refine A_iconst (a := 1) (by decide +kernel) (by unfold in32; omega) ?_
  refine A_iadd (by decide +kernel) ?_
  refine B_sald (v := S (i + 1)) (by decide +kernel) (by rw [e1, hM, hS]; omega) (by rw [e1, Int.toNat_natCast, Int.toNat_natCast, hM]) ?_
  refine A_aload_n (i := 0) (f := 0) (by omega) rfl (by decide +kernel) rfl ?_
  refine A_iload (i := 4) (by decide +kernel) rfl ?_
  refine A_iconst (a := 2) (by decide +kernel) (by unfold in32; omega) ?_
  refine A_iadd (by decide +kernel) ?_
  refine B_sald (v := S (i + 2)) (by decide +kernel) (by rw [e2, hM, hS]; omega) (by rw [e2, Int.toNat_natCast, Int.toNat_natCast, hM]) ?_
  refine A_aload_n (i := 0) (f := 0) (by omega) rfl (by decide +kernel) rfl ?_
  refine A_iload (i := 4) (by decide +kernel) rfl ?_
  refine A_iconst (a := 3) (by decide +kernel) (by unfold in32; omega) ?_
  refine A_iadd (by decide +kernel) ?_
  refine B_sald (v := S (i + 3)) (by decide +kernel) (by rw [e3, hM, hS]; omega) (by rw [e3, Int.toNat_natCast, Int.toNat_natCast, hM]) ?_
  refine A_aload_n (i := 0) (f := 0) (by omega) rfl (by decide +kernel) rfl ?_
  refine A_iload (i := 4) (by decide +kernel) rfl ?_
  refine A_iconst (a := 4) (by decide +kernel) (by unfold in32; omega) ?_
  refine A_iadd (by decide +kernel) ?_
  refine B_sald (v := S (i + 4)) (by decide +kernel) (by rw [e4, hM, hS]; omega) (by rw [e4, Int.toNat_natCast, Int.toNat_natCast, hM]) ?_
  refine L_cVi (q := (RX10, TX10, 13)) (ci := 9) (o := ((0 : Nat) : Int)) (args := [(0, S (i + 1)), (0, S (i + 2)), (0, S (i + 3)), (0, S (i + 4))]) (st := []) (by decide +kernel) cv_m10_offence rfl rfl in_m10_offence se_m10_offence lk_L_84 rfl (show 6 < 903 by omega) (Nat.le_of_ble_eq_true rfl) (p_offence (Q := fun v w M2 => v = w ∧ INV M2) hinv (fun v M' h => ⟨rfl, h⟩)) (fun r M1 hr h97 => ?_)
  have hM1 : M1 97 = S := (h97 97 (by decide)).trans hM
  refine A_aload_n (i := 2) (f := 2) (by omega) rfl (by decide +kernel) rfl ?_
  refine A_aload_n (i := 0) (f := 0) (by omega) rfl (by decide +kernel) rfl ?_
  refine A_iload (i := 4) (by decide +kernel) rfl ?_
  refine A_iconst (a := 1) (by decide +kernel) (by unfold in32; omega) ?_
  refine A_iadd (by decide +kernel) ?_
  refine B_sald (v := S (i + 1)) (by decide +kernel) (by rw [e1, hM1, hS]; omega) (by rw [e1, Int.toNat_natCast, Int.toNat_natCast, hM1]) ?_
  refine A_aload_n (i := 0) (f := 0) (by omega) rfl (by decide +kernel) rfl ?_
  refine A_iload (i := 4) (by decide +kernel) rfl ?_
  refine A_iconst (a := 2) (by decide +kernel) (by unfold in32; omega) ?_
  refine A_iadd (by decide +kernel) ?_
  refine B_sald (v := S (i + 2)) (by decide +kernel) (by rw [e2, hM1, hS]; omega) (by rw [e2, Int.toNat_natCast, Int.toNat_natCast, hM1]) ?_
  refine A_aload_n (i := 0) (f := 0) (by omega) rfl (by decide +kernel) rfl ?_
  refine A_iload (i := 4) (by decide +kernel) rfl ?_
  refine A_iconst (a := 3) (by decide +kernel) (by unfold in32; omega) ?_
  refine A_iadd (by decide +kernel) ?_
  refine B_sald (v := S (i + 3)) (by decide +kernel) (by rw [e3, hM1, hS]; omega) (by rw [e3, Int.toNat_natCast, Int.toNat_natCast, hM1]) ?_
  refine A_aload_n (i := 0) (f := 0) (by omega) rfl (by decide +kernel) rfl ?_
  refine A_iload (i := 4) (by decide +kernel) rfl ?_
  refine A_iconst (a := 4) (by decide +kernel) (by unfold in32; omega) ?_
  refine A_iadd (by decide +kernel) ?_
  refine B_sald (v := S (i + 4)) (by decide +kernel) (by rw [e4, hM1, hS]; omega) (by rw [e4, Int.toNat_natCast, Int.toNat_natCast, hM1]) ?_
  refine L_cVi (q := (RX11, TX11, 59)) (ci := 10) (o := ((59 : Nat) : Int)) (args := [(0, S (i + 1)), (0, S (i + 2)), (0, S (i + 3)), (0, S (i + 4))]) (st := [(0, r)]) (by decide +kernel) cv_m11_offence rfl rfl in_m11_offence se_m11_offence lk_L_88 rfl (show 6 < 903 by omega) (Nat.le_of_ble_eq_true rfl) hr (fun r2 M2 hr2 h97b => ?_)
  obtain ⟨e, hinv2⟩ := hr2
  have hM2 : M2 97 = S := (h97b 97 (by decide)).trans hM1
  exact A_ic_eq (off := 633) (tgt := 1438) (by decide +kernel) (by omega) (fun _ => kk M2 hinv2 hM2) (fun b => absurd e b)
theorem lc_14 {S : Nat → Int} {L i al : Nat} {M : Mem} {K : List AV → Mem → Prop} (hp : PC2 S L i M) (kk : ∀ M', INV M' → M' 97 = S → A mLaw 903 al 1438 [(33, ((97 : Nat) : Int)), (19, ((0 : Nat) : Int)), (20, ((59 : Nat) : Int)), (32, ((93 : Nat) : Int)), (0, (i : Int)), (2, 0), (2, 0)] [] M' K) : A mLaw 903 al 810 [(33, ((97 : Nat) : Int)), (19, ((0 : Nat) : Int)), (20, ((59 : Nat) : Int)), (32, ((93 : Nat) : Int)), (0, (i : Int)), (2, 0), (2, 0)] [] M K := by
  obtain ⟨hinv, hM, hS, hi, hL⟩ := hp
  have e1 : w32 ((i : Int) + 1) = ((i + 1 : Nat) : Int) := by rw [w32_id (by omega) (by omega)]; omega
  have e2 : w32 ((i : Int) + 2) = ((i + 2 : Nat) : Int) := by rw [w32_id (by omega) (by omega)]; omega
  have e3 : w32 ((i : Int) + 3) = ((i + 3 : Nat) : Int) := by rw [w32_id (by omega) (by omega)]; omega
  have e4 : w32 ((i : Int) + 4) = ((i + 4 : Nat) : Int) := by rw [w32_id (by omega) (by omega)]; omega
  have e5 : w32 ((i : Int) + 5) = ((i + 5 : Nat) : Int) := by rw [w32_id (by omega) (by omega)]; omega
  refine A_aload_n (i := 1) (f := 1) (by omega) rfl (by decide +kernel) rfl ?_
  refine A_aload_n (i := 0) (f := 0) (by omega) rfl (by decide +kernel) rfl ?_
  refine A_iload (i := 4) (by decide +kernel) rfl ?_
  refine A_iconst (a := 1) (by decide +kernel) (by unfold in32; omega) ?_
  refine A_iadd (by decide +kernel) ?_
  refine B_sald (v := S (i + 1)) (by decide +kernel) (by rw [e1, hM, hS]; omega) (by rw [e1, Int.toNat_natCast, Int.toNat_natCast, hM]) ?_
  refine A_aload_n (i := 0) (f := 0) (by omega) rfl (by decide +kernel) rfl ?_
  refine A_iload (i := 4) (by decide +kernel) rfl ?_
  refine A_iconst (a := 2) (by decide +kernel) (by unfold in32; omega) ?_
  refine A_iadd (by decide +kernel) ?_
  refine B_sald (v := S (i + 2)) (by decide +kernel) (by rw [e2, hM, hS]; omega) (by rw [e2, Int.toNat_natCast, Int.toNat_natCast, hM]) ?_
  refine A_aload_n (i := 0) (f := 0) (by omega) rfl (by decide +kernel) rfl ?_
  refine A_iload (i := 4) (by decide +kernel) rfl ?_
  refine A_iconst (a := 3) (by decide +kernel) (by unfold in32; omega) ?_
  refine A_iadd (by decide +kernel) ?_
  refine B_sald (v := S (i + 3)) (by decide +kernel) (by rw [e3, hM, hS]; omega) (by rw [e3, Int.toNat_natCast, Int.toNat_natCast, hM]) ?_
  refine A_aload_n (i := 0) (f := 0) (by omega) rfl (by decide +kernel) rfl ?_
  refine A_iload (i := 4) (by decide +kernel) rfl ?_
  refine A_iconst (a := 4) (by decide +kernel) (by unfold in32; omega) ?_
  refine A_iadd (by decide +kernel) ?_
  refine B_sald (v := S (i + 4)) (by decide +kernel) (by rw [e4, hM, hS]; omega) (by rw [e4, Int.toNat_natCast, Int.toNat_natCast, hM]) ?_
  refine L_cVi (q := (RX10, TX10, 13)) (ci := 9) (o := ((0 : Nat) : Int)) (args := [(0, S (i + 1)), (0, S (i + 2)), (0, S (i + 3)), (0, S (i + 4))]) (st := []) (by decide +kernel) cv_m10_amends rfl rfl in_m10_amends se_m10_amends lk_L_89 rfl (show 6 < 903 by omega) (Nat.le_of_ble_eq_true rfl) (p_amends (Q := fun v w M2 => v = w ∧ INV M2) hinv (fun v M' h => ⟨rfl, h⟩)) (fun r M1 hr h97 => ?_)
  have hM1 : M1 97 = S := (h97 97 (by decide)).trans hM
  refine A_aload_n (i := 2) (f := 2) (by omega) rfl (by decide +kernel) rfl ?_
  refine A_aload_n (i := 0) (f := 0) (by omega) rfl (by decide +kernel) rfl ?_
  refine A_iload (i := 4) (by decide +kernel) rfl ?_
  refine A_iconst (a := 1) (by decide +kernel) (by unfold in32; omega) ?_
  refine A_iadd (by decide +kernel) ?_
  refine B_sald (v := S (i + 1)) (by decide +kernel) (by rw [e1, hM1, hS]; omega) (by rw [e1, Int.toNat_natCast, Int.toNat_natCast, hM1]) ?_
  refine A_aload_n (i := 0) (f := 0) (by omega) rfl (by decide +kernel) rfl ?_
  refine A_iload (i := 4) (by decide +kernel) rfl ?_
  refine A_iconst (a := 2) (by decide +kernel) (by unfold in32; omega) ?_
  refine A_iadd (by decide +kernel) ?_
  refine B_sald (v := S (i + 2)) (by decide +kernel) (by rw [e2, hM1, hS]; omega) (by rw [e2, Int.toNat_natCast, Int.toNat_natCast, hM1]) ?_
  refine A_aload_n (i := 0) (f := 0) (by omega) rfl (by decide +kernel) rfl ?_
  refine A_iload (i := 4) (by decide +kernel) rfl ?_
  refine A_iconst (a := 3) (by decide +kernel) (by unfold in32; omega) ?_
  refine A_iadd (by decide +kernel) ?_
  refine B_sald (v := S (i + 3)) (by decide +kernel) (by rw [e3, hM1, hS]; omega) (by rw [e3, Int.toNat_natCast, Int.toNat_natCast, hM1]) ?_
  refine A_aload_n (i := 0) (f := 0) (by omega) rfl (by decide +kernel) rfl ?_
  refine A_iload (i := 4) (by decide +kernel) rfl ?_
  refine A_iconst (a := 4) (by decide +kernel) (by unfold in32; omega) ?_
  refine A_iadd (by decide +kernel) ?_
  refine B_sald (v := S (i + 4)) (by decide +kernel) (by rw [e4, hM1, hS]; omega) (by rw [e4, Int.toNat_natCast, Int.toNat_natCast, hM1]) ?_
  refine L_cVi (q := (RX11, TX11, 59)) (ci := 10) (o := ((59 : Nat) : Int)) (args := [(0, S (i + 1)), (0, S (i + 2)), (0, S (i + 3)), (0, S (i + 4))]) (st := [(0, r)]) (by decide +kernel) cv_m11_amends rfl rfl in_m11_amends se_m11_amends lk_L_92 rfl (show 6 < 903 by omega) (Nat.le_of_ble_eq_true rfl) hr (fun r2 M2 hr2 h97b => ?_)
  obtain ⟨e, hinv2⟩ := hr2
  have hM2 : M2 97 = S := (h97b 97 (by decide)).trans hM1
  exact A_ic_eq (off := 572) (tgt := 1438) (by decide +kernel) (by omega) (fun _ => kk M2 hinv2 hM2) (fun b => absurd e b)
theorem lc_15 {S : Nat → Int} {L i al : Nat} {M : Mem} {K : List AV → Mem → Prop} (hp : PC2 S L i M) (kk : ∀ M', INV M' → M' 97 = S → A mLaw 903 al 1438 [(33, ((97 : Nat) : Int)), (19, ((0 : Nat) : Int)), (20, ((59 : Nat) : Int)), (32, ((93 : Nat) : Int)), (0, (i : Int)), (2, 0), (2, 0)] [] M' K) : A mLaw 903 al 871 [(33, ((97 : Nat) : Int)), (19, ((0 : Nat) : Int)), (20, ((59 : Nat) : Int)), (32, ((93 : Nat) : Int)), (0, (i : Int)), (2, 0), (2, 0)] [] M K := by
  obtain ⟨hinv, hM, hS, hi, hL⟩ := hp
  have e1 : w32 ((i : Int) + 1) = ((i + 1 : Nat) : Int) := by rw [w32_id (by omega) (by omega)]; omega
  have e2 : w32 ((i : Int) + 2) = ((i + 2 : Nat) : Int) := by rw [w32_id (by omega) (by omega)]; omega
  have e3 : w32 ((i : Int) + 3) = ((i + 3 : Nat) : Int) := by rw [w32_id (by omega) (by omega)]; omega
  have e4 : w32 ((i : Int) + 4) = ((i + 4 : Nat) : Int) := by rw [w32_id (by omega) (by omega)]; omega
  have e5 : w32 ((i : Int) + 5) = ((i + 5 : Nat) : Int) := by rw [w32_id (by omega) (by omega)]; omega
  refine A_aload_n (i := 1) (f := 1) (by omega) rfl (by decide +kernel) rfl ?_
  refine A_aload_n (i := 0) (f := 0) (by omega) rfl (by decide +kernel) rfl ?_
  refine A_iload (i := 4) (by decide +kernel) rfl ?_
  refine A_iconst (a := 1) (by decide +kernel) (by unfold in32; omega) ?_
  refine A_iadd (by decide +kernel) ?_
  refine B_sald (v := S (i + 1)) (by decide +kernel) (by rw [e1, hM, hS]; omega) (by rw [e1, Int.toNat_natCast, Int.toNat_natCast, hM]) ?_
  refine A_aload_n (i := 0) (f := 0) (by omega) rfl (by decide +kernel) rfl ?_
  refine A_iload (i := 4) (by decide +kernel) rfl ?_
  refine A_iconst (a := 2) (by decide +kernel) (by unfold in32; omega) ?_
  refine A_iadd (by decide +kernel) ?_
  refine B_sald (v := S (i + 2)) (by decide +kernel) (by rw [e2, hM, hS]; omega) (by rw [e2, Int.toNat_natCast, Int.toNat_natCast, hM]) ?_
  refine A_aload_n (i := 0) (f := 0) (by omega) rfl (by decide +kernel) rfl ?_
  refine A_iload (i := 4) (by decide +kernel) rfl ?_
  refine A_iconst (a := 3) (by decide +kernel) (by unfold in32; omega) ?_
  refine A_iadd (by decide +kernel) ?_
  refine B_sald (v := S (i + 3)) (by decide +kernel) (by rw [e3, hM, hS]; omega) (by rw [e3, Int.toNat_natCast, Int.toNat_natCast, hM]) ?_
  refine A_aload_n (i := 0) (f := 0) (by omega) rfl (by decide +kernel) rfl ?_
  refine A_iload (i := 4) (by decide +kernel) rfl ?_
  refine A_iconst (a := 4) (by decide +kernel) (by unfold in32; omega) ?_
  refine A_iadd (by decide +kernel) ?_
  refine B_sald (v := S (i + 4)) (by decide +kernel) (by rw [e4, hM, hS]; omega) (by rw [e4, Int.toNat_natCast, Int.toNat_natCast, hM]) ?_
  refine L_cVi (q := (RX10, TX10, 13)) (ci := 9) (o := ((0 : Nat) : Int)) (args := [(0, S (i + 1)), (0, S (i + 2)), (0, S (i + 3)), (0, S (i + 4))]) (st := []) (by decide +kernel) cv_m10_hall rfl rfl in_m10_hall se_m10_hall lk_L_93 rfl (show 7 < 903 by omega) (Nat.le_of_ble_eq_true rfl) (p_hall (Q := fun v w M2 => v = w ∧ INV M2) hinv (fun v M' h => ⟨rfl, h⟩)) (fun r M1 hr h97 => ?_)
  have hM1 : M1 97 = S := (h97 97 (by decide)).trans hM
  refine A_aload_n (i := 2) (f := 2) (by omega) rfl (by decide +kernel) rfl ?_
  refine A_aload_n (i := 0) (f := 0) (by omega) rfl (by decide +kernel) rfl ?_
  refine A_iload (i := 4) (by decide +kernel) rfl ?_
  refine A_iconst (a := 1) (by decide +kernel) (by unfold in32; omega) ?_
  refine A_iadd (by decide +kernel) ?_
  refine B_sald (v := S (i + 1)) (by decide +kernel) (by rw [e1, hM1, hS]; omega) (by rw [e1, Int.toNat_natCast, Int.toNat_natCast, hM1]) ?_
  refine A_aload_n (i := 0) (f := 0) (by omega) rfl (by decide +kernel) rfl ?_
  refine A_iload (i := 4) (by decide +kernel) rfl ?_
  refine A_iconst (a := 2) (by decide +kernel) (by unfold in32; omega) ?_
  refine A_iadd (by decide +kernel) ?_
  refine B_sald (v := S (i + 2)) (by decide +kernel) (by rw [e2, hM1, hS]; omega) (by rw [e2, Int.toNat_natCast, Int.toNat_natCast, hM1]) ?_
  refine A_aload_n (i := 0) (f := 0) (by omega) rfl (by decide +kernel) rfl ?_
  refine A_iload (i := 4) (by decide +kernel) rfl ?_
  refine A_iconst (a := 3) (by decide +kernel) (by unfold in32; omega) ?_
  refine A_iadd (by decide +kernel) ?_
  refine B_sald (v := S (i + 3)) (by decide +kernel) (by rw [e3, hM1, hS]; omega) (by rw [e3, Int.toNat_natCast, Int.toNat_natCast, hM1]) ?_
  refine A_aload_n (i := 0) (f := 0) (by omega) rfl (by decide +kernel) rfl ?_
  refine A_iload (i := 4) (by decide +kernel) rfl ?_
  refine A_iconst (a := 4) (by decide +kernel) (by unfold in32; omega) ?_
  refine A_iadd (by decide +kernel) ?_
  refine B_sald (v := S (i + 4)) (by decide +kernel) (by rw [e4, hM1, hS]; omega) (by rw [e4, Int.toNat_natCast, Int.toNat_natCast, hM1]) ?_
  refine L_cVi (q := (RX11, TX11, 59)) (ci := 10) (o := ((59 : Nat) : Int)) (args := [(0, S (i + 1)), (0, S (i + 2)), (0, S (i + 3)), (0, S (i + 4))]) (st := [(0, r)]) (by decide +kernel) cv_m11_hall rfl rfl in_m11_hall se_m11_hall lk_L_96 rfl (show 51 < 903 by omega) (Nat.le_of_ble_eq_true rfl) hr (fun r2 M2 hr2 h97b => ?_)
  obtain ⟨e, hinv2⟩ := hr2
  have hM2 : M2 97 = S := (h97b 97 (by decide)).trans hM1
  exact A_ic_eq (off := 511) (tgt := 1438) (by decide +kernel) (by omega) (fun _ => kk M2 hinv2 hM2) (fun b => absurd e b)
theorem lc_16 {S : Nat → Int} {L i al : Nat} {M : Mem} {K : List AV → Mem → Prop} (hp : PC2 S L i M) (kk : ∀ M', INV M' → M' 97 = S → A mLaw 903 al 1438 [(33, ((97 : Nat) : Int)), (19, ((0 : Nat) : Int)), (20, ((59 : Nat) : Int)), (32, ((93 : Nat) : Int)), (0, (i : Int)), (2, 0), (2, 0)] [] M' K) : A mLaw 903 al 932 [(33, ((97 : Nat) : Int)), (19, ((0 : Nat) : Int)), (20, ((59 : Nat) : Int)), (32, ((93 : Nat) : Int)), (0, (i : Int)), (2, 0), (2, 0)] [] M K := by
  obtain ⟨hinv, hM, hS, hi, hL⟩ := hp
  have e1 : w32 ((i : Int) + 1) = ((i + 1 : Nat) : Int) := by rw [w32_id (by omega) (by omega)]; omega
  have e2 : w32 ((i : Int) + 2) = ((i + 2 : Nat) : Int) := by rw [w32_id (by omega) (by omega)]; omega
  have e3 : w32 ((i : Int) + 3) = ((i + 3 : Nat) : Int) := by rw [w32_id (by omega) (by omega)]; omega
  have e4 : w32 ((i : Int) + 4) = ((i + 4 : Nat) : Int) := by rw [w32_id (by omega) (by omega)]; omega
  have e5 : w32 ((i : Int) + 5) = ((i + 5 : Nat) : Int) := by rw [w32_id (by omega) (by omega)]; omega
  refine A_aload_n (i := 1) (f := 1) (by omega) rfl (by decide +kernel) rfl ?_
  refine A_aload_n (i := 0) (f := 0) (by omega) rfl (by decide +kernel) rfl ?_
  refine A_iload (i := 4) (by decide +kernel) rfl ?_
  refine A_iconst (a := 1) (by decide +kernel) (by unfold in32; omega) ?_
  refine A_iadd (by decide +kernel) ?_
  refine B_sald (v := S (i + 1)) (by decide +kernel) (by rw [e1, hM, hS]; omega) (by rw [e1, Int.toNat_natCast, Int.toNat_natCast, hM]) ?_
  refine A_aload_n (i := 0) (f := 0) (by omega) rfl (by decide +kernel) rfl ?_
  refine A_iload (i := 4) (by decide +kernel) rfl ?_
  refine A_iconst (a := 2) (by decide +kernel) (by unfold in32; omega) ?_
  refine A_iadd (by decide +kernel) ?_
  refine B_sald (v := S (i + 2)) (by decide +kernel) (by rw [e2, hM, hS]; omega) (by rw [e2, Int.toNat_natCast, Int.toNat_natCast, hM]) ?_
  refine A_aload_n (i := 0) (f := 0) (by omega) rfl (by decide +kernel) rfl ?_
  refine A_iload (i := 4) (by decide +kernel) rfl ?_
  refine A_iconst (a := 3) (by decide +kernel) (by unfold in32; omega) ?_
  refine A_iadd (by decide +kernel) ?_
  refine B_sald (v := S (i + 3)) (by decide +kernel) (by rw [e3, hM, hS]; omega) (by rw [e3, Int.toNat_natCast, Int.toNat_natCast, hM]) ?_
  refine A_aload_n (i := 0) (f := 0) (by omega) rfl (by decide +kernel) rfl ?_
  refine A_iload (i := 4) (by decide +kernel) rfl ?_
  refine A_iconst (a := 4) (by decide +kernel) (by unfold in32; omega) ?_
  refine A_iadd (by decide +kernel) ?_
  refine B_sald (v := S (i + 4)) (by decide +kernel) (by rw [e4, hM, hS]; omega) (by rw [e4, Int.toNat_natCast, Int.toNat_natCast, hM]) ?_
  refine L_cVi (q := (RX10, TX10, 13)) (ci := 9) (o := ((0 : Nat) : Int)) (args := [(0, S (i + 1)), (0, S (i + 2)), (0, S (i + 3)), (0, S (i + 4))]) (st := []) (by decide +kernel) cv_m10_claims rfl rfl in_m10_claims se_m10_claims lk_L_97 rfl (show 7 < 903 by omega) (Nat.le_of_ble_eq_true rfl) (p_claims (Q := fun v w M2 => v = w ∧ INV M2) hinv (fun v M' h => ⟨rfl, h⟩)) (fun r M1 hr h97 => ?_)
  have hM1 : M1 97 = S := (h97 97 (by decide)).trans hM
  refine A_aload_n (i := 2) (f := 2) (by omega) rfl (by decide +kernel) rfl ?_
  refine A_aload_n (i := 0) (f := 0) (by omega) rfl (by decide +kernel) rfl ?_
  refine A_iload (i := 4) (by decide +kernel) rfl ?_
  refine A_iconst (a := 1) (by decide +kernel) (by unfold in32; omega) ?_
  refine A_iadd (by decide +kernel) ?_
  refine B_sald (v := S (i + 1)) (by decide +kernel) (by rw [e1, hM1, hS]; omega) (by rw [e1, Int.toNat_natCast, Int.toNat_natCast, hM1]) ?_
  refine A_aload_n (i := 0) (f := 0) (by omega) rfl (by decide +kernel) rfl ?_
  refine A_iload (i := 4) (by decide +kernel) rfl ?_
  refine A_iconst (a := 2) (by decide +kernel) (by unfold in32; omega) ?_
  refine A_iadd (by decide +kernel) ?_
  refine B_sald (v := S (i + 2)) (by decide +kernel) (by rw [e2, hM1, hS]; omega) (by rw [e2, Int.toNat_natCast, Int.toNat_natCast, hM1]) ?_
  refine A_aload_n (i := 0) (f := 0) (by omega) rfl (by decide +kernel) rfl ?_
  refine A_iload (i := 4) (by decide +kernel) rfl ?_
  refine A_iconst (a := 3) (by decide +kernel) (by unfold in32; omega) ?_
  refine A_iadd (by decide +kernel) ?_
  refine B_sald (v := S (i + 3)) (by decide +kernel) (by rw [e3, hM1, hS]; omega) (by rw [e3, Int.toNat_natCast, Int.toNat_natCast, hM1]) ?_
  refine A_aload_n (i := 0) (f := 0) (by omega) rfl (by decide +kernel) rfl ?_
  refine A_iload (i := 4) (by decide +kernel) rfl ?_
  refine A_iconst (a := 4) (by decide +kernel) (by unfold in32; omega) ?_
  refine A_iadd (by decide +kernel) ?_
  refine B_sald (v := S (i + 4)) (by decide +kernel) (by rw [e4, hM1, hS]; omega) (by rw [e4, Int.toNat_natCast, Int.toNat_natCast, hM1]) ?_
  refine L_cVi (q := (RX11, TX11, 59)) (ci := 10) (o := ((59 : Nat) : Int)) (args := [(0, S (i + 1)), (0, S (i + 2)), (0, S (i + 3)), (0, S (i + 4))]) (st := [(0, r)]) (by decide +kernel) cv_m11_claims rfl rfl in_m11_claims se_m11_claims lk_L_100 rfl (show 6 < 903 by omega) (Nat.le_of_ble_eq_true rfl) hr (fun r2 M2 hr2 h97b => ?_)
  obtain ⟨e, hinv2⟩ := hr2
  have hM2 : M2 97 = S := (h97b 97 (by decide)).trans hM1
  exact A_ic_eq (off := 450) (tgt := 1438) (by decide +kernel) (by omega) (fun _ => kk M2 hinv2 hM2) (fun b => absurd e b)
theorem lc_17 {S : Nat → Int} {L i al : Nat} {M : Mem} {K : List AV → Mem → Prop} (hp : PC2 S L i M) (kk : ∀ M', INV M' → M' 97 = S → A mLaw 903 al 1438 [(33, ((97 : Nat) : Int)), (19, ((0 : Nat) : Int)), (20, ((59 : Nat) : Int)), (32, ((93 : Nat) : Int)), (0, (i : Int)), (2, 0), (2, 0)] [] M' K) : A mLaw 903 al 993 [(33, ((97 : Nat) : Int)), (19, ((0 : Nat) : Int)), (20, ((59 : Nat) : Int)), (32, ((93 : Nat) : Int)), (0, (i : Int)), (2, 0), (2, 0)] [] M K := by
  obtain ⟨hinv, hM, hS, hi, hL⟩ := hp
  have e1 : w32 ((i : Int) + 1) = ((i + 1 : Nat) : Int) := by rw [w32_id (by omega) (by omega)]; omega
  have e2 : w32 ((i : Int) + 2) = ((i + 2 : Nat) : Int) := by rw [w32_id (by omega) (by omega)]; omega
  have e3 : w32 ((i : Int) + 3) = ((i + 3 : Nat) : Int) := by rw [w32_id (by omega) (by omega)]; omega
  have e4 : w32 ((i : Int) + 4) = ((i + 4 : Nat) : Int) := by rw [w32_id (by omega) (by omega)]; omega
  have e5 : w32 ((i : Int) + 5) = ((i + 5 : Nat) : Int) := by rw [w32_id (by omega) (by omega)]; omega
  refine A_aload_n (i := 1) (f := 1) (by omega) rfl (by decide +kernel) rfl ?_
  refine A_aload_n (i := 0) (f := 0) (by omega) rfl (by decide +kernel) rfl ?_
  refine A_iload (i := 4) (by decide +kernel) rfl ?_
  refine A_iconst (a := 1) (by decide +kernel) (by unfold in32; omega) ?_
  refine A_iadd (by decide +kernel) ?_
  refine B_sald (v := S (i + 1)) (by decide +kernel) (by rw [e1, hM, hS]; omega) (by rw [e1, Int.toNat_natCast, Int.toNat_natCast, hM]) ?_
  refine A_aload_n (i := 0) (f := 0) (by omega) rfl (by decide +kernel) rfl ?_
  refine A_iload (i := 4) (by decide +kernel) rfl ?_
  refine A_iconst (a := 2) (by decide +kernel) (by unfold in32; omega) ?_
  refine A_iadd (by decide +kernel) ?_
  refine B_sald (v := S (i + 2)) (by decide +kernel) (by rw [e2, hM, hS]; omega) (by rw [e2, Int.toNat_natCast, Int.toNat_natCast, hM]) ?_
  refine A_aload_n (i := 0) (f := 0) (by omega) rfl (by decide +kernel) rfl ?_
  refine A_iload (i := 4) (by decide +kernel) rfl ?_
  refine A_iconst (a := 3) (by decide +kernel) (by unfold in32; omega) ?_
  refine A_iadd (by decide +kernel) ?_
  refine B_sald (v := S (i + 3)) (by decide +kernel) (by rw [e3, hM, hS]; omega) (by rw [e3, Int.toNat_natCast, Int.toNat_natCast, hM]) ?_
  refine A_aload_n (i := 0) (f := 0) (by omega) rfl (by decide +kernel) rfl ?_
  refine A_iload (i := 4) (by decide +kernel) rfl ?_
  refine A_iconst (a := 4) (by decide +kernel) (by unfold in32; omega) ?_
  refine A_iadd (by decide +kernel) ?_
  refine B_sald (v := S (i + 4)) (by decide +kernel) (by rw [e4, hM, hS]; omega) (by rw [e4, Int.toNat_natCast, Int.toNat_natCast, hM]) ?_
  refine A_aload_n (i := 0) (f := 0) (by omega) rfl (by decide +kernel) rfl ?_
  refine A_iload (i := 4) (by decide +kernel) rfl ?_
  refine A_iconst (a := 5) (by decide +kernel) (by unfold in32; omega) ?_
  refine A_iadd (by decide +kernel) ?_
  refine B_sald (v := S (i + 5)) (by decide +kernel) (by rw [e5, hM, hS]; omega) (by rw [e5, Int.toNat_natCast, Int.toNat_natCast, hM]) ?_
  refine L_cVi (q := (RX10, TX10, 13)) (ci := 9) (o := ((0 : Nat) : Int)) (args := [(0, S (i + 1)), (0, S (i + 2)), (0, S (i + 3)), (0, S (i + 4)), (0, S (i + 5))]) (st := []) (by decide +kernel) cv_m10_hear rfl rfl in_m10_hear se_m10_hear lk_L_101 rfl (show 7 < 903 by omega) (Nat.le_of_ble_eq_true rfl) (p_hear (Q := fun v w M2 => v = w ∧ INV M2) hinv (fun v M' h => ⟨rfl, h⟩)) (fun r M1 hr h97 => ?_)
  have hM1 : M1 97 = S := (h97 97 (by decide)).trans hM
  refine A_aload_n (i := 2) (f := 2) (by omega) rfl (by decide +kernel) rfl ?_
  refine A_aload_n (i := 0) (f := 0) (by omega) rfl (by decide +kernel) rfl ?_
  refine A_iload (i := 4) (by decide +kernel) rfl ?_
  refine A_iconst (a := 1) (by decide +kernel) (by unfold in32; omega) ?_
  refine A_iadd (by decide +kernel) ?_
  refine B_sald (v := S (i + 1)) (by decide +kernel) (by rw [e1, hM1, hS]; omega) (by rw [e1, Int.toNat_natCast, Int.toNat_natCast, hM1]) ?_
  refine A_aload_n (i := 0) (f := 0) (by omega) rfl (by decide +kernel) rfl ?_
  refine A_iload (i := 4) (by decide +kernel) rfl ?_
  refine A_iconst (a := 2) (by decide +kernel) (by unfold in32; omega) ?_
  refine A_iadd (by decide +kernel) ?_
  refine B_sald (v := S (i + 2)) (by decide +kernel) (by rw [e2, hM1, hS]; omega) (by rw [e2, Int.toNat_natCast, Int.toNat_natCast, hM1]) ?_
  refine A_aload_n (i := 0) (f := 0) (by omega) rfl (by decide +kernel) rfl ?_
  refine A_iload (i := 4) (by decide +kernel) rfl ?_
  refine A_iconst (a := 3) (by decide +kernel) (by unfold in32; omega) ?_
  refine A_iadd (by decide +kernel) ?_
  refine B_sald (v := S (i + 3)) (by decide +kernel) (by rw [e3, hM1, hS]; omega) (by rw [e3, Int.toNat_natCast, Int.toNat_natCast, hM1]) ?_
  refine A_aload_n (i := 0) (f := 0) (by omega) rfl (by decide +kernel) rfl ?_
  refine A_iload (i := 4) (by decide +kernel) rfl ?_
  refine A_iconst (a := 4) (by decide +kernel) (by unfold in32; omega) ?_
  refine A_iadd (by decide +kernel) ?_
  refine B_sald (v := S (i + 4)) (by decide +kernel) (by rw [e4, hM1, hS]; omega) (by rw [e4, Int.toNat_natCast, Int.toNat_natCast, hM1]) ?_
  refine A_aload_n (i := 0) (f := 0) (by omega) rfl (by decide +kernel) rfl ?_
  refine A_iload (i := 4) (by decide +kernel) rfl ?_
  refine A_iconst (a := 5) (by decide +kernel) (by unfold in32; omega) ?_
  refine A_iadd (by decide +kernel) ?_
  refine B_sald (v := S (i + 5)) (by decide +kernel) (by rw [e5, hM1, hS]; omega) (by rw [e5, Int.toNat_natCast, Int.toNat_natCast, hM1]) ?_
  refine L_cVi (q := (RX11, TX11, 59)) (ci := 10) (o := ((59 : Nat) : Int)) (args := [(0, S (i + 1)), (0, S (i + 2)), (0, S (i + 3)), (0, S (i + 4)), (0, S (i + 5))]) (st := [(0, r)]) (by decide +kernel) cv_m11_hear rfl rfl in_m11_hear se_m11_hear lk_L_104 rfl (show 5 < 903 by omega) (Nat.le_of_ble_eq_true rfl) hr (fun r2 M2 hr2 h97b => ?_)
  obtain ⟨e, hinv2⟩ := hr2
  have hM2 : M2 97 = S := (h97b 97 (by decide)).trans hM1
  exact A_ic_eq (off := 377) (tgt := 1438) (by decide +kernel) (by omega) (fun _ => kk M2 hinv2 hM2) (fun b => absurd e b)
theorem lc_18 {S : Nat → Int} {L i al : Nat} {M : Mem} {K : List AV → Mem → Prop} (hp : PC2 S L i M) (kk : ∀ M', INV M' → M' 97 = S → A mLaw 903 al 1438 [(33, ((97 : Nat) : Int)), (19, ((0 : Nat) : Int)), (20, ((59 : Nat) : Int)), (32, ((93 : Nat) : Int)), (0, (i : Int)), (2, 0), (2, 0)] [] M' K) : A mLaw 903 al 1066 [(33, ((97 : Nat) : Int)), (19, ((0 : Nat) : Int)), (20, ((59 : Nat) : Int)), (32, ((93 : Nat) : Int)), (0, (i : Int)), (2, 0), (2, 0)] [] M K := by
  obtain ⟨hinv, hM, hS, hi, hL⟩ := hp
  have e1 : w32 ((i : Int) + 1) = ((i + 1 : Nat) : Int) := by rw [w32_id (by omega) (by omega)]; omega
  have e2 : w32 ((i : Int) + 2) = ((i + 2 : Nat) : Int) := by rw [w32_id (by omega) (by omega)]; omega
  have e3 : w32 ((i : Int) + 3) = ((i + 3 : Nat) : Int) := by rw [w32_id (by omega) (by omega)]; omega
  have e4 : w32 ((i : Int) + 4) = ((i + 4 : Nat) : Int) := by rw [w32_id (by omega) (by omega)]; omega
  have e5 : w32 ((i : Int) + 5) = ((i + 5 : Nat) : Int) := by rw [w32_id (by omega) (by omega)]; omega
  refine A_aload_n (i := 1) (f := 1) (by omega) rfl (by decide +kernel) rfl ?_
  refine A_aload_n (i := 0) (f := 0) (by omega) rfl (by decide +kernel) rfl ?_
  refine A_iload (i := 4) (by decide +kernel) rfl ?_
  refine A_iconst (a := 1) (by decide +kernel) (by unfold in32; omega) ?_
  refine A_iadd (by decide +kernel) ?_
  refine B_sald (v := S (i + 1)) (by decide +kernel) (by rw [e1, hM, hS]; omega) (by rw [e1, Int.toNat_natCast, Int.toNat_natCast, hM]) ?_
  refine L_cVi (q := (RX10, TX10, 13)) (ci := 9) (o := ((0 : Nat) : Int)) (args := [(0, S (i + 1))]) (st := []) (by decide +kernel) cv_m10_unhear rfl rfl in_m10_unhear se_m10_unhear lk_L_105 rfl (show 3 < 903 by omega) (Nat.le_of_ble_eq_true rfl) (p_unhear (Q := fun v w M2 => v = w ∧ INV M2) hinv (fun v M' h => ⟨rfl, h⟩)) (fun r M1 hr h97 => ?_)
  have hM1 : M1 97 = S := (h97 97 (by decide)).trans hM
  refine A_aload_n (i := 2) (f := 2) (by omega) rfl (by decide +kernel) rfl ?_
  refine A_aload_n (i := 0) (f := 0) (by omega) rfl (by decide +kernel) rfl ?_
  refine A_iload (i := 4) (by decide +kernel) rfl ?_
  refine A_iconst (a := 1) (by decide +kernel) (by unfold in32; omega) ?_
  refine A_iadd (by decide +kernel) ?_
  refine B_sald (v := S (i + 1)) (by decide +kernel) (by rw [e1, hM1, hS]; omega) (by rw [e1, Int.toNat_natCast, Int.toNat_natCast, hM1]) ?_
  refine L_cVi (q := (RX11, TX11, 59)) (ci := 10) (o := ((59 : Nat) : Int)) (args := [(0, S (i + 1))]) (st := [(0, r)]) (by decide +kernel) cv_m11_unhear rfl rfl in_m11_unhear se_m11_unhear lk_L_108 rfl (show 1 < 903 by omega) (Nat.le_of_ble_eq_true rfl) hr (fun r2 M2 hr2 h97b => ?_)
  obtain ⟨e, hinv2⟩ := hr2
  have hM2 : M2 97 = S := (h97b 97 (by decide)).trans hM1
  exact A_ic_eq (off := 352) (tgt := 1438) (by decide +kernel) (by omega) (fun _ => kk M2 hinv2 hM2) (fun b => absurd e b)
theorem lc_19 {S : Nat → Int} {L i al : Nat} {M : Mem} {K : List AV → Mem → Prop} (hp : PC2 S L i M) (kk : ∀ M', INV M' → M' 97 = S → A mLaw 903 al 1438 [(33, ((97 : Nat) : Int)), (19, ((0 : Nat) : Int)), (20, ((59 : Nat) : Int)), (32, ((93 : Nat) : Int)), (0, (i : Int)), (2, 0), (2, 0)] [] M' K) : A mLaw 903 al 1091 [(33, ((97 : Nat) : Int)), (19, ((0 : Nat) : Int)), (20, ((59 : Nat) : Int)), (32, ((93 : Nat) : Int)), (0, (i : Int)), (2, 0), (2, 0)] [] M K := by
  obtain ⟨hinv, hM, hS, hi, hL⟩ := hp
  have e1 : w32 ((i : Int) + 1) = ((i + 1 : Nat) : Int) := by rw [w32_id (by omega) (by omega)]; omega
  have e2 : w32 ((i : Int) + 2) = ((i + 2 : Nat) : Int) := by rw [w32_id (by omega) (by omega)]; omega
  have e3 : w32 ((i : Int) + 3) = ((i + 3 : Nat) : Int) := by rw [w32_id (by omega) (by omega)]; omega
  have e4 : w32 ((i : Int) + 4) = ((i + 4 : Nat) : Int) := by rw [w32_id (by omega) (by omega)]; omega
  have e5 : w32 ((i : Int) + 5) = ((i + 5 : Nat) : Int) := by rw [w32_id (by omega) (by omega)]; omega
  refine A_aload_n (i := 1) (f := 1) (by omega) rfl (by decide +kernel) rfl ?_
  refine A_aload_n (i := 0) (f := 0) (by omega) rfl (by decide +kernel) rfl ?_
  refine A_iload (i := 4) (by decide +kernel) rfl ?_
  refine A_iconst (a := 1) (by decide +kernel) (by unfold in32; omega) ?_
  refine A_iadd (by decide +kernel) ?_
  refine B_sald (v := S (i + 1)) (by decide +kernel) (by rw [e1, hM, hS]; omega) (by rw [e1, Int.toNat_natCast, Int.toNat_natCast, hM]) ?_
  refine L_cVi (q := (RX10, TX10, 13)) (ci := 9) (o := ((0 : Nat) : Int)) (args := [(0, S (i + 1))]) (st := []) (by decide +kernel) cv_m10_known rfl rfl in_m10_known se_m10_known lk_L_109 rfl (show 1 < 903 by omega) (Nat.le_of_ble_eq_true rfl) (p_known (Q := fun v w M2 => v = w ∧ INV M2) hinv (fun v M' h => ⟨rfl, h⟩)) (fun r M1 hr h97 => ?_)
  have hM1 : M1 97 = S := (h97 97 (by decide)).trans hM
  refine A_aload_n (i := 2) (f := 2) (by omega) rfl (by decide +kernel) rfl ?_
  refine A_aload_n (i := 0) (f := 0) (by omega) rfl (by decide +kernel) rfl ?_
  refine A_iload (i := 4) (by decide +kernel) rfl ?_
  refine A_iconst (a := 1) (by decide +kernel) (by unfold in32; omega) ?_
  refine A_iadd (by decide +kernel) ?_
  refine B_sald (v := S (i + 1)) (by decide +kernel) (by rw [e1, hM1, hS]; omega) (by rw [e1, Int.toNat_natCast, Int.toNat_natCast, hM1]) ?_
  refine L_cVi (q := (RX11, TX11, 59)) (ci := 10) (o := ((59 : Nat) : Int)) (args := [(0, S (i + 1))]) (st := [(0, r)]) (by decide +kernel) cv_m11_known rfl rfl in_m11_known se_m11_known lk_L_112 rfl (show 1 < 903 by omega) (Nat.le_of_ble_eq_true rfl) hr (fun r2 M2 hr2 h97b => ?_)
  obtain ⟨e, hinv2⟩ := hr2
  have hM2 : M2 97 = S := (h97b 97 (by decide)).trans hM1
  exact A_ic_eq (off := 327) (tgt := 1438) (by decide +kernel) (by omega) (fun _ => kk M2 hinv2 hM2) (fun b => absurd e b)
theorem lc_20 {S : Nat → Int} {L i al : Nat} {M : Mem} {K : List AV → Mem → Prop} (hp : PC2 S L i M) (kk : ∀ M', INV M' → M' 97 = S → A mLaw 903 al 1438 [(33, ((97 : Nat) : Int)), (19, ((0 : Nat) : Int)), (20, ((59 : Nat) : Int)), (32, ((93 : Nat) : Int)), (0, (i : Int)), (2, 0), (2, 0)] [] M' K) : A mLaw 903 al 1116 [(33, ((97 : Nat) : Int)), (19, ((0 : Nat) : Int)), (20, ((59 : Nat) : Int)), (32, ((93 : Nat) : Int)), (0, (i : Int)), (2, 0), (2, 0)] [] M K := by
  obtain ⟨hinv, hM, hS, hi, hL⟩ := hp
  have e1 : w32 ((i : Int) + 1) = ((i + 1 : Nat) : Int) := by rw [w32_id (by omega) (by omega)]; omega
  have e2 : w32 ((i : Int) + 2) = ((i + 2 : Nat) : Int) := by rw [w32_id (by omega) (by omega)]; omega
  have e3 : w32 ((i : Int) + 3) = ((i + 3 : Nat) : Int) := by rw [w32_id (by omega) (by omega)]; omega
  have e4 : w32 ((i : Int) + 4) = ((i + 4 : Nat) : Int) := by rw [w32_id (by omega) (by omega)]; omega
  have e5 : w32 ((i : Int) + 5) = ((i + 5 : Nat) : Int) := by rw [w32_id (by omega) (by omega)]; omega
  refine A_aload_n (i := 1) (f := 1) (by omega) rfl (by decide +kernel) rfl ?_
  refine L_cVi (q := (RX10, TX10, 13)) (ci := 9) (o := ((0 : Nat) : Int)) (args := []) (st := []) (by decide +kernel) cv_m10_possible rfl rfl in_m10_possible se_m10_possible lk_L_113 rfl (show 6 < 903 by omega) (Nat.le_of_ble_eq_true rfl) (p_possible (Q := fun v w M2 => v = w ∧ INV M2) hinv (fun v M' h => ⟨rfl, h⟩)) (fun r M1 hr h97 => ?_)
  have hM1 : M1 97 = S := (h97 97 (by decide)).trans hM
  refine A_aload_n (i := 2) (f := 2) (by omega) rfl (by decide +kernel) rfl ?_
  refine L_cVi (q := (RX11, TX11, 59)) (ci := 10) (o := ((59 : Nat) : Int)) (args := []) (st := [(0, r)]) (by decide +kernel) cv_m11_possible rfl rfl in_m11_possible se_m11_possible lk_L_116 rfl (show 7 < 903 by omega) (Nat.le_of_ble_eq_true rfl) hr (fun r2 M2 hr2 h97b => ?_)
  obtain ⟨e, hinv2⟩ := hr2
  have hM2 : M2 97 = S := (h97b 97 (by decide)).trans hM1
  exact A_ic_eq (off := 314) (tgt := 1438) (by decide +kernel) (by omega) (fun _ => kk M2 hinv2 hM2) (fun b => absurd e b)
theorem lc_21 {S : Nat → Int} {L i al : Nat} {M : Mem} {K : List AV → Mem → Prop} (hp : PC2 S L i M) (kk : ∀ M', INV M' → M' 97 = S → A mLaw 903 al 1438 [(33, ((97 : Nat) : Int)), (19, ((0 : Nat) : Int)), (20, ((59 : Nat) : Int)), (32, ((93 : Nat) : Int)), (0, (i : Int)), (2, 0), (2, 0)] [] M' K) : A mLaw 903 al 1129 [(33, ((97 : Nat) : Int)), (19, ((0 : Nat) : Int)), (20, ((59 : Nat) : Int)), (32, ((93 : Nat) : Int)), (0, (i : Int)), (2, 0), (2, 0)] [] M K := by
  obtain ⟨hinv, hM, hS, hi, hL⟩ := hp
  have e1 : w32 ((i : Int) + 1) = ((i + 1 : Nat) : Int) := by rw [w32_id (by omega) (by omega)]; omega
  have e2 : w32 ((i : Int) + 2) = ((i + 2 : Nat) : Int) := by rw [w32_id (by omega) (by omega)]; omega
  have e3 : w32 ((i : Int) + 3) = ((i + 3 : Nat) : Int) := by rw [w32_id (by omega) (by omega)]; omega
  have e4 : w32 ((i : Int) + 4) = ((i + 4 : Nat) : Int) := by rw [w32_id (by omega) (by omega)]; omega
  have e5 : w32 ((i : Int) + 5) = ((i + 5 : Nat) : Int) := by rw [w32_id (by omega) (by omega)]; omega
  refine A_aload_n (i := 1) (f := 1) (by omega) rfl (by decide +kernel) rfl ?_
  refine A_aload_n (i := 0) (f := 0) (by omega) rfl (by decide +kernel) rfl ?_
  refine A_iload (i := 4) (by decide +kernel) rfl ?_
  refine A_iconst (a := 1) (by decide +kernel) (by unfold in32; omega) ?_
  refine A_iadd (by decide +kernel) ?_
  refine B_sald (v := S (i + 1)) (by decide +kernel) (by rw [e1, hM, hS]; omega) (by rw [e1, Int.toNat_natCast, Int.toNat_natCast, hM]) ?_
  refine A_aload_n (i := 0) (f := 0) (by omega) rfl (by decide +kernel) rfl ?_
  refine A_iload (i := 4) (by decide +kernel) rfl ?_
  refine A_iconst (a := 2) (by decide +kernel) (by unfold in32; omega) ?_
  refine A_iadd (by decide +kernel) ?_
  refine B_sald (v := S (i + 2)) (by decide +kernel) (by rw [e2, hM, hS]; omega) (by rw [e2, Int.toNat_natCast, Int.toNat_natCast, hM]) ?_
  refine L_cVi (q := (RX10, TX10, 13)) (ci := 9) (o := ((0 : Nat) : Int)) (args := [(0, S (i + 1)), (0, S (i + 2))]) (st := []) (by decide +kernel) cv_m10_sure rfl rfl in_m10_sure se_m10_sure lk_L_117 rfl (show 6 < 903 by omega) (Nat.le_of_ble_eq_true rfl) (p_sure (Q := fun v w M2 => v = w ∧ INV M2) hinv (fun v M' h => ⟨rfl, h⟩)) (fun r M1 hr h97 => ?_)
  have hM1 : M1 97 = S := (h97 97 (by decide)).trans hM
  refine A_aload_n (i := 2) (f := 2) (by omega) rfl (by decide +kernel) rfl ?_
  refine A_aload_n (i := 0) (f := 0) (by omega) rfl (by decide +kernel) rfl ?_
  refine A_iload (i := 4) (by decide +kernel) rfl ?_
  refine A_iconst (a := 1) (by decide +kernel) (by unfold in32; omega) ?_
  refine A_iadd (by decide +kernel) ?_
  refine B_sald (v := S (i + 1)) (by decide +kernel) (by rw [e1, hM1, hS]; omega) (by rw [e1, Int.toNat_natCast, Int.toNat_natCast, hM1]) ?_
  refine A_aload_n (i := 0) (f := 0) (by omega) rfl (by decide +kernel) rfl ?_
  refine A_iload (i := 4) (by decide +kernel) rfl ?_
  refine A_iconst (a := 2) (by decide +kernel) (by unfold in32; omega) ?_
  refine A_iadd (by decide +kernel) ?_
  refine B_sald (v := S (i + 2)) (by decide +kernel) (by rw [e2, hM1, hS]; omega) (by rw [e2, Int.toNat_natCast, Int.toNat_natCast, hM1]) ?_
  refine L_cVi (q := (RX11, TX11, 59)) (ci := 10) (o := ((59 : Nat) : Int)) (args := [(0, S (i + 1)), (0, S (i + 2))]) (st := [(0, r)]) (by decide +kernel) cv_m11_sure rfl rfl in_m11_sure se_m11_sure lk_L_120 rfl (show 7 < 903 by omega) (Nat.le_of_ble_eq_true rfl) hr (fun r2 M2 hr2 h97b => ?_)
  obtain ⟨e, hinv2⟩ := hr2
  have hM2 : M2 97 = S := (h97b 97 (by decide)).trans hM1
  exact A_ic_eq (off := 277) (tgt := 1438) (by decide +kernel) (by omega) (fun _ => kk M2 hinv2 hM2) (fun b => absurd e b)
theorem lc_22 {S : Nat → Int} {L i al : Nat} {M : Mem} {K : List AV → Mem → Prop} (hp : PC2 S L i M) (kk : ∀ M', INV M' → M' 97 = S → A mLaw 903 al 1438 [(33, ((97 : Nat) : Int)), (19, ((0 : Nat) : Int)), (20, ((59 : Nat) : Int)), (32, ((93 : Nat) : Int)), (0, (i : Int)), (2, 0), (2, 0)] [] M' K) : A mLaw 903 al 1166 [(33, ((97 : Nat) : Int)), (19, ((0 : Nat) : Int)), (20, ((59 : Nat) : Int)), (32, ((93 : Nat) : Int)), (0, (i : Int)), (2, 0), (2, 0)] [] M K := by
  obtain ⟨hinv, hM, hS, hi, hL⟩ := hp
  have e1 : w32 ((i : Int) + 1) = ((i + 1 : Nat) : Int) := by rw [w32_id (by omega) (by omega)]; omega
  have e2 : w32 ((i : Int) + 2) = ((i + 2 : Nat) : Int) := by rw [w32_id (by omega) (by omega)]; omega
  have e3 : w32 ((i : Int) + 3) = ((i + 3 : Nat) : Int) := by rw [w32_id (by omega) (by omega)]; omega
  have e4 : w32 ((i : Int) + 4) = ((i + 4 : Nat) : Int) := by rw [w32_id (by omega) (by omega)]; omega
  have e5 : w32 ((i : Int) + 5) = ((i + 5 : Nat) : Int) := by rw [w32_id (by omega) (by omega)]; omega
  refine A_aload_n (i := 1) (f := 1) (by omega) rfl (by decide +kernel) rfl ?_
  refine L_cVi (q := (RX10, TX10, 13)) (ci := 9) (o := ((0 : Nat) : Int)) (args := []) (st := []) (by decide +kernel) cv_m10_cannot rfl rfl in_m10_cannot se_m10_cannot lk_L_121 rfl (show 6 < 903 by omega) (Nat.le_of_ble_eq_true rfl) (p_cannot (Q := fun v w M2 => v = w ∧ INV M2) hinv (fun v M' h => ⟨rfl, h⟩)) (fun r M1 hr h97 => ?_)
  have hM1 : M1 97 = S := (h97 97 (by decide)).trans hM
  refine A_aload_n (i := 2) (f := 2) (by omega) rfl (by decide +kernel) rfl ?_
  refine L_cVi (q := (RX11, TX11, 59)) (ci := 10) (o := ((59 : Nat) : Int)) (args := []) (st := [(0, r)]) (by decide +kernel) cv_m11_cannot rfl rfl in_m11_cannot se_m11_cannot lk_L_124 rfl (show 7 < 903 by omega) (Nat.le_of_ble_eq_true rfl) hr (fun r2 M2 hr2 h97b => ?_)
  obtain ⟨e, hinv2⟩ := hr2
  have hM2 : M2 97 = S := (h97b 97 (by decide)).trans hM1
  exact A_ic_eq (off := 264) (tgt := 1438) (by decide +kernel) (by omega) (fun _ => kk M2 hinv2 hM2) (fun b => absurd e b)
theorem lc_23 {S : Nat → Int} {L i al : Nat} {M : Mem} {K : List AV → Mem → Prop} (hp : PC2 S L i M) (kk : ∀ M', INV M' → M' 97 = S → A mLaw 903 al 1438 [(33, ((97 : Nat) : Int)), (19, ((0 : Nat) : Int)), (20, ((59 : Nat) : Int)), (32, ((93 : Nat) : Int)), (0, (i : Int)), (2, 0), (2, 0)] [] M' K) : A mLaw 903 al 1179 [(33, ((97 : Nat) : Int)), (19, ((0 : Nat) : Int)), (20, ((59 : Nat) : Int)), (32, ((93 : Nat) : Int)), (0, (i : Int)), (2, 0), (2, 0)] [] M K := by
  obtain ⟨hinv, hM, hS, hi, hL⟩ := hp
  have e1 : w32 ((i : Int) + 1) = ((i + 1 : Nat) : Int) := by rw [w32_id (by omega) (by omega)]; omega
  have e2 : w32 ((i : Int) + 2) = ((i + 2 : Nat) : Int) := by rw [w32_id (by omega) (by omega)]; omega
  have e3 : w32 ((i : Int) + 3) = ((i + 3 : Nat) : Int) := by rw [w32_id (by omega) (by omega)]; omega
  have e4 : w32 ((i : Int) + 4) = ((i + 4 : Nat) : Int) := by rw [w32_id (by omega) (by omega)]; omega
  have e5 : w32 ((i : Int) + 5) = ((i + 5 : Nat) : Int) := by rw [w32_id (by omega) (by omega)]; omega
  refine A_aload_n (i := 1) (f := 1) (by omega) rfl (by decide +kernel) rfl ?_
  refine A_aload_n (i := 0) (f := 0) (by omega) rfl (by decide +kernel) rfl ?_
  refine A_iload (i := 4) (by decide +kernel) rfl ?_
  refine A_iconst (a := 1) (by decide +kernel) (by unfold in32; omega) ?_
  refine A_iadd (by decide +kernel) ?_
  refine B_sald (v := S (i + 1)) (by decide +kernel) (by rw [e1, hM, hS]; omega) (by rw [e1, Int.toNat_natCast, Int.toNat_natCast, hM]) ?_
  refine A_aload_n (i := 0) (f := 0) (by omega) rfl (by decide +kernel) rfl ?_
  refine A_iload (i := 4) (by decide +kernel) rfl ?_
  refine A_iconst (a := 2) (by decide +kernel) (by unfold in32; omega) ?_
  refine A_iadd (by decide +kernel) ?_
  refine B_sald (v := S (i + 2)) (by decide +kernel) (by rw [e2, hM, hS]; omega) (by rw [e2, Int.toNat_natCast, Int.toNat_natCast, hM]) ?_
  refine A_aload_n (i := 0) (f := 0) (by omega) rfl (by decide +kernel) rfl ?_
  refine A_iload (i := 4) (by decide +kernel) rfl ?_
  refine A_iconst (a := 3) (by decide +kernel) (by unfold in32; omega) ?_
  refine A_iadd (by decide +kernel) ?_
  refine B_sald (v := S (i + 3)) (by decide +kernel) (by rw [e3, hM, hS]; omega) (by rw [e3, Int.toNat_natCast, Int.toNat_natCast, hM]) ?_
  refine L_cVi (q := (RX10, TX10, 13)) (ci := 9) (o := ((0 : Nat) : Int)) (args := [(0, S (i + 1)), (0, S (i + 2)), (0, S (i + 3))]) (st := []) (by decide +kernel) cv_m10_order rfl rfl in_m10_order se_m10_order lk_L_125 rfl (show 6 < 903 by omega) (Nat.le_of_ble_eq_true rfl) (p_order (Q := fun v w M2 => v = w ∧ INV M2) hinv (fun v M' h => ⟨rfl, h⟩)) (fun r M1 hr h97 => ?_)
  have hM1 : M1 97 = S := (h97 97 (by decide)).trans hM
  refine A_aload_n (i := 2) (f := 2) (by omega) rfl (by decide +kernel) rfl ?_
  refine A_aload_n (i := 0) (f := 0) (by omega) rfl (by decide +kernel) rfl ?_
  refine A_iload (i := 4) (by decide +kernel) rfl ?_
  refine A_iconst (a := 1) (by decide +kernel) (by unfold in32; omega) ?_
  refine A_iadd (by decide +kernel) ?_
  refine B_sald (v := S (i + 1)) (by decide +kernel) (by rw [e1, hM1, hS]; omega) (by rw [e1, Int.toNat_natCast, Int.toNat_natCast, hM1]) ?_
  refine A_aload_n (i := 0) (f := 0) (by omega) rfl (by decide +kernel) rfl ?_
  refine A_iload (i := 4) (by decide +kernel) rfl ?_
  refine A_iconst (a := 2) (by decide +kernel) (by unfold in32; omega) ?_
  refine A_iadd (by decide +kernel) ?_
  refine B_sald (v := S (i + 2)) (by decide +kernel) (by rw [e2, hM1, hS]; omega) (by rw [e2, Int.toNat_natCast, Int.toNat_natCast, hM1]) ?_
  refine A_aload_n (i := 0) (f := 0) (by omega) rfl (by decide +kernel) rfl ?_
  refine A_iload (i := 4) (by decide +kernel) rfl ?_
  refine A_iconst (a := 3) (by decide +kernel) (by unfold in32; omega) ?_
  refine A_iadd (by decide +kernel) ?_
  refine B_sald (v := S (i + 3)) (by decide +kernel) (by rw [e3, hM1, hS]; omega) (by rw [e3, Int.toNat_natCast, Int.toNat_natCast, hM1]) ?_
  refine L_cVi (q := (RX11, TX11, 59)) (ci := 10) (o := ((59 : Nat) : Int)) (args := [(0, S (i + 1)), (0, S (i + 2)), (0, S (i + 3))]) (st := [(0, r)]) (by decide +kernel) cv_m11_order rfl rfl in_m11_order se_m11_order lk_L_128 rfl (show 7 < 903 by omega) (Nat.le_of_ble_eq_true rfl) hr (fun r2 M2 hr2 h97b => ?_)
  obtain ⟨e, hinv2⟩ := hr2
  have hM2 : M2 97 = S := (h97b 97 (by decide)).trans hM1
  exact A_ic_eq (off := 215) (tgt := 1438) (by decide +kernel) (by omega) (fun _ => kk M2 hinv2 hM2) (fun b => absurd e b)
theorem lc_24 {S : Nat → Int} {L i al : Nat} {M : Mem} {K : List AV → Mem → Prop} (hp : PC2 S L i M) (kk : ∀ M', INV M' → M' 97 = S → A mLaw 903 al 1438 [(33, ((97 : Nat) : Int)), (19, ((0 : Nat) : Int)), (20, ((59 : Nat) : Int)), (32, ((93 : Nat) : Int)), (0, (i : Int)), (2, 0), (2, 0)] [] M' K) : A mLaw 903 al 1228 [(33, ((97 : Nat) : Int)), (19, ((0 : Nat) : Int)), (20, ((59 : Nat) : Int)), (32, ((93 : Nat) : Int)), (0, (i : Int)), (2, 0), (2, 0)] [] M K := by
  obtain ⟨hinv, hM, hS, hi, hL⟩ := hp
  have e1 : w32 ((i : Int) + 1) = ((i + 1 : Nat) : Int) := by rw [w32_id (by omega) (by omega)]; omega
  have e2 : w32 ((i : Int) + 2) = ((i + 2 : Nat) : Int) := by rw [w32_id (by omega) (by omega)]; omega
  have e3 : w32 ((i : Int) + 3) = ((i + 3 : Nat) : Int) := by rw [w32_id (by omega) (by omega)]; omega
  have e4 : w32 ((i : Int) + 4) = ((i + 4 : Nat) : Int) := by rw [w32_id (by omega) (by omega)]; omega
  have e5 : w32 ((i : Int) + 5) = ((i + 5 : Nat) : Int) := by rw [w32_id (by omega) (by omega)]; omega
  refine A_aload_n (i := 1) (f := 1) (by omega) rfl (by decide +kernel) rfl ?_
  refine A_aload_n (i := 0) (f := 0) (by omega) rfl (by decide +kernel) rfl ?_
  refine A_iload (i := 4) (by decide +kernel) rfl ?_
  refine A_iconst (a := 1) (by decide +kernel) (by unfold in32; omega) ?_
  refine A_iadd (by decide +kernel) ?_
  refine B_sald (v := S (i + 1)) (by decide +kernel) (by rw [e1, hM, hS]; omega) (by rw [e1, Int.toNat_natCast, Int.toNat_natCast, hM]) ?_
  refine A_aload_n (i := 0) (f := 0) (by omega) rfl (by decide +kernel) rfl ?_
  refine A_iload (i := 4) (by decide +kernel) rfl ?_
  refine A_iconst (a := 2) (by decide +kernel) (by unfold in32; omega) ?_
  refine A_iadd (by decide +kernel) ?_
  refine B_sald (v := S (i + 2)) (by decide +kernel) (by rw [e2, hM, hS]; omega) (by rw [e2, Int.toNat_natCast, Int.toNat_natCast, hM]) ?_
  refine A_aload_n (i := 0) (f := 0) (by omega) rfl (by decide +kernel) rfl ?_
  refine A_iload (i := 4) (by decide +kernel) rfl ?_
  refine A_iconst (a := 3) (by decide +kernel) (by unfold in32; omega) ?_
  refine A_iadd (by decide +kernel) ?_
  refine B_sald (v := S (i + 3)) (by decide +kernel) (by rw [e3, hM, hS]; omega) (by rw [e3, Int.toNat_natCast, Int.toNat_natCast, hM]) ?_
  refine L_cVi (q := (RX10, TX10, 13)) (ci := 9) (o := ((0 : Nat) : Int)) (args := [(0, S (i + 1)), (0, S (i + 2)), (0, S (i + 3))]) (st := []) (by decide +kernel) cv_m10_letter rfl rfl in_m10_letter se_m10_letter lk_L_129 rfl (show 7 < 903 by omega) (Nat.le_of_ble_eq_true rfl) (p_letter (Q := fun v w M2 => v = w ∧ INV M2) hinv (fun v M' h => ⟨rfl, h⟩)) (fun r M1 hr h97 => ?_)
  have hM1 : M1 97 = S := (h97 97 (by decide)).trans hM
  refine A_aload_n (i := 2) (f := 2) (by omega) rfl (by decide +kernel) rfl ?_
  refine A_aload_n (i := 0) (f := 0) (by omega) rfl (by decide +kernel) rfl ?_
  refine A_iload (i := 4) (by decide +kernel) rfl ?_
  refine A_iconst (a := 1) (by decide +kernel) (by unfold in32; omega) ?_
  refine A_iadd (by decide +kernel) ?_
  refine B_sald (v := S (i + 1)) (by decide +kernel) (by rw [e1, hM1, hS]; omega) (by rw [e1, Int.toNat_natCast, Int.toNat_natCast, hM1]) ?_
  refine A_aload_n (i := 0) (f := 0) (by omega) rfl (by decide +kernel) rfl ?_
  refine A_iload (i := 4) (by decide +kernel) rfl ?_
  refine A_iconst (a := 2) (by decide +kernel) (by unfold in32; omega) ?_
  refine A_iadd (by decide +kernel) ?_
  refine B_sald (v := S (i + 2)) (by decide +kernel) (by rw [e2, hM1, hS]; omega) (by rw [e2, Int.toNat_natCast, Int.toNat_natCast, hM1]) ?_
  refine A_aload_n (i := 0) (f := 0) (by omega) rfl (by decide +kernel) rfl ?_
  refine A_iload (i := 4) (by decide +kernel) rfl ?_
  refine A_iconst (a := 3) (by decide +kernel) (by unfold in32; omega) ?_
  refine A_iadd (by decide +kernel) ?_
  refine B_sald (v := S (i + 3)) (by decide +kernel) (by rw [e3, hM1, hS]; omega) (by rw [e3, Int.toNat_natCast, Int.toNat_natCast, hM1]) ?_
  refine L_cVi (q := (RX11, TX11, 59)) (ci := 10) (o := ((59 : Nat) : Int)) (args := [(0, S (i + 1)), (0, S (i + 2)), (0, S (i + 3))]) (st := [(0, r)]) (by decide +kernel) cv_m11_letter rfl rfl in_m11_letter se_m11_letter lk_L_132 rfl (show 6 < 903 by omega) (Nat.le_of_ble_eq_true rfl) hr (fun r2 M2 hr2 h97b => ?_)
  obtain ⟨e, hinv2⟩ := hr2
  have hM2 : M2 97 = S := (h97b 97 (by decide)).trans hM1
  exact A_ic_eq (off := 166) (tgt := 1438) (by decide +kernel) (by omega) (fun _ => kk M2 hinv2 hM2) (fun b => absurd e b)
theorem lc_25 {S : Nat → Int} {L i al : Nat} {M : Mem} {K : List AV → Mem → Prop} (hp : PC2 S L i M) (kk : ∀ M', INV M' → M' 97 = S → A mLaw 903 al 1438 [(33, ((97 : Nat) : Int)), (19, ((0 : Nat) : Int)), (20, ((59 : Nat) : Int)), (32, ((93 : Nat) : Int)), (0, (i : Int)), (2, 0), (2, 0)] [] M' K) : A mLaw 903 al 1277 [(33, ((97 : Nat) : Int)), (19, ((0 : Nat) : Int)), (20, ((59 : Nat) : Int)), (32, ((93 : Nat) : Int)), (0, (i : Int)), (2, 0), (2, 0)] [] M K := by
  obtain ⟨hinv, hM, hS, hi, hL⟩ := hp
  have e1 : w32 ((i : Int) + 1) = ((i + 1 : Nat) : Int) := by rw [w32_id (by omega) (by omega)]; omega
  have e2 : w32 ((i : Int) + 2) = ((i + 2 : Nat) : Int) := by rw [w32_id (by omega) (by omega)]; omega
  have e3 : w32 ((i : Int) + 3) = ((i + 3 : Nat) : Int) := by rw [w32_id (by omega) (by omega)]; omega
  have e4 : w32 ((i : Int) + 4) = ((i + 4 : Nat) : Int) := by rw [w32_id (by omega) (by omega)]; omega
  have e5 : w32 ((i : Int) + 5) = ((i + 5 : Nat) : Int) := by rw [w32_id (by omega) (by omega)]; omega
  refine A_aload_n (i := 1) (f := 1) (by omega) rfl (by decide +kernel) rfl ?_
  refine A_aload_n (i := 0) (f := 0) (by omega) rfl (by decide +kernel) rfl ?_
  refine A_iload (i := 4) (by decide +kernel) rfl ?_
  refine A_iconst (a := 1) (by decide +kernel) (by unfold in32; omega) ?_
  refine A_iadd (by decide +kernel) ?_
  refine B_sald (v := S (i + 1)) (by decide +kernel) (by rw [e1, hM, hS]; omega) (by rw [e1, Int.toNat_natCast, Int.toNat_natCast, hM]) ?_
  refine A_aload_n (i := 0) (f := 0) (by omega) rfl (by decide +kernel) rfl ?_
  refine A_iload (i := 4) (by decide +kernel) rfl ?_
  refine A_iconst (a := 2) (by decide +kernel) (by unfold in32; omega) ?_
  refine A_iadd (by decide +kernel) ?_
  refine B_sald (v := S (i + 2)) (by decide +kernel) (by rw [e2, hM, hS]; omega) (by rw [e2, Int.toNat_natCast, Int.toNat_natCast, hM]) ?_
  refine A_aload_n (i := 0) (f := 0) (by omega) rfl (by decide +kernel) rfl ?_
  refine A_iload (i := 4) (by decide +kernel) rfl ?_
  refine A_iconst (a := 3) (by decide +kernel) (by unfold in32; omega) ?_
  refine A_iadd (by decide +kernel) ?_
  refine B_sald (v := S (i + 3)) (by decide +kernel) (by rw [e3, hM, hS]; omega) (by rw [e3, Int.toNat_natCast, Int.toNat_natCast, hM]) ?_
  refine A_aload_n (i := 0) (f := 0) (by omega) rfl (by decide +kernel) rfl ?_
  refine A_iload (i := 4) (by decide +kernel) rfl ?_
  refine A_iconst (a := 4) (by decide +kernel) (by unfold in32; omega) ?_
  refine A_iadd (by decide +kernel) ?_
  refine B_sald (v := S (i + 4)) (by decide +kernel) (by rw [e4, hM, hS]; omega) (by rw [e4, Int.toNat_natCast, Int.toNat_natCast, hM]) ?_
  refine L_cVi (q := (RX10, TX10, 13)) (ci := 9) (o := ((0 : Nat) : Int)) (args := [(0, S (i + 1)), (0, S (i + 2)), (0, S (i + 3)), (0, S (i + 4))]) (st := []) (by decide +kernel) cv_m10_silence rfl rfl in_m10_silence se_m10_silence lk_L_133 rfl (show 7 < 903 by omega) (Nat.le_of_ble_eq_true rfl) (p_silence (Q := fun v w M2 => v = w ∧ INV M2) hinv (fun v M' h => ⟨rfl, h⟩)) (fun r M1 hr h97 => ?_)
  have hM1 : M1 97 = S := (h97 97 (by decide)).trans hM
  refine A_aload_n (i := 2) (f := 2) (by omega) rfl (by decide +kernel) rfl ?_
  refine A_aload_n (i := 0) (f := 0) (by omega) rfl (by decide +kernel) rfl ?_
  refine A_iload (i := 4) (by decide +kernel) rfl ?_
  refine A_iconst (a := 1) (by decide +kernel) (by unfold in32; omega) ?_
  refine A_iadd (by decide +kernel) ?_
  refine B_sald (v := S (i + 1)) (by decide +kernel) (by rw [e1, hM1, hS]; omega) (by rw [e1, Int.toNat_natCast, Int.toNat_natCast, hM1]) ?_
  refine A_aload_n (i := 0) (f := 0) (by omega) rfl (by decide +kernel) rfl ?_
  refine A_iload (i := 4) (by decide +kernel) rfl ?_
  refine A_iconst (a := 2) (by decide +kernel) (by unfold in32; omega) ?_
  refine A_iadd (by decide +kernel) ?_
  refine B_sald (v := S (i + 2)) (by decide +kernel) (by rw [e2, hM1, hS]; omega) (by rw [e2, Int.toNat_natCast, Int.toNat_natCast, hM1]) ?_
  refine A_aload_n (i := 0) (f := 0) (by omega) rfl (by decide +kernel) rfl ?_
  refine A_iload (i := 4) (by decide +kernel) rfl ?_
  refine A_iconst (a := 3) (by decide +kernel) (by unfold in32; omega) ?_
  refine A_iadd (by decide +kernel) ?_
  refine B_sald (v := S (i + 3)) (by decide +kernel) (by rw [e3, hM1, hS]; omega) (by rw [e3, Int.toNat_natCast, Int.toNat_natCast, hM1]) ?_
  refine A_aload_n (i := 0) (f := 0) (by omega) rfl (by decide +kernel) rfl ?_
  refine A_iload (i := 4) (by decide +kernel) rfl ?_
  refine A_iconst (a := 4) (by decide +kernel) (by unfold in32; omega) ?_
  refine A_iadd (by decide +kernel) ?_
  refine B_sald (v := S (i + 4)) (by decide +kernel) (by rw [e4, hM1, hS]; omega) (by rw [e4, Int.toNat_natCast, Int.toNat_natCast, hM1]) ?_
  refine L_cVi (q := (RX11, TX11, 59)) (ci := 10) (o := ((59 : Nat) : Int)) (args := [(0, S (i + 1)), (0, S (i + 2)), (0, S (i + 3)), (0, S (i + 4))]) (st := [(0, r)]) (by decide +kernel) cv_m11_silence rfl rfl in_m11_silence se_m11_silence lk_L_136 rfl (show 7 < 903 by omega) (Nat.le_of_ble_eq_true rfl) hr (fun r2 M2 hr2 h97b => ?_)
  obtain ⟨e, hinv2⟩ := hr2
  have hM2 : M2 97 = S := (h97b 97 (by decide)).trans hM1
  exact A_ic_eq (off := 105) (tgt := 1438) (by decide +kernel) (by omega) (fun _ => kk M2 hinv2 hM2) (fun b => absurd e b)
theorem lc_26 {S : Nat → Int} {L i al : Nat} {M : Mem} {K : List AV → Mem → Prop} (hp : PC2 S L i M) (kk : ∀ M', INV M' → M' 97 = S → A mLaw 903 al 1438 [(33, ((97 : Nat) : Int)), (19, ((0 : Nat) : Int)), (20, ((59 : Nat) : Int)), (32, ((93 : Nat) : Int)), (0, (i : Int)), (2, 0), (2, 0)] [] M' K) : A mLaw 903 al 1338 [(33, ((97 : Nat) : Int)), (19, ((0 : Nat) : Int)), (20, ((59 : Nat) : Int)), (32, ((93 : Nat) : Int)), (0, (i : Int)), (2, 0), (2, 0)] [] M K := by
  obtain ⟨hinv, hM, hS, hi, hL⟩ := hp
  have e1 : w32 ((i : Int) + 1) = ((i + 1 : Nat) : Int) := by rw [w32_id (by omega) (by omega)]; omega
  have e2 : w32 ((i : Int) + 2) = ((i + 2 : Nat) : Int) := by rw [w32_id (by omega) (by omega)]; omega
  have e3 : w32 ((i : Int) + 3) = ((i + 3 : Nat) : Int) := by rw [w32_id (by omega) (by omega)]; omega
  have e4 : w32 ((i : Int) + 4) = ((i + 4 : Nat) : Int) := by rw [w32_id (by omega) (by omega)]; omega
  have e5 : w32 ((i : Int) + 5) = ((i + 5 : Nat) : Int) := by rw [w32_id (by omega) (by omega)]; omega
  refine A_aload_n (i := 1) (f := 1) (by omega) rfl (by decide +kernel) rfl ?_
  refine A_aload_n (i := 0) (f := 0) (by omega) rfl (by decide +kernel) rfl ?_
  refine A_iload (i := 4) (by decide +kernel) rfl ?_
  refine A_iconst (a := 1) (by decide +kernel) (by unfold in32; omega) ?_
  refine A_iadd (by decide +kernel) ?_
  refine B_sald (v := S (i + 1)) (by decide +kernel) (by rw [e1, hM, hS]; omega) (by rw [e1, Int.toNat_natCast, Int.toNat_natCast, hM]) ?_
  refine A_aload_n (i := 0) (f := 0) (by omega) rfl (by decide +kernel) rfl ?_
  refine A_iload (i := 4) (by decide +kernel) rfl ?_
  refine A_iconst (a := 2) (by decide +kernel) (by unfold in32; omega) ?_
  refine A_iadd (by decide +kernel) ?_
  refine B_sald (v := S (i + 2)) (by decide +kernel) (by rw [e2, hM, hS]; omega) (by rw [e2, Int.toNat_natCast, Int.toNat_natCast, hM]) ?_
  refine A_aload_n (i := 0) (f := 0) (by omega) rfl (by decide +kernel) rfl ?_
  refine A_iload (i := 4) (by decide +kernel) rfl ?_
  refine A_iconst (a := 3) (by decide +kernel) (by unfold in32; omega) ?_
  refine A_iadd (by decide +kernel) ?_
  refine B_sald (v := S (i + 3)) (by decide +kernel) (by rw [e3, hM, hS]; omega) (by rw [e3, Int.toNat_natCast, Int.toNat_natCast, hM]) ?_
  refine L_cVi (q := (RX10, TX10, 13)) (ci := 9) (o := ((0 : Nat) : Int)) (args := [(0, S (i + 1)), (0, S (i + 2)), (0, S (i + 3))]) (st := []) (by decide +kernel) cv_m10_rise rfl rfl in_m10_rise se_m10_rise lk_L_137 rfl (show 8 < 903 by omega) (Nat.le_of_ble_eq_true rfl) (p_rise (Q := fun v w M2 => v = w ∧ INV M2) hinv (fun v M' h => ⟨rfl, h⟩)) (fun r M1 hr h97 => ?_)
  have hM1 : M1 97 = S := (h97 97 (by decide)).trans hM
  refine A_aload_n (i := 2) (f := 2) (by omega) rfl (by decide +kernel) rfl ?_
  refine A_aload_n (i := 0) (f := 0) (by omega) rfl (by decide +kernel) rfl ?_
  refine A_iload (i := 4) (by decide +kernel) rfl ?_
  refine A_iconst (a := 1) (by decide +kernel) (by unfold in32; omega) ?_
  refine A_iadd (by decide +kernel) ?_
  refine B_sald (v := S (i + 1)) (by decide +kernel) (by rw [e1, hM1, hS]; omega) (by rw [e1, Int.toNat_natCast, Int.toNat_natCast, hM1]) ?_
  refine A_aload_n (i := 0) (f := 0) (by omega) rfl (by decide +kernel) rfl ?_
  refine A_iload (i := 4) (by decide +kernel) rfl ?_
  refine A_iconst (a := 2) (by decide +kernel) (by unfold in32; omega) ?_
  refine A_iadd (by decide +kernel) ?_
  refine B_sald (v := S (i + 2)) (by decide +kernel) (by rw [e2, hM1, hS]; omega) (by rw [e2, Int.toNat_natCast, Int.toNat_natCast, hM1]) ?_
  refine A_aload_n (i := 0) (f := 0) (by omega) rfl (by decide +kernel) rfl ?_
  refine A_iload (i := 4) (by decide +kernel) rfl ?_
  refine A_iconst (a := 3) (by decide +kernel) (by unfold in32; omega) ?_
  refine A_iadd (by decide +kernel) ?_
  refine B_sald (v := S (i + 3)) (by decide +kernel) (by rw [e3, hM1, hS]; omega) (by rw [e3, Int.toNat_natCast, Int.toNat_natCast, hM1]) ?_
  refine L_cVi (q := (RX11, TX11, 59)) (ci := 10) (o := ((59 : Nat) : Int)) (args := [(0, S (i + 1)), (0, S (i + 2)), (0, S (i + 3))]) (st := [(0, r)]) (by decide +kernel) cv_m11_rise rfl rfl in_m11_rise se_m11_rise lk_L_140 rfl (show 5 < 903 by omega) (Nat.le_of_ble_eq_true rfl) hr (fun r2 M2 hr2 h97b => ?_)
  obtain ⟨e, hinv2⟩ := hr2
  have hM2 : M2 97 = S := (h97b 97 (by decide)).trans hM1
  exact A_ic_eq (off := 56) (tgt := 1438) (by decide +kernel) (by omega) (fun _ => kk M2 hinv2 hM2) (fun b => absurd e b)
theorem lc_27 {S : Nat → Int} {L i al : Nat} {M : Mem} {K : List AV → Mem → Prop} (hp : PC2 S L i M) (kk : ∀ M', INV M' → M' 97 = S → A mLaw 903 al 1438 [(33, ((97 : Nat) : Int)), (19, ((0 : Nat) : Int)), (20, ((59 : Nat) : Int)), (32, ((93 : Nat) : Int)), (0, (i : Int)), (2, 0), (2, 0)] [] M' K) : A mLaw 903 al 1387 [(33, ((97 : Nat) : Int)), (19, ((0 : Nat) : Int)), (20, ((59 : Nat) : Int)), (32, ((93 : Nat) : Int)), (0, (i : Int)), (2, 0), (2, 0)] [] M K := by
  obtain ⟨hinv, hM, hS, hi, hL⟩ := hp
  have e1 : w32 ((i : Int) + 1) = ((i + 1 : Nat) : Int) := by rw [w32_id (by omega) (by omega)]; omega
  have e2 : w32 ((i : Int) + 2) = ((i + 2 : Nat) : Int) := by rw [w32_id (by omega) (by omega)]; omega
  have e3 : w32 ((i : Int) + 3) = ((i + 3 : Nat) : Int) := by rw [w32_id (by omega) (by omega)]; omega
  have e4 : w32 ((i : Int) + 4) = ((i + 4 : Nat) : Int) := by rw [w32_id (by omega) (by omega)]; omega
  have e5 : w32 ((i : Int) + 5) = ((i + 5 : Nat) : Int) := by rw [w32_id (by omega) (by omega)]; omega
  refine A_aload_n (i := 1) (f := 1) (by omega) rfl (by decide +kernel) rfl ?_
  refine L_cVi (q := (RX10, TX10, 13)) (ci := 9) (o := ((0 : Nat) : Int)) (args := []) (st := []) (by decide +kernel) cv_m10_keep rfl rfl in_m10_keep se_m10_keep lk_L_141 rfl (show 3 < 903 by omega) (Nat.le_of_ble_eq_true rfl) (p_keep (Q := fun v w M2 => v = w ∧ INV M2) hinv (fun v M' h => ⟨rfl, h⟩)) (fun r M1 hr h97 => ?_)
  have hM1 : M1 97 = S := (h97 97 (by decide)).trans hM
  refine A_aload_n (i := 2) (f := 2) (by omega) rfl (by decide +kernel) rfl ?_
  refine L_cVi (q := (RX11, TX11, 59)) (ci := 10) (o := ((59 : Nat) : Int)) (args := []) (st := [(0, r)]) (by decide +kernel) cv_m11_keep rfl rfl in_m11_keep se_m11_keep lk_L_144 rfl (show 3 < 903 by omega) (Nat.le_of_ble_eq_true rfl) hr (fun r2 M2 hr2 h97b => ?_)
  obtain ⟨e, hinv2⟩ := hr2
  have hM2 : M2 97 = S := (h97b 97 (by decide)).trans hM1
  exact A_ic_eq (off := 43) (tgt := 1438) (by decide +kernel) (by omega) (fun _ => kk M2 hinv2 hM2) (fun b => absurd e b)
theorem lc_28 {S : Nat → Int} {L i al : Nat} {M : Mem} {K : List AV → Mem → Prop} (hp : PC2 S L i M) (kk : ∀ M', INV M' → M' 97 = S → A mLaw 903 al 1438 [(33, ((97 : Nat) : Int)), (19, ((0 : Nat) : Int)), (20, ((59 : Nat) : Int)), (32, ((93 : Nat) : Int)), (0, (i : Int)), (2, 0), (2, 0)] [] M' K) : A mLaw 903 al 1400 [(33, ((97 : Nat) : Int)), (19, ((0 : Nat) : Int)), (20, ((59 : Nat) : Int)), (32, ((93 : Nat) : Int)), (0, (i : Int)), (2, 0), (2, 0)] [] M K := by
  obtain ⟨hinv, hM, hS, hi, hL⟩ := hp
  have e1 : w32 ((i : Int) + 1) = ((i + 1 : Nat) : Int) := by rw [w32_id (by omega) (by omega)]; omega
  have e2 : w32 ((i : Int) + 2) = ((i + 2 : Nat) : Int) := by rw [w32_id (by omega) (by omega)]; omega
  have e3 : w32 ((i : Int) + 3) = ((i + 3 : Nat) : Int) := by rw [w32_id (by omega) (by omega)]; omega
  have e4 : w32 ((i : Int) + 4) = ((i + 4 : Nat) : Int) := by rw [w32_id (by omega) (by omega)]; omega
  have e5 : w32 ((i : Int) + 5) = ((i + 5 : Nat) : Int) := by rw [w32_id (by omega) (by omega)]; omega
  refine A_aload_n (i := 1) (f := 1) (by omega) rfl (by decide +kernel) rfl ?_
  refine L_cVi (q := (RX10, TX10, 13)) (ci := 9) (o := ((0 : Nat) : Int)) (args := []) (st := []) (by decide +kernel) cv_m10_back rfl rfl in_m10_back se_m10_back lk_L_145 rfl (show 3 < 903 by omega) (Nat.le_of_ble_eq_true rfl) (p_back (Q := fun v w M2 => v = w ∧ INV M2) hinv (fun v M' h => ⟨rfl, h⟩)) (fun r M1 hr h97 => ?_)
  have hM1 : M1 97 = S := (h97 97 (by decide)).trans hM
  refine A_aload_n (i := 2) (f := 2) (by omega) rfl (by decide +kernel) rfl ?_
  refine L_cVi (q := (RX11, TX11, 59)) (ci := 10) (o := ((59 : Nat) : Int)) (args := []) (st := [(0, r)]) (by decide +kernel) cv_m11_back rfl rfl in_m11_back se_m11_back lk_L_148 rfl (show 3 < 903 by omega) (Nat.le_of_ble_eq_true rfl) hr (fun r2 M2 hr2 h97b => ?_)
  obtain ⟨e, hinv2⟩ := hr2
  have hM2 : M2 97 = S := (h97b 97 (by decide)).trans hM1
  exact A_ic_eq (off := 30) (tgt := 1438) (by decide +kernel) (by omega) (fun _ => kk M2 hinv2 hM2) (fun b => absurd e b)
theorem lc_29 {S : Nat → Int} {L i al : Nat} {M : Mem} {K : List AV → Mem → Prop} (hp : PC2 S L i M) (kk : ∀ M', INV M' → M' 97 = S → A mLaw 903 al 1438 [(33, ((97 : Nat) : Int)), (19, ((0 : Nat) : Int)), (20, ((59 : Nat) : Int)), (32, ((93 : Nat) : Int)), (0, (i : Int)), (2, 0), (2, 0)] [] M' K) : A mLaw 903 al 1413 [(33, ((97 : Nat) : Int)), (19, ((0 : Nat) : Int)), (20, ((59 : Nat) : Int)), (32, ((93 : Nat) : Int)), (0, (i : Int)), (2, 0), (2, 0)] [] M K := by
  obtain ⟨hinv, hM, hS, hi, hL⟩ := hp
  have e1 : w32 ((i : Int) + 1) = ((i + 1 : Nat) : Int) := by rw [w32_id (by omega) (by omega)]; omega
  have e2 : w32 ((i : Int) + 2) = ((i + 2 : Nat) : Int) := by rw [w32_id (by omega) (by omega)]; omega
  have e3 : w32 ((i : Int) + 3) = ((i + 3 : Nat) : Int) := by rw [w32_id (by omega) (by omega)]; omega
  have e4 : w32 ((i : Int) + 4) = ((i + 4 : Nat) : Int) := by rw [w32_id (by omega) (by omega)]; omega
  have e5 : w32 ((i : Int) + 5) = ((i + 5 : Nat) : Int) := by rw [w32_id (by omega) (by omega)]; omega
  refine A_aload_n (i := 1) (f := 1) (by omega) rfl (by decide +kernel) rfl ?_
  refine A_aload_n (i := 0) (f := 0) (by omega) rfl (by decide +kernel) rfl ?_
  refine A_iload (i := 4) (by decide +kernel) rfl ?_
  refine A_iconst (a := 1) (by decide +kernel) (by unfold in32; omega) ?_
  refine A_iadd (by decide +kernel) ?_
  refine B_sald (v := S (i + 1)) (by decide +kernel) (by rw [e1, hM, hS]; omega) (by rw [e1, Int.toNat_natCast, Int.toNat_natCast, hM]) ?_
  refine L_cVi (q := (RX10, TX10, 13)) (ci := 9) (o := ((0 : Nat) : Int)) (args := [(0, S (i + 1))]) (st := []) (by decide +kernel) cv_m10_count rfl rfl in_m10_count se_m10_count lk_L_149 rfl (show 4 < 903 by omega) (Nat.le_of_ble_eq_true rfl) (p_count (Q := fun v w M2 => v = w ∧ INV M2) hinv (fun v M' h => ⟨rfl, h⟩)) (fun r M1 hr h97 => ?_)
  have hM1 : M1 97 = S := (h97 97 (by decide)).trans hM
  refine A_aload_n (i := 2) (f := 2) (by omega) rfl (by decide +kernel) rfl ?_
  refine A_aload_n (i := 0) (f := 0) (by omega) rfl (by decide +kernel) rfl ?_
  refine A_iload (i := 4) (by decide +kernel) rfl ?_
  refine A_iconst (a := 1) (by decide +kernel) (by unfold in32; omega) ?_
  refine A_iadd (by decide +kernel) ?_
  refine B_sald (v := S (i + 1)) (by decide +kernel) (by rw [e1, hM1, hS]; omega) (by rw [e1, Int.toNat_natCast, Int.toNat_natCast, hM1]) ?_
  refine L_cVi (q := (RX11, TX11, 59)) (ci := 10) (o := ((59 : Nat) : Int)) (args := [(0, S (i + 1))]) (st := [(0, r)]) (by decide +kernel) cv_m11_count rfl rfl in_m11_count se_m11_count lk_L_152 rfl (show 2 < 903 by omega) (Nat.le_of_ble_eq_true rfl) hr (fun r2 M2 hr2 h97b => ?_)
  obtain ⟨e, hinv2⟩ := hr2
  have hM2 : M2 97 = S := (h97b 97 (by decide)).trans hM1
  exact A_ic_eq (off := 5) (tgt := 1438) (by decide +kernel) (by omega) (fun _ => kk M2 hinv2 hM2) (fun b => absurd e b)
theorem law_loop {S : Nat → Int} {L : Nat} (hS : S 4000 = (L : Int)) (hL : L ≤ 3072) : ∀ r (i al : Nat) (M : Mem), L < i + 6 * r + 6 → i ≤ 3078 → r ≤ al → INV M → M 97 = S → A mLaw 903 al 23 [(33, ((97 : Nat) : Int)), (19, ((0 : Nat) : Int)), (20, ((59 : Nat) : Int)), (32, ((93 : Nat) : Int)), (0, (i : Int)), (2, 0), (2, 0)] [] M (fun v _ => v = [(0, 1)])
  | r, i, al, M, hr, hi0, hal, hinv, hM => by
    have hML : M 97 4000 = (L : Int) := by rw [hM]; exact hS
    have w6 : w32 ((L : Int) - 6) = (L : Int) - 6 := w32_id (by omega) (by omega)
    refine A_iload (i := 4) (by decide +kernel) rfl ?_
    refine A_aload_n (i := 0) (f := 0) (by omega) rfl (by decide +kernel) rfl ?_
    refine A_salen (by decide +kernel) (by rw [hML]; omega) ?_
    rw [hML]
    refine A_bipush (a := 6) (by decide +kernel) (by unfold in32; omega) (by decide +kernel) ?_
    refine A_isub (by decide +kernel) ?_
    rw [w6]
    refine A_ic_gt (off := 1414) (tgt := 1444) (by decide +kernel) (by omega) (fun q => ?_) (fun q => ?_)
    · refine A_iconst (a := 1) (by decide +kernel) (by unfold in32; omega) ?_
      exact A_ret ⟨(by decide +kernel), Or.inr ⟨rfl, by decide⟩⟩ rfl
    match r, hr, hal with
    | 0, hr, _ => exact absurd q (by omega)
    | r + 1, hr, hal =>
    have hp : PC2 S L i M := ⟨hinv, hM, hS, by omega, hL⟩
    have nx : ∀ (M' : Mem) (al' : Nat), r ≤ al' → INV M' → M' 97 = S → A mLaw 903 al' 1438 [(33, ((97 : Nat) : Int)), (19, ((0 : Nat) : Int)), (20, ((59 : Nat) : Int)), (32, ((93 : Nat) : Int)), (0, (i : Int)), (2, 0), (2, 0)] [] M' (fun v _ => v = [(0, 1)]) := fun M' al' h1 h2 h3 => by
      refine A_iinc (i := 4) (n := 6) (by decide +kernel) (by decide) rfl (fun w h0 hw => by simp at hw; first | (rw [← hw]; decide) | (rw [← hw]; simp)) ?_
      refine A_goto (off := -1418) (tgt := 23) (by decide +kernel) (by omega) ?_
      have e6 : w32 ((i : Int) + 6) = ((i + 6 : Nat) : Int) := by rw [w32_id (by omega) (by omega)]; omega
      rw [e6]
      exact law_loop hS hL r (i + 6) al' M' (by omega) (by omega) h1 h2 h3
    refine A_aload_n (i := 0) (f := 0) (by omega) rfl (by decide +kernel) rfl ?_
    refine A_iload (i := 4) (by decide +kernel) rfl ?_
    refine B_sald (v := S i) (by decide +kernel) (by rw [hML]; omega) (by rw [Int.toNat_natCast, Int.toNat_natCast, hM]) ?_
    refine A_bipush (a := 31) (by decide +kernel) (by unfold in32; omega) (by decide +kernel) ?_
    refine A_iand (by decide +kernel) ?_
    have hsw : iand (S i) 31 = 0 ∨ iand (S i) 31 = 1 ∨ iand (S i) 31 = 2 ∨ iand (S i) 31 = 3 ∨ iand (S i) 31 = 4 ∨ iand (S i) 31 = 5 ∨ iand (S i) 31 = 6 ∨ iand (S i) 31 = 7 ∨ iand (S i) 31 = 8 ∨ iand (S i) 31 = 9 ∨ iand (S i) 31 = 10 ∨ iand (S i) 31 = 11 ∨ iand (S i) 31 = 12 ∨ iand (S i) 31 = 13 ∨ iand (S i) 31 = 14 ∨ iand (S i) 31 = 15 ∨ iand (S i) 31 = 16 ∨ iand (S i) 31 = 17 ∨ iand (S i) 31 = 18 ∨ iand (S i) 31 = 19 ∨ iand (S i) 31 = 20 ∨ iand (S i) 31 = 21 ∨ iand (S i) 31 = 22 ∨ iand (S i) 31 = 23 ∨ iand (S i) 31 = 24 ∨ iand (S i) 31 = 25 ∨ iand (S i) 31 = 26 ∨ iand (S i) 31 = 27 ∨ iand (S i) 31 = 28 ∨ iand (S i) 31 = 29 ∨ (iand (S i) 31 < 0 ∨ 29 < iand (S i) 31) := by omega
    rcases hsw with e | e | e | e | e | e | e | e | e | e | e | e | e | e | e | e | e | e | e | e | e | e | e | e | e | e | e | e | e | e | e
    · exact A_tin (len := 136) (dflt := 1398) (lo := 0) (hi := 29) (offs := #[136, 209, 234, 259, 296, 364, 413, 438, 487, 512, 549, 598, 647, 709, 770, 831, 892, 953, 1026, 1051, 1076, 1089, 1126, 1139, 1188, 1237, 1298, 1347, 1360, 1373]) (off := 136) (tgt := 176) (by decide +kernel) (by omega) (by omega) (by rw [e]; rfl) (by omega) (lc_0 hp (fun M' h1 h2 => nx M' al (by omega) h1 h2))
    · exact A_tin (len := 136) (dflt := 1398) (lo := 0) (hi := 29) (offs := #[136, 209, 234, 259, 296, 364, 413, 438, 487, 512, 549, 598, 647, 709, 770, 831, 892, 953, 1026, 1051, 1076, 1089, 1126, 1139, 1188, 1237, 1298, 1347, 1360, 1373]) (off := 209) (tgt := 249) (by decide +kernel) (by omega) (by omega) (by rw [e]; rfl) (by omega) (lc_1 hp (fun M' h1 h2 => nx M' al (by omega) h1 h2))
    · exact A_tin (len := 136) (dflt := 1398) (lo := 0) (hi := 29) (offs := #[136, 209, 234, 259, 296, 364, 413, 438, 487, 512, 549, 598, 647, 709, 770, 831, 892, 953, 1026, 1051, 1076, 1089, 1126, 1139, 1188, 1237, 1298, 1347, 1360, 1373]) (off := 234) (tgt := 274) (by decide +kernel) (by omega) (by omega) (by rw [e]; rfl) (by omega) (lc_2 hp (fun M' h1 h2 => nx M' al (by omega) h1 h2))
    · exact A_tin (len := 136) (dflt := 1398) (lo := 0) (hi := 29) (offs := #[136, 209, 234, 259, 296, 364, 413, 438, 487, 512, 549, 598, 647, 709, 770, 831, 892, 953, 1026, 1051, 1076, 1089, 1126, 1139, 1188, 1237, 1298, 1347, 1360, 1373]) (off := 259) (tgt := 299) (by decide +kernel) (by omega) (by omega) (by rw [e]; rfl) (by omega) (lc_3 hp (fun M' h1 h2 => nx M' al (by omega) h1 h2))
    · exact A_tin (len := 136) (dflt := 1398) (lo := 0) (hi := 29) (offs := #[136, 209, 234, 259, 296, 364, 413, 438, 487, 512, 549, 598, 647, 709, 770, 831, 892, 953, 1026, 1051, 1076, 1089, 1126, 1139, 1188, 1237, 1298, 1347, 1360, 1373]) (off := 296) (tgt := 336) (by decide +kernel) (by omega) (by omega) (by rw [e]; rfl) (by omega) (lc_4 hp (by omega) (fun M' h1 h2 => nx M' (al - 1) (by omega) h1 h2))
    · exact A_tin (len := 136) (dflt := 1398) (lo := 0) (hi := 29) (offs := #[136, 209, 234, 259, 296, 364, 413, 438, 487, 512, 549, 598, 647, 709, 770, 831, 892, 953, 1026, 1051, 1076, 1089, 1126, 1139, 1188, 1237, 1298, 1347, 1360, 1373]) (off := 364) (tgt := 404) (by decide +kernel) (by omega) (by omega) (by rw [e]; rfl) (by omega) (lc_5 hp (fun M' h1 h2 => nx M' al (by omega) h1 h2))
    · exact A_tin (len := 136) (dflt := 1398) (lo := 0) (hi := 29) (offs := #[136, 209, 234, 259, 296, 364, 413, 438, 487, 512, 549, 598, 647, 709, 770, 831, 892, 953, 1026, 1051, 1076, 1089, 1126, 1139, 1188, 1237, 1298, 1347, 1360, 1373]) (off := 413) (tgt := 453) (by decide +kernel) (by omega) (by omega) (by rw [e]; rfl) (by omega) (lc_6 hp (fun M' h1 h2 => nx M' al (by omega) h1 h2))
    · exact A_tin (len := 136) (dflt := 1398) (lo := 0) (hi := 29) (offs := #[136, 209, 234, 259, 296, 364, 413, 438, 487, 512, 549, 598, 647, 709, 770, 831, 892, 953, 1026, 1051, 1076, 1089, 1126, 1139, 1188, 1237, 1298, 1347, 1360, 1373]) (off := 438) (tgt := 478) (by decide +kernel) (by omega) (by omega) (by rw [e]; rfl) (by omega) (lc_7 hp (fun M' h1 h2 => nx M' al (by omega) h1 h2))
    · exact A_tin (len := 136) (dflt := 1398) (lo := 0) (hi := 29) (offs := #[136, 209, 234, 259, 296, 364, 413, 438, 487, 512, 549, 598, 647, 709, 770, 831, 892, 953, 1026, 1051, 1076, 1089, 1126, 1139, 1188, 1237, 1298, 1347, 1360, 1373]) (off := 487) (tgt := 527) (by decide +kernel) (by omega) (by omega) (by rw [e]; rfl) (by omega) (lc_8 hp (fun M' h1 h2 => nx M' al (by omega) h1 h2))
    · exact A_tin (len := 136) (dflt := 1398) (lo := 0) (hi := 29) (offs := #[136, 209, 234, 259, 296, 364, 413, 438, 487, 512, 549, 598, 647, 709, 770, 831, 892, 953, 1026, 1051, 1076, 1089, 1126, 1139, 1188, 1237, 1298, 1347, 1360, 1373]) (off := 512) (tgt := 552) (by decide +kernel) (by omega) (by omega) (by rw [e]; rfl) (by omega) (lc_9 hp (fun M' h1 h2 => nx M' al (by omega) h1 h2))
    · exact A_tin (len := 136) (dflt := 1398) (lo := 0) (hi := 29) (offs := #[136, 209, 234, 259, 296, 364, 413, 438, 487, 512, 549, 598, 647, 709, 770, 831, 892, 953, 1026, 1051, 1076, 1089, 1126, 1139, 1188, 1237, 1298, 1347, 1360, 1373]) (off := 549) (tgt := 589) (by decide +kernel) (by omega) (by omega) (by rw [e]; rfl) (by omega) (lc_10 hp (fun M' h1 h2 => nx M' al (by omega) h1 h2))
    · exact A_tin (len := 136) (dflt := 1398) (lo := 0) (hi := 29) (offs := #[136, 209, 234, 259, 296, 364, 413, 438, 487, 512, 549, 598, 647, 709, 770, 831, 892, 953, 1026, 1051, 1076, 1089, 1126, 1139, 1188, 1237, 1298, 1347, 1360, 1373]) (off := 598) (tgt := 638) (by decide +kernel) (by omega) (by omega) (by rw [e]; rfl) (by omega) (lc_11 hp (fun M' h1 h2 => nx M' al (by omega) h1 h2))
    · exact A_tin (len := 136) (dflt := 1398) (lo := 0) (hi := 29) (offs := #[136, 209, 234, 259, 296, 364, 413, 438, 487, 512, 549, 598, 647, 709, 770, 831, 892, 953, 1026, 1051, 1076, 1089, 1126, 1139, 1188, 1237, 1298, 1347, 1360, 1373]) (off := 647) (tgt := 687) (by decide +kernel) (by omega) (by omega) (by rw [e]; rfl) (by omega) (lc_12 hp (fun M' h1 h2 => nx M' al (by omega) h1 h2))
    · exact A_tin (len := 136) (dflt := 1398) (lo := 0) (hi := 29) (offs := #[136, 209, 234, 259, 296, 364, 413, 438, 487, 512, 549, 598, 647, 709, 770, 831, 892, 953, 1026, 1051, 1076, 1089, 1126, 1139, 1188, 1237, 1298, 1347, 1360, 1373]) (off := 709) (tgt := 749) (by decide +kernel) (by omega) (by omega) (by rw [e]; rfl) (by omega) (lc_13 hp (fun M' h1 h2 => nx M' al (by omega) h1 h2))
    · exact A_tin (len := 136) (dflt := 1398) (lo := 0) (hi := 29) (offs := #[136, 209, 234, 259, 296, 364, 413, 438, 487, 512, 549, 598, 647, 709, 770, 831, 892, 953, 1026, 1051, 1076, 1089, 1126, 1139, 1188, 1237, 1298, 1347, 1360, 1373]) (off := 770) (tgt := 810) (by decide +kernel) (by omega) (by omega) (by rw [e]; rfl) (by omega) (lc_14 hp (fun M' h1 h2 => nx M' al (by omega) h1 h2))
    · exact A_tin (len := 136) (dflt := 1398) (lo := 0) (hi := 29) (offs := #[136, 209, 234, 259, 296, 364, 413, 438, 487, 512, 549, 598, 647, 709, 770, 831, 892, 953, 1026, 1051, 1076, 1089, 1126, 1139, 1188, 1237, 1298, 1347, 1360, 1373]) (off := 831) (tgt := 871) (by decide +kernel) (by omega) (by omega) (by rw [e]; rfl) (by omega) (lc_15 hp (fun M' h1 h2 => nx M' al (by omega) h1 h2))
    · exact A_tin (len := 136) (dflt := 1398) (lo := 0) (hi := 29) (offs := #[136, 209, 234, 259, 296, 364, 413, 438, 487, 512, 549, 598, 647, 709, 770, 831, 892, 953, 1026, 1051, 1076, 1089, 1126, 1139, 1188, 1237, 1298, 1347, 1360, 1373]) (off := 892) (tgt := 932) (by decide +kernel) (by omega) (by omega) (by rw [e]; rfl) (by omega) (lc_16 hp (fun M' h1 h2 => nx M' al (by omega) h1 h2))
    · exact A_tin (len := 136) (dflt := 1398) (lo := 0) (hi := 29) (offs := #[136, 209, 234, 259, 296, 364, 413, 438, 487, 512, 549, 598, 647, 709, 770, 831, 892, 953, 1026, 1051, 1076, 1089, 1126, 1139, 1188, 1237, 1298, 1347, 1360, 1373]) (off := 953) (tgt := 993) (by decide +kernel) (by omega) (by omega) (by rw [e]; rfl) (by omega) (lc_17 hp (fun M' h1 h2 => nx M' al (by omega) h1 h2))
    · exact A_tin (len := 136) (dflt := 1398) (lo := 0) (hi := 29) (offs := #[136, 209, 234, 259, 296, 364, 413, 438, 487, 512, 549, 598, 647, 709, 770, 831, 892, 953, 1026, 1051, 1076, 1089, 1126, 1139, 1188, 1237, 1298, 1347, 1360, 1373]) (off := 1026) (tgt := 1066) (by decide +kernel) (by omega) (by omega) (by rw [e]; rfl) (by omega) (lc_18 hp (fun M' h1 h2 => nx M' al (by omega) h1 h2))
    · exact A_tin (len := 136) (dflt := 1398) (lo := 0) (hi := 29) (offs := #[136, 209, 234, 259, 296, 364, 413, 438, 487, 512, 549, 598, 647, 709, 770, 831, 892, 953, 1026, 1051, 1076, 1089, 1126, 1139, 1188, 1237, 1298, 1347, 1360, 1373]) (off := 1051) (tgt := 1091) (by decide +kernel) (by omega) (by omega) (by rw [e]; rfl) (by omega) (lc_19 hp (fun M' h1 h2 => nx M' al (by omega) h1 h2))
    · exact A_tin (len := 136) (dflt := 1398) (lo := 0) (hi := 29) (offs := #[136, 209, 234, 259, 296, 364, 413, 438, 487, 512, 549, 598, 647, 709, 770, 831, 892, 953, 1026, 1051, 1076, 1089, 1126, 1139, 1188, 1237, 1298, 1347, 1360, 1373]) (off := 1076) (tgt := 1116) (by decide +kernel) (by omega) (by omega) (by rw [e]; rfl) (by omega) (lc_20 hp (fun M' h1 h2 => nx M' al (by omega) h1 h2))
    · exact A_tin (len := 136) (dflt := 1398) (lo := 0) (hi := 29) (offs := #[136, 209, 234, 259, 296, 364, 413, 438, 487, 512, 549, 598, 647, 709, 770, 831, 892, 953, 1026, 1051, 1076, 1089, 1126, 1139, 1188, 1237, 1298, 1347, 1360, 1373]) (off := 1089) (tgt := 1129) (by decide +kernel) (by omega) (by omega) (by rw [e]; rfl) (by omega) (lc_21 hp (fun M' h1 h2 => nx M' al (by omega) h1 h2))
    · exact A_tin (len := 136) (dflt := 1398) (lo := 0) (hi := 29) (offs := #[136, 209, 234, 259, 296, 364, 413, 438, 487, 512, 549, 598, 647, 709, 770, 831, 892, 953, 1026, 1051, 1076, 1089, 1126, 1139, 1188, 1237, 1298, 1347, 1360, 1373]) (off := 1126) (tgt := 1166) (by decide +kernel) (by omega) (by omega) (by rw [e]; rfl) (by omega) (lc_22 hp (fun M' h1 h2 => nx M' al (by omega) h1 h2))
    · exact A_tin (len := 136) (dflt := 1398) (lo := 0) (hi := 29) (offs := #[136, 209, 234, 259, 296, 364, 413, 438, 487, 512, 549, 598, 647, 709, 770, 831, 892, 953, 1026, 1051, 1076, 1089, 1126, 1139, 1188, 1237, 1298, 1347, 1360, 1373]) (off := 1139) (tgt := 1179) (by decide +kernel) (by omega) (by omega) (by rw [e]; rfl) (by omega) (lc_23 hp (fun M' h1 h2 => nx M' al (by omega) h1 h2))
    · exact A_tin (len := 136) (dflt := 1398) (lo := 0) (hi := 29) (offs := #[136, 209, 234, 259, 296, 364, 413, 438, 487, 512, 549, 598, 647, 709, 770, 831, 892, 953, 1026, 1051, 1076, 1089, 1126, 1139, 1188, 1237, 1298, 1347, 1360, 1373]) (off := 1188) (tgt := 1228) (by decide +kernel) (by omega) (by omega) (by rw [e]; rfl) (by omega) (lc_24 hp (fun M' h1 h2 => nx M' al (by omega) h1 h2))
    · exact A_tin (len := 136) (dflt := 1398) (lo := 0) (hi := 29) (offs := #[136, 209, 234, 259, 296, 364, 413, 438, 487, 512, 549, 598, 647, 709, 770, 831, 892, 953, 1026, 1051, 1076, 1089, 1126, 1139, 1188, 1237, 1298, 1347, 1360, 1373]) (off := 1237) (tgt := 1277) (by decide +kernel) (by omega) (by omega) (by rw [e]; rfl) (by omega) (lc_25 hp (fun M' h1 h2 => nx M' al (by omega) h1 h2))
    · exact A_tin (len := 136) (dflt := 1398) (lo := 0) (hi := 29) (offs := #[136, 209, 234, 259, 296, 364, 413, 438, 487, 512, 549, 598, 647, 709, 770, 831, 892, 953, 1026, 1051, 1076, 1089, 1126, 1139, 1188, 1237, 1298, 1347, 1360, 1373]) (off := 1298) (tgt := 1338) (by decide +kernel) (by omega) (by omega) (by rw [e]; rfl) (by omega) (lc_26 hp (fun M' h1 h2 => nx M' al (by omega) h1 h2))
    · exact A_tin (len := 136) (dflt := 1398) (lo := 0) (hi := 29) (offs := #[136, 209, 234, 259, 296, 364, 413, 438, 487, 512, 549, 598, 647, 709, 770, 831, 892, 953, 1026, 1051, 1076, 1089, 1126, 1139, 1188, 1237, 1298, 1347, 1360, 1373]) (off := 1347) (tgt := 1387) (by decide +kernel) (by omega) (by omega) (by rw [e]; rfl) (by omega) (lc_27 hp (fun M' h1 h2 => nx M' al (by omega) h1 h2))
    · exact A_tin (len := 136) (dflt := 1398) (lo := 0) (hi := 29) (offs := #[136, 209, 234, 259, 296, 364, 413, 438, 487, 512, 549, 598, 647, 709, 770, 831, 892, 953, 1026, 1051, 1076, 1089, 1126, 1139, 1188, 1237, 1298, 1347, 1360, 1373]) (off := 1360) (tgt := 1400) (by decide +kernel) (by omega) (by omega) (by rw [e]; rfl) (by omega) (lc_28 hp (fun M' h1 h2 => nx M' al (by omega) h1 h2))
    · exact A_tin (len := 136) (dflt := 1398) (lo := 0) (hi := 29) (offs := #[136, 209, 234, 259, 296, 364, 413, 438, 487, 512, 549, 598, 647, 709, 770, 831, 892, 953, 1026, 1051, 1076, 1089, 1126, 1139, 1188, 1237, 1298, 1347, 1360, 1373]) (off := 1373) (tgt := 1413) (by decide +kernel) (by omega) (by omega) (by rw [e]; rfl) (by omega) (lc_29 hp (fun M' h1 h2 => nx M' al (by omega) h1 h2))
    · exact A_tout (len := 136) (dflt := 1398) (lo := 0) (hi := 29) (offs := #[136, 209, 234, 259, 296, 364, 413, 438, 487, 512, 549, 598, 647, 709, 770, 831, 892, 953, 1026, 1051, 1076, 1089, 1126, 1139, 1188, 1237, 1298, 1347, 1360, 1373]) (tgt := 1438) (by decide +kernel) e (by omega) (nx M al (by omega) hinv hM)
