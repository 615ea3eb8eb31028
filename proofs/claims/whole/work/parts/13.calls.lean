/-! calls, by what comes back: an int, a long, nothing -/
def CI (y : MT) (d : Nat) (args : List AV) (M : Mem) (P : Int → Mem → Prop) : Prop := Ct y d 0 args M (fun v M' => ∃ r, v = [(0, r)] ∧ P r M')
def CL (y : MT) (d : Nat) (args : List AV) (M : Mem) (P : Int → Mem → Prop) : Prop := Ct y d 0 args M (fun v M' => ∃ r, v = [(1, r)] ∧ P r M')
def CD (y : MT) (d : Nat) (args : List AV) (M : Mem) (P : Mem → Prop) : Prop := Ct y d 0 args M (fun v M' => v = [] ∧ P M')
section CALLS
variable {mt y : MT} {d d' pc idx n : Nat} {ls st args : List AV} {M : Mem} {K : List AV → Mem → Prop}
theorem CI_of {mt : MT} {d : Nat} {args : List AV} {M : Mem} {P : Int → Mem → Prop} (hy : plainName mt.1.cls = true) (hlen : (ents args).length ≤ mt.2.2.1) (h : A mt d 0 0 (entL mt args) [] M (fun v M' => ∃ r, v = [(0, r)] ∧ P r M')) : CI mt d args M P := Ct_of_A hy hlen h
theorem CL_of {mt : MT} {d : Nat} {args : List AV} {M : Mem} {P : Int → Mem → Prop} (hy : plainName mt.1.cls = true) (hlen : (ents args).length ≤ mt.2.2.1) (h : A mt d 0 0 (entL mt args) [] M (fun v M' => ∃ r, v = [(1, r)] ∧ P r M')) : CL mt d args M P := Ct_of_A hy hlen h
theorem CD_of {mt : MT} {d : Nat} {args : List AV} {M : Mem} {P : Mem → Prop} (hy : plainName mt.1.cls = true) (hlen : (ents args).length ≤ mt.2.2.1) (h : A mt d 0 0 (entL mt args) [] M (fun v M' => v = [] ∧ P M')) : CD mt d args M P := Ct_of_A hy hlen h
theorem A_cSi {P : Int → Mem → Prop} (h : decode mt.2.1 pc = .ok (.invokestatic idx, 3)) (hcv : CV y n) (hst : Cond.static y.1 ∈ gtb) (hlk : Cond.methodLink mt.1.cls idx y.1 ∈ gtb) (hn : args.length = n) (hd : d' < d) (hr8 : acs st ≤ 8) (hC : CI y d' args M P) (kk : ∀ r M', in32 r → P r M' → A mt d 0 (pc + 3) ls ((0, r) :: st) M' K) : A mt d 0 pc ls (args.reverse ++ st) M K :=
  A_callS h hcv hst hlk hn hd (Nat.zero_le 0) hr8 hC (fun v M1 hk hv => by obtain ⟨r, rfl, hk⟩ := hk; exact kk r M1 (vok_0.mp (hv _ List.mem_cons_self)) hk)
theorem A_cSl {P : Int → Mem → Prop} (h : decode mt.2.1 pc = .ok (.invokestatic idx, 3)) (hcv : CV y n) (hst : Cond.static y.1 ∈ gtb) (hlk : Cond.methodLink mt.1.cls idx y.1 ∈ gtb) (hn : args.length = n) (hd : d' < d) (hr8 : acs st ≤ 8) (hC : CL y d' args M P) (kk : ∀ r M', in64 r → P r M' → A mt d 0 (pc + 3) ls ((1, r) :: st) M' K) : A mt d 0 pc ls (args.reverse ++ st) M K :=
  A_callS h hcv hst hlk hn hd (Nat.zero_le 0) hr8 hC (fun v M1 hk hv => by obtain ⟨r, rfl, hk⟩ := hk; exact kk r M1 (vok_1.mp (hv _ List.mem_cons_self)) hk)
theorem A_cSd {P : Mem → Prop} (h : decode mt.2.1 pc = .ok (.invokestatic idx, 3)) (hcv : CV y n) (hst : Cond.static y.1 ∈ gtb) (hlk : Cond.methodLink mt.1.cls idx y.1 ∈ gtb) (hn : args.length = n) (hd : d' < d) (hr8 : acs st ≤ 8) (hC : CD y d' args M P) (kk : ∀ M', P M' → A mt d 0 (pc + 3) ls st M' K) : A mt d 0 pc ls (args.reverse ++ st) M K :=
  A_callS h hcv hst hlk hn hd (Nat.zero_le 0) hr8 hC (fun v M1 hk hv => by obtain ⟨rfl, hk⟩ := hk; exact kk M1 hk)
theorem A_cSNi {P : Int → Mem → Prop} {host : String} (h : decode mt.2.1 pc = .ok (.invokestatic idx, 3)) (hcv : CV y n) (hst : Cond.static y.1 ∈ gtb) (hlk : Cond.methodLinkNest mt.1.cls idx y.1 host ∈ nstW) (hn : args.length = n) (hd : d' < d) (hr8 : acs st ≤ 8) (hC : CI y d' args M P) (kk : ∀ r M', in32 r → P r M' → A mt d 0 (pc + 3) ls ((0, r) :: st) M' K) : A mt d 0 pc ls (args.reverse ++ st) M K :=
  A_callSN h hcv hst hlk hn hd (Nat.zero_le 0) hr8 hC (fun v M1 hk hv => by obtain ⟨r, rfl, hk⟩ := hk; exact kk r M1 (vok_0.mp (hv _ List.mem_cons_self)) hk)
theorem A_cSNl {P : Int → Mem → Prop} {host : String} (h : decode mt.2.1 pc = .ok (.invokestatic idx, 3)) (hcv : CV y n) (hst : Cond.static y.1 ∈ gtb) (hlk : Cond.methodLinkNest mt.1.cls idx y.1 host ∈ nstW) (hn : args.length = n) (hd : d' < d) (hr8 : acs st ≤ 8) (hC : CL y d' args M P) (kk : ∀ r M', in64 r → P r M' → A mt d 0 (pc + 3) ls ((1, r) :: st) M' K) : A mt d 0 pc ls (args.reverse ++ st) M K :=
  A_callSN h hcv hst hlk hn hd (Nat.zero_le 0) hr8 hC (fun v M1 hk hv => by obtain ⟨r, rfl, hk⟩ := hk; exact kk r M1 (vok_1.mp (hv _ List.mem_cons_self)) hk)
theorem A_cSNd {P : Mem → Prop} {host : String} (h : decode mt.2.1 pc = .ok (.invokestatic idx, 3)) (hcv : CV y n) (hst : Cond.static y.1 ∈ gtb) (hlk : Cond.methodLinkNest mt.1.cls idx y.1 host ∈ nstW) (hn : args.length = n) (hd : d' < d) (hr8 : acs st ≤ 8) (hC : CD y d' args M P) (kk : ∀ M', P M' → A mt d 0 (pc + 3) ls st M' K) : A mt d 0 pc ls (args.reverse ++ st) M K :=
  A_callSN h hcv hst hlk hn hd (Nat.zero_le 0) hr8 hC (fun v M1 hk hv => by obtain ⟨rfl, hk⟩ := hk; exact kk M1 hk)
theorem A_cVi {P : Int → Mem → Prop} {ci : Nat} {o : Int} {q : vw_C} (h : decode mt.2.1 pc = .ok (.invokevirtual idx, 3)) (hcv : CV y n) (hq : wcl[ci]? = some q) (hqy : y.1.cls = q.1) (hin : Cond.instanceMethod y.1 ∈ gtb) (hse : Cond.selects y.1.cls y.1 y.1 ∈ gtb) (hlk : Cond.methodLink mt.1.cls idx y.1 ∈ gtb) (hn : args.length = n) (hd : d' < d) (hr8 : acs st ≤ 8) (hC : CI y d' ((10 + ci, o) :: args) M P) (kk : ∀ r M', in32 r → P r M' → A mt d 0 (pc + 3) ls ((0, r) :: st) M' K) : A mt d 0 pc ls (args.reverse ++ (10 + ci, o) :: st) M K :=
  A_callV h hcv hq hqy hin hse hlk hn hd (Nat.zero_le 0) hr8 hC (fun v M1 hk hv => by obtain ⟨r, rfl, hk⟩ := hk; exact kk r M1 (vok_0.mp (hv _ List.mem_cons_self)) hk)
theorem A_cVl {P : Int → Mem → Prop} {ci : Nat} {o : Int} {q : vw_C} (h : decode mt.2.1 pc = .ok (.invokevirtual idx, 3)) (hcv : CV y n) (hq : wcl[ci]? = some q) (hqy : y.1.cls = q.1) (hin : Cond.instanceMethod y.1 ∈ gtb) (hse : Cond.selects y.1.cls y.1 y.1 ∈ gtb) (hlk : Cond.methodLink mt.1.cls idx y.1 ∈ gtb) (hn : args.length = n) (hd : d' < d) (hr8 : acs st ≤ 8) (hC : CL y d' ((10 + ci, o) :: args) M P) (kk : ∀ r M', in64 r → P r M' → A mt d 0 (pc + 3) ls ((1, r) :: st) M' K) : A mt d 0 pc ls (args.reverse ++ (10 + ci, o) :: st) M K :=
  A_callV h hcv hq hqy hin hse hlk hn hd (Nat.zero_le 0) hr8 hC (fun v M1 hk hv => by obtain ⟨r, rfl, hk⟩ := hk; exact kk r M1 (vok_1.mp (hv _ List.mem_cons_self)) hk)
theorem A_cVd {P : Mem → Prop} {ci : Nat} {o : Int} {q : vw_C} (h : decode mt.2.1 pc = .ok (.invokevirtual idx, 3)) (hcv : CV y n) (hq : wcl[ci]? = some q) (hqy : y.1.cls = q.1) (hin : Cond.instanceMethod y.1 ∈ gtb) (hse : Cond.selects y.1.cls y.1 y.1 ∈ gtb) (hlk : Cond.methodLink mt.1.cls idx y.1 ∈ gtb) (hn : args.length = n) (hd : d' < d) (hr8 : acs st ≤ 8) (hC : CD y d' ((10 + ci, o) :: args) M P) (kk : ∀ M', P M' → A mt d 0 (pc + 3) ls st M' K) : A mt d 0 pc ls (args.reverse ++ (10 + ci, o) :: st) M K :=
  A_callV h hcv hq hqy hin hse hlk hn hd (Nat.zero_le 0) hr8 hC (fun v M1 hk hv => by obtain ⟨rfl, hk⟩ := hk; exact kk M1 hk)
theorem A_cVNi {P : Int → Mem → Prop} {ci : Nat} {o : Int} {q : vw_C} {host : String} (h : decode mt.2.1 pc = .ok (.invokevirtual idx, 3)) (hcv : CV y n) (hq : wcl[ci]? = some q) (hqy : y.1.cls = q.1) (hin : Cond.instanceMethod y.1 ∈ gtb) (hse : Cond.selects y.1.cls y.1 y.1 ∈ gtb) (hlk : Cond.methodLinkNest mt.1.cls idx y.1 host ∈ nstW) (hn : args.length = n) (hd : d' < d) (hr8 : acs st ≤ 8) (hC : CI y d' ((10 + ci, o) :: args) M P) (kk : ∀ r M', in32 r → P r M' → A mt d 0 (pc + 3) ls ((0, r) :: st) M' K) : A mt d 0 pc ls (args.reverse ++ (10 + ci, o) :: st) M K :=
  A_callVN h hcv hq hqy hin hse hlk hn hd (Nat.zero_le 0) hr8 hC (fun v M1 hk hv => by obtain ⟨r, rfl, hk⟩ := hk; exact kk r M1 (vok_0.mp (hv _ List.mem_cons_self)) hk)
theorem A_cVNl {P : Int → Mem → Prop} {ci : Nat} {o : Int} {q : vw_C} {host : String} (h : decode mt.2.1 pc = .ok (.invokevirtual idx, 3)) (hcv : CV y n) (hq : wcl[ci]? = some q) (hqy : y.1.cls = q.1) (hin : Cond.instanceMethod y.1 ∈ gtb) (hse : Cond.selects y.1.cls y.1 y.1 ∈ gtb) (hlk : Cond.methodLinkNest mt.1.cls idx y.1 host ∈ nstW) (hn : args.length = n) (hd : d' < d) (hr8 : acs st ≤ 8) (hC : CL y d' ((10 + ci, o) :: args) M P) (kk : ∀ r M', in64 r → P r M' → A mt d 0 (pc + 3) ls ((1, r) :: st) M' K) : A mt d 0 pc ls (args.reverse ++ (10 + ci, o) :: st) M K :=
  A_callVN h hcv hq hqy hin hse hlk hn hd (Nat.zero_le 0) hr8 hC (fun v M1 hk hv => by obtain ⟨r, rfl, hk⟩ := hk; exact kk r M1 (vok_1.mp (hv _ List.mem_cons_self)) hk)
theorem A_cVNd {P : Mem → Prop} {ci : Nat} {o : Int} {q : vw_C} {host : String} (h : decode mt.2.1 pc = .ok (.invokevirtual idx, 3)) (hcv : CV y n) (hq : wcl[ci]? = some q) (hqy : y.1.cls = q.1) (hin : Cond.instanceMethod y.1 ∈ gtb) (hse : Cond.selects y.1.cls y.1 y.1 ∈ gtb) (hlk : Cond.methodLinkNest mt.1.cls idx y.1 host ∈ nstW) (hn : args.length = n) (hd : d' < d) (hr8 : acs st ≤ 8) (hC : CD y d' ((10 + ci, o) :: args) M P) (kk : ∀ M', P M' → A mt d 0 (pc + 3) ls st M' K) : A mt d 0 pc ls (args.reverse ++ (10 + ci, o) :: st) M K :=
  A_callVN h hcv hq hqy hin hse hlk hn hd (Nat.zero_le 0) hr8 hC (fun v M1 hk hv => by obtain ⟨rfl, hk⟩ := hk; exact kk M1 hk)
theorem lsub.nil {l : List AV} : lsub l [] := fun j v h => by simp at h
theorem lsub.keep {l l' : List AV} {v : AV} (h : lsub l l') : lsub (v :: l) (v :: l') := fun j w hj h2 => by
  cases j with
  | zero => exact hj
  | succ j => exact h j w hj h2
theorem lsub.drop {l l' : List AV} {v : AV} {y : Int} (h : lsub l l') : lsub (v :: l) ((2, y) :: l') := fun j w hj h2 => by
  cases j with
  | zero =>
    have : (2, y) = w := by simpa using hj
    exact absurd (by rw [← this]) h2
  | succ j => exact h j w hj h2
/-- the numbers of a field and of a reference by another name -/
theorem A_eq {al : Nat} {ls ls' st st' : List AV} {M M' : Mem} (h1 : ls = ls') (h2 : st = st') (h3 : M = M') (k : A mt d al pc ls' st' M' K) : A mt d al pc ls st M K := by rw [h1, h2, h3]; exact k
end CALLS
/-! the same laws with the outcome under a name -/
section NAMED
variable {mt : MT} {d al pc : Nat} {ls st : List AV} {M : Mem} {K : List AV → Mem → Prop}
theorem B_getp {o v : Int} {ci j idx pl t p : Nat} {q : vw_C} (h : decode mt.2.1 pc = .ok (.getfield idx, 3)) (hq : wcl[ci]? = some q) (hj : j < q.2.2) (hf : FE ci j = some (t, (p : Int))) (ht : t = 0 ∨ t = 3)
    (hw : lw_tbl[pl]? = some (.fieldLink mt.1.cls idx (q.2.1 j).1 (q.2.1 j).2.1 (q.2.1 j).2.2.1)) (e : M o.toNat p = v) (k : A mt d al (pc + 3) ls ((0, v) :: st) M K) : A mt d al pc ls ((10 + ci, o) :: st) M K := by
  subst e; exact A_getp h hq hj hf ht hw k
theorem B_getr {o o' : Int} {ci j idx pl t : Nat} {off : Int} {q : vw_C} (h : decode mt.2.1 pc = .ok (.getfield idx, 3)) (hq : wcl[ci]? = some q) (hj : j < q.2.2) (hf : FE ci j = some (t, off)) (ht : 5 ≤ t)
    (hw : lw_tbl[pl]? = some (.fieldLink mt.1.cls idx (q.2.1 j).1 (q.2.1 j).2.1 (q.2.1 j).2.2.1)) (e : (ftgt o.toNat off : Int) = o') (k : A mt d al (pc + 3) ls ((t, o') :: st) M K) : A mt d al pc ls ((10 + ci, o) :: st) M K := by
  subst e; exact A_getr h hq hj hf ht hw k
theorem B_putp {o v : Int} {M' : Mem} {ci j idx pl t p : Nat} {q : vw_C} (h : decode mt.2.1 pc = .ok (.putfield idx, 3)) (hq : wcl[ci]? = some q) (hj : j < q.2.2) (hf : FE ci j = some (t, (p : Int))) (ht : t = 0 ∧ wty ci j = .int ∨ t = 3 ∧ wty ci j = .boolean ∧ (v = 0 ∨ v = 1)) (hfin : (q.2.1 j).2.2.2 = false)
    (hw : lw_tbl[pl]? = some (.fieldLink mt.1.cls idx (q.2.1 j).1 (q.2.1 j).2.1 (q.2.1 j).2.2.1)) (e : mset M o.toNat p v = M') (k : A mt d al (pc + 3) ls st M' K) : A mt d al pc ls ((0, v) :: (10 + ci, o) :: st) M K := by
  subst e; exact A_putp h hq hj hf ht hfin hw k
theorem B_iald {o x v : Int} (h : decode mt.2.1 pc = .ok (.iaload, 1)) (h0 : 0 ≤ x ∧ x < aln o.toNat) (e : M o.toNat x.toNat = v) (k : A mt d al (pc + 1) ls ((0, v) :: st) M K) : A mt d al pc ls ((0, x) :: (30, o) :: st) M K := by
  subst e; exact A_iald h h0.1 h0.2 k
theorem B_tald {o x v : Int} (h : decode mt.2.1 pc = .ok (.iaload, 1)) (h0 : 0 ≤ x ∧ x < aln o.toNat) (e : M o.toNat x.toNat = v) (k : A mt d al (pc + 1) ls ((0, v) :: st) M K) : A mt d al pc ls ((0, x) :: (34, o) :: st) M K := by
  subst e; exact A_tald h h0.1 h0.2 k
theorem B_sald {o x v : Int} (h : decode mt.2.1 pc = .ok (.iaload, 1)) (h0 : 0 ≤ x ∧ x < M 97 4000) (e : M o.toNat x.toNat = v) (k : A mt d al (pc + 1) ls ((0, v) :: st) M K) : A mt d al pc ls ((0, x) :: (33, o) :: st) M K := by
  subst e; exact A_sald h h0.1 h0.2 k
theorem B_zald {o x v : Int} (h : decode mt.2.1 pc = .ok (.baload, 1)) (h0 : 0 ≤ x ∧ x < aln o.toNat) (e : M o.toNat x.toNat = v) (k : A mt d al (pc + 1) ls ((0, v) :: st) M K) : A mt d al pc ls ((0, x) :: (31, o) :: st) M K := by
  subst e; exact A_zald h h0.1 h0.2 k
theorem B_lald {o x v : Int} (h : decode mt.2.1 pc = .ok (.laload, 1)) (h0 : 0 ≤ x ∧ x < aln o.toNat) (e : M o.toNat x.toNat = v) (k : A mt d al (pc + 1) ls ((1, v) :: st) M K) : A mt d al pc ls ((0, x) :: (32, o) :: st) M K := by
  subst e; exact A_lald h h0.1 h0.2 k
theorem B_iast {o x v : Int} {M' : Mem} (h : decode mt.2.1 pc = .ok (.iastore, 1)) (h0 : 0 ≤ x ∧ x < aln o.toNat) (e : mset M o.toNat x.toNat v = M') (k : A mt d al (pc + 1) ls st M' K) : A mt d al pc ls ((0, v) :: (0, x) :: (30, o) :: st) M K := by
  subst e; exact A_iast h h0.1 h0.2 k
theorem B_zast {o x v : Int} {M' : Mem} (h : decode mt.2.1 pc = .ok (.bastore, 1)) (h0 : 0 ≤ x ∧ x < aln o.toNat) (h01 : v = 0 ∨ v = 1) (e : mset M o.toNat x.toNat v = M') (k : A mt d al (pc + 1) ls st M' K) : A mt d al pc ls ((0, v) :: (0, x) :: (31, o) :: st) M K := by
  subst e; exact A_zast h h0.1 h0.2 h01 k
theorem B_last {o x v : Int} {M' : Mem} (h : decode mt.2.1 pc = .ok (.lastore, 1)) (h0 : 0 ≤ x ∧ x < aln o.toNat) (e : mset M o.toNat x.toNat v = M') (k : A mt d al (pc + 1) ls st M' K) : A mt d al pc ls ((1, v) :: (0, x) :: (32, o) :: st) M K := by
  subst e; exact A_last h h0.1 h0.2 k
theorem B_alen {o v : Int} {t : Nat} (h : decode mt.2.1 pc = .ok (.arraylength, 1)) (ht : t = 30 ∨ t = 31 ∨ t = 32) (e : (aln o.toNat : Int) = v) (k : A mt d al (pc + 1) ls ((0, v) :: st) M K) : A mt d al pc ls ((t, o) :: st) M K := by
  subst e; exact A_alen h ht k
theorem B_talen {o v : Int} (h : decode mt.2.1 pc = .ok (.arraylength, 1)) (e : (aln o.toNat : Int) = v) (k : A mt d al (pc + 1) ls ((0, v) :: st) M K) : A mt d al pc ls ((34, o) :: st) M K := by
  subst e; exact A_talen h k
theorem B_copy {a b n : Int} {M' : Mem} {idx : Nat} (h : decode mt.2.1 pc = .ok (.invokestatic idx, 3)) (hd : 1 ≤ d) (hr8 : acs st ≤ 8) (h1 : Cond.methodLink mt.1.cls idx arraycopyName ∈ gtb) (h2 : Cond.native arraycopyName ∈ gtb) (h3 : Cond.static arraycopyName ∈ gtb) (h4 : Cond.initialized "java/lang/System" ∈ gtb)
    (hn0 : 0 ≤ n ∧ n ≤ aln a.toNat ∧ n ≤ aln b.toNat) (e : mcpy M a.toNat b.toNat n.toNat = M') (k : A mt d al (pc + 3) ls st M' K) : A mt d al pc ls ((0, n) :: (0, 0) :: (30, b) :: (0, 0) :: (30, a) :: st) M K := by
  subst e; exact A_copy h hd hr8 h1 h2 h3 h4 hn0.1 hn0.2.1 hn0.2.2 k
theorem lcmp_eq {x y : Int} : lcmp x y = 0 ↔ x = y := by unfold lcmp; split; omega; split <;> omega
theorem lcmp_lt {x y : Int} : lcmp x y < 0 ↔ x < y := by unfold lcmp; split; omega; split <;> omega
theorem lcmp_ge {x y : Int} : 0 ≤ lcmp x y ↔ y ≤ x := by unfold lcmp; split; omega; split <;> omega
theorem lcmp_gt {x y : Int} : 0 < lcmp x y ↔ y < x := by unfold lcmp; split; omega; split <;> omega
theorem lcmp_le {x y : Int} : lcmp x y ≤ 0 ↔ x ≤ y := by unfold lcmp; split; omega; split <;> omega
def Ki (P : Int → Mem → Prop) : List AV → Mem → Prop := fun v M' => ∃ r, v = [(0, r)] ∧ P r M'
def Kl (P : Int → Mem → Prop) : List AV → Mem → Prop := fun v M' => ∃ r, v = [(1, r)] ∧ P r M'
def Kd (P : Mem → Prop) : List AV → Mem → Prop := fun v M' => v = [] ∧ P M'
end NAMED
