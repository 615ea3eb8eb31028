/-! THE MACHINE: states of a method's walk in terms of the world; one law for each instruction -/
def txL : String := "personabove level part  seasonrise  in    or    and   not   hearertheme both  elder old   time  self  gap   "
def txW : String := "person above level part season rise in or and not hearer theme both elder old time self gap "
def txB : List (List Int32) := [[112, 101, 114, 115, 111, 110, 97, 98, 111, 118, 101, 32, 108, 101, 118, 101, 108, 32, 112, 97, 114, 116, 32, 32, 115, 101, 97, 115, 111, 110, 114, 105, 115, 101, 32, 32, 105, 110, 32, 32, 32, 32, 111, 114, 32, 32, 32, 32, 97, 110, 100, 32, 32, 32, 110, 111, 116, 32, 32, 32, 104, 101, 97, 114, 101, 114, 116, 104, 101, 109, 101, 32, 98, 111, 116, 104, 32, 32, 101, 108, 100, 101, 114, 32, 111, 108, 100, 32, 32, 32, 116, 105, 109, 101, 32, 32, 115, 101, 108, 102, 32, 32, 103, 97, 112, 32, 32, 32], [112, 101, 114, 115, 111, 110, 32, 97, 98, 111, 118, 101, 32, 108, 101, 118, 101, 108, 32, 112, 97, 114, 116, 32, 115, 101, 97, 115, 111, 110, 32, 114, 105, 115, 101, 32, 105, 110, 32, 111, 114, 32, 97, 110, 100, 32, 110, 111, 116, 32, 104, 101, 97, 114, 101, 114, 32, 116, 104, 101, 109, 101, 32, 98, 111, 116, 104, 32, 101, 108, 100, 101, 114, 32, 111, 108, 100, 32, 116, 105, 109, 101, 32, 115, 101, 108, 102, 32, 103, 97, 112, 32]]
/-- what never changes: the tables, the script, the texts -/
def tlen (SM : Mem) (k : Nat) : Nat := if k = 97 then (SM 97 4000).toNat else aln k
/-- the statics of the JDK that texts ask for -/
def STX (A : Nat → Prop) (U : State) (H : Heap) : Prop := va_Z "java/lang/String" "COMPACT_STRINGS" "Z" (.int 1) A U H ∧ va_Zq "jdk/internal/util/Preconditions" "SIOOBE_FORMATTER" "Ljava/util/function/BiFunction;" A U H ∧ vx_Zq Bundle.tN "UNASSIGNED_STACK" Bundle.steD A U H ∧ vx_Zq Bundle.tN "SUPPRESSED_SENTINEL" Bundle.listD A U H ∧ va_Nc "java/util/NoSuchElementException" "java/lang/IndexOutOfBoundsException" U
def RS (ad : Nat → Nat) (SM : Mem) (A : Nat → Prop) (U : State) (H : Heap) : Prop :=
  (va_Z RX6 "ONES" "[I" (.ref (ad 94)) A U H ∧ va_Z RX6 "OTHERS" "[I" (.ref (ad 95)) A U H ∧ va_Z RX6 "SHIFTS" "[I" (.ref (ad 96)) A U H) ∧
  (∀ k, NW ≤ k → k < 98 → va_T .int (ad k) (tlen SM k) (fun j => .int (Int32.ofInt (SM k j))) A U H) ∧
  (vk_R RX7 54 txL (ad 98) U ∧ vk_R RX11 160 txW (ad 99) U ∧ ∃ adV : Nat → Nat, vk_S 2 [108, 92] txB (fun i => ad (98 + i)) adV A U H ∧ STX A U H)
theorem RS.move {ad : Nat → Nat} {SM : Mem} {A0 A1 : Nat → Prop} {s U : State} {H : Heap} {locs : List Loc} (h : RS ad SM A0 s s.heap) (hS : va_S A0 s.heap H locs) (hW : s.WarmedH U.vm) (hA : ∀ q, A1 q → A0 q) : RS ad SM A1 U H := by
  obtain ⟨⟨z1, z2, z3⟩, ht, r1, r2, adV, hv, y1, y2, y3, y4, y5⟩ := h
  have hq : ∀ a : Nat, a < s.heap.size → ¬ A0 a → H[a]? = s.heap[a]? := hS.2.1
  have hal : s.vm.Alike U.vm := hW.alike
  exact ⟨⟨((z1.kept hq).narrow hA).moved hal, ((z2.kept hq).narrow hA).moved hal, ((z3.kept hq).narrow hA).moved hal⟩, fun k h1 h2 => (((ht k h1 h2).kept hq).narrow hA).moved hal, r1.warm hW, r2.warm hW, adV, ((hv.kept hq).narrow hA).moved hal, ((y1.kept hq).narrow hA).moved hal, ((y2.kept hq).narrow hA).moved hal, vx_Zq.moved hal ((y3.kept hq).narrow hA), vx_Zq.moved hal ((y4.kept hq).narrow hA), y5.moved hal⟩
theorem RS.calling {ad : Nat → Nat} {SM : Mem} {A : Nat → Prop} {U U' : State} {H : Heap} (h : RS ad SM A U H) (hv : U'.vm = U.vm) : RS ad SM A U' H := by
  obtain ⟨⟨z1, z2, z3⟩, ht, r1, r2, adV, hw, y1, y2, y3, y4, y5⟩ := h
  have hal : U.vm.Alike U'.vm := by rw [hv]; exact Vm.Alike.refl _
  exact ⟨⟨z1.moved hal, z2.moved hal, z3.moved hal⟩, fun k h1 h2 => (ht k h1 h2).moved hal, r1.same hv, r2.same hv, adV, hw.moved hal, y1.moved hal, y2.moved hal, vx_Zq.moved hal y3, vx_Zq.moved hal y4, y5.moved hal⟩
/-- a method: its name, its code, its locals, what it returns -/
abbrev MT : Type := MethodName × ByteArray × Nat × Option FieldType
/-- the machine beside the walk: program, launch, environment, room, start, method, arguments, frames below, the method's code, the goal; which cells may change, the addresses, the tables, what never changes, and how much may be made in all -/
abbrev JC : Type := Program × Launch × Env × Room × State × MethodId × Array Value × List Frame × Method × Code × (State → Prop) × (Nat → Prop) × (Nat → Nat) × va_G × CS × Mem × Nat × Nat
abbrev jp (X : JC) : Program := X.1
abbrev jl (X : JC) : Launch := X.2.1
abbrev je (X : JC) : Env := X.2.2.1
abbrev jR (X : JC) : Room := X.2.2.2.1
abbrev js (X : JC) : State := X.2.2.2.2.1
abbrev jm (X : JC) : MethodId := X.2.2.2.2.2.1
abbrev ja (X : JC) : Array Value := X.2.2.2.2.2.2.1
abbrev jb (X : JC) : List Frame := X.2.2.2.2.2.2.2.1
abbrev jt (X : JC) : Method := X.2.2.2.2.2.2.2.2.1
abbrev jc (X : JC) : Code := X.2.2.2.2.2.2.2.2.2.1
abbrev jQ (X : JC) : State → Prop := X.2.2.2.2.2.2.2.2.2.2.1
abbrev jA (X : JC) : Nat → Prop := X.2.2.2.2.2.2.2.2.2.2.2.1
abbrev jad (X : JC) : Nat → Nat := X.2.2.2.2.2.2.2.2.2.2.2.2.1
abbrev jD (X : JC) : va_G := X.2.2.2.2.2.2.2.2.2.2.2.2.2.1
abbrev jC (X : JC) : CS := X.2.2.2.2.2.2.2.2.2.2.2.2.2.2.1
abbrev jM (X : JC) : Mem := X.2.2.2.2.2.2.2.2.2.2.2.2.2.2.2.1
abbrev jk (X : JC) : Nat := X.2.2.2.2.2.2.2.2.2.2.2.2.2.2.2.2.1
abbrev jn (X : JC) : Nat := X.2.2.2.2.2.2.2.2.2.2.2.2.2.2.2.2.2
abbrev xW (X : JC) (H : Heap) (locs : List Loc) (cells slots : Nat) (g : JFrame) : Prop := W (jp X) (jl X) (je X) (jR X) (js X) (jm X) (ja X) (jb X) (jt X) (jc X) H locs cells slots (jQ X) g
abbrev atys (cs : CS) : List (ClassId × FieldType) := [(cs.1, .int), (cs.2.1, .long), (cs.2.2, .boolean)]
/-- what stands all through the walk -/
def EN (mt : MT) (d : Nat) (X : JC) : Prop :=
  (jp X).tables.exec = Jvm.exec ∧ (jc X).code = mt.2.1 ∧ (jc X).maxLocals = mt.2.2.1 ∧ (jt X).sig.returnType = mt.2.2.2 ∧ (jt X).locks = false ∧ (js X).vm.findClass mt.1.cls = some (jm X).cls ∧
  (∀ w ∈ lw_tbl, goodWord w = true → w.before (ja X) (js X) = true) ∧ (d + 3 ≤ (jR X).frames ∧ 64 * d + 192 ≤ (jR X).locals ∧ jk X ≤ (jR X).cells ∧ jn X ≤ (jR X).slots ∧ (X.2.1 : Launch).stackTraces = false) ∧
  va_K (jD X) wcl (atys (jC X)) (js X) ∧ (∀ w ∈ nstW, va_Nw w (js X)) ∧ RS (jad X) (jM X) (jA X) (js X) (js X).heap ∧ (∀ k, k < NW → jA X (jad X k)) ∧ ∀ q, (js X).heap.size ≤ q → jA X q
/-- the world at a point of the walk -/
def ST (X : JC) (M : Mem) (H : Heap) (locs : List Loc) : Prop :=
  va_P (jD X) wcl (wl (jad X) (jC X) M) H ∧ va_D (jA X) (wl (jad X) (jC X) M) ∧ va_S (jA X) (js X).heap H locs ∧ MR (jM X) M
def LSX (X : JC) (mt : MT) (ls : List AV) (jl : Array Slot) : Prop := lv_has jl mt.2.2.1 (lav (jad X) 0 ls) ∧ ∀ v ∈ ls, lok v
/-- a return at pc with v on the stack -/
def retOk (mt : MT) (pc : Nat) (v : List AV) : Prop := match v with
  | [] => decode mt.2.1 pc = .ok (.return_, 1) ∧ mt.2.2.2 = none
  | (0, x) :: [] => decode mt.2.1 pc = .ok (.ireturn, 1) ∧ (mt.2.2.2 = some .int ∨ (mt.2.2.2 = some .boolean ∧ (x = 0 ∨ x = 1)))
  | (1, _) :: [] => decode mt.2.1 pc = .ok (.lreturn, 1) ∧ mt.2.2.2 = some .long
  | _ => False
def RT (X : JC) (mt : MT) (K : List AV → Mem → Prop) : Prop :=
  ∀ (pc : Nat) (v : List AV) (jl : Array Slot) (M : Mem) (H : Heap) (locs : List Loc) (cells slots : Nat), retOk mt pc v → (∀ x ∈ v, vok x) → K v M → ST X M H locs → cells ≤ jk X → slots ≤ jn X → xW X H locs cells slots (F0 (jm X) pc jl (v.map (tv (jad X))))
/-- FROM HERE the method comes to a return with K -/
def A (mt : MT) (d al pc : Nat) (ls st : List AV) (M : Mem) (K : List AV → Mem → Prop) : Prop :=
  ∀ (X : JC) (jl : Array Slot) (H : Heap) (locs : List Loc) (cells slots : Nat), EN mt d X → ST X M H locs → LSX X mt ls jl → (∀ v ∈ st, vok v) → RT X mt K → cells + al ≤ jk X → slots + 16 * al ≤ jn X →
    xW X H locs cells slots (F0 (jm X) pc jl (st.map (tv (jad X))))
theorem A_ret {mt : MT} {d al pc : Nat} {ls st : List AV} {M : Mem} {K : List AV → Mem → Prop} (h : retOk mt pc st) (hK : K st M) : A mt d al pc ls st M K :=
  fun X jl H locs cells slots _ hS _ hv hR hc hs => hR pc st jl M H locs cells slots h hv hK hS (by omega) (by omega)
theorem A_weak {mt : MT} {d al pc : Nat} {ls ls' st : List AV} {M : Mem} {K : List AV → Mem → Prop} (h : lsub ls ls') (k : A mt d al pc ls' st M K) : A mt d al pc ls st M K :=
  fun X jl H locs cells slots hE hS hL hv hR hc hs => k X jl H locs cells slots hE hS ⟨lv_mono hL.1 (lav_sub h), fun v hv' => by
    by_cases h2 : v.1 = 2
    · exact Or.inl h2
    · obtain ⟨j, hj⟩ := List.getElem?_of_mem hv'
      exact hL.2 v (List.mem_of_getElem? (h j v hj h2))⟩ hv hR hc hs
theorem A_mono {mt : MT} {d al pc : Nat} {ls st : List AV} {M : Mem} {K K' : List AV → Mem → Prop} (h : ∀ v M', K v M' → K' v M') (k : A mt d al pc ls st M K) : A mt d al pc ls st M K' :=
  fun X jl H locs cells slots hE hS hL hv hR hc hs => k X jl H locs cells slots hE hS hL hv (fun pc v jl M H locs cells slots h1 h2 h3 => hR pc v jl M H locs cells slots h1 h2 (h v M h3)) hc hs
/-- what is known of the numbers here -/
theorem A_know {mt : MT} {d al pc : Nat} {ls st : List AV} {M : Mem} {K : List AV → Mem → Prop} (k : (∀ k j, in64 (M k j)) → (∀ k j, kd k ≠ 32 → in32 (M k j)) → (∀ v ∈ ls, lok v) → (∀ v ∈ st, vok v) → A mt d al pc ls st M K) : A mt d al pc ls st M K :=
  fun X jl H locs cells slots hE hS hL hv hR hc hs => k hS.2.2.2.1 hS.2.2.2.2.1 hL.2 hv X jl H locs cells slots hE hS hL hv hR hc hs
