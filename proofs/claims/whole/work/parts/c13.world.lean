/-! THE CLAIM OUT OF ONE WALK OF THE LAW'S BODY. Your part is whole_start (and what it stands on); all else here is the same for every law, but numbers. -/
def R_law : String := "CourtTongueLaw"
def lw_P (b : Addr) (xs : List Int32) (args : Array Value) (s : State) : Prop := args = #[.ref b] ∧ s.IntsAt b xs ∧ xs.length ≤ 3072 ∧ (Jvm.Cond.and given_1 narrow_1).before args s = true
def lw_Q (_ : Array Value) (s : State) (o : Outcome) (t : State) : Prop := o = .returned (some (.int 1)) ∧ Framed s o t [] 601024 7293034
def lw_Z (below : List Frame) (a : Array Value) (s : State) : State → Prop := fun t => ∃ o, t.status = .running ∧ Ended t below o ∧ lw_Q a s o t
/-- the law's own end, with 1 on the stack, nothing written that was there before, its room as the claim has it -/
theorem lw_ret {p : Program} {l : Launch} {e : Env} {s : State} {m : MethodId} {below : List Frame} {meth : Method} {c : Code} {b : Nat} (hx : p.tables.exec = Jvm.exec) (hb : c.code = code) (hr : meth.sig.returnType = ret) (hlocks : meth.locks = false) {pc : Nat} {H : Heap} {ls : Array Slot} (hdg : decode code pc = .ok (.ireturn, 1)) : W p l e room_1 s m #[Value.ref b] below meth c H [] 601024 7293034 (lw_Z below #[Value.ref b] s) (F0 m pc ls [.int 1]) := by
  intro T hT X
  obtain ⟨fs, hret, hrun, hended, hW, hframe⟩ := X.leave (v := some (.int 1)) (hlocks := hlocks) (fun h => by rw [hr] at h; cases h)
  have hmeth' : T.vm.method? m = some meth := X.method'
  refine ⟨T.setFrames fs, ?_, .returned (some (.int 1)), hrun, hended, rfl, ⟨_, rfl⟩, hW, hframe⟩
  jvm_step X.here [X.here.top, hx, hb, hdg, hmeth', hr, ret, narrow_b1]
  (try refine ⟨rfl, ?_⟩); (try refine ⟨rfl, ?_⟩)
  first | (intro acts; rw [hret _ acts rfl rfl rfl]) | rw [hret _ _ rfl rfl rfl]
  exact Steps.refl _
/-- what holds at the law's entry: the machine, the code, the tables' words (any of lw_tbl by 'hts w (by decide +kernel)'), the script of L ints xs at the cell b, what the Statement gives of the start (any of its parts by flat_of_before) -/
def lw_At (p : Program) (s : State) (m : MethodId) (meth : Method) (c : Code) (b L : Nat) (xs : Nat → Int32) : Prop :=
  p.tables.exec = Jvm.exec ∧ c.code = code ∧ meth.sig.returnType = ret ∧ c.maxLocals = 7 ∧ s.vm.findClass R_law = some m.cls ∧ (∀ w ∈ lw_tbl, w.before #[Value.ref b] s = true) ∧ va_X b L xs s s.heap ∧ b < s.heap.size ∧ meth.locks = false ∧ (Jvm.Cond.and given_1 narrow_1).before #[Value.ref b] s = true
def adL (l : List Nat) : Nat → Nat := fun k => l.getD k 0
theorem lg18 {S : Nat → Int} : lgf 18 = fun j => Int32.ofInt (M0 S 3 j) := by
  funext j
  show (if j < 18 then nI (lgw.getD j 0) else 0) = Int32.ofInt (if j < 18 then (lgw.getD j 0 : Int) else 0)
  by_cases q : j < 18
  · rw [if_pos q, if_pos q]; exact (Int32.ofInt_eq_ofNat).symm
  · rw [if_neg q, if_neg q]; rfl
def gW : Nat → Nat := fun k => [0, 2, 1, 20, 19, 3, 4, 5, 6, 7, 8, 9, 10, 11, 12, 13, 14, 15, 16, 17, 18, 21, 22, 23, 24, 25, 26, 27, 28, 29, 30, 31, 32, 33, 34, 35, 36, 37, 38, 39, 40, 41, 42, 43, 44, 45, 46, 47, 48, 49, 50, 51, 52, 53, 54, 55, 56, 57, 58, 59, 60, 61, 62, 63, 64, 65, 66, 67, 68, 69, 70, 71, 72, 73, 74, 75, 76, 77, 78, 79, 80, 81, 82, 83, 84, 85, 86, 87, 88, 89, 90, 91, 92, 93].getD k 0
section
variable {ad : Nat → Nat} {cs : CS} {S : Nat → Int} {k n : Nat}
theorem ea_i (h : kd k = 30) (hn : aln k = n) (hz : ∀ j, M0 S k j = 0) : ent ad cs (M0 S) k = .inl (cs.1, n, .inl (fun _ => 0)) := by
  unfold ent
  rw [if_pos h, hn]
  exact congrArg (fun f => (.inl (cs.1, n, .inl f) : va_E)) (funext fun j => by rw [hz j]; rfl)
theorem ea_z (h : kd k = 31) (hn : aln k = n) (hz : ∀ j, M0 S k j = 0) : ent ad cs (M0 S) k = .inl (cs.2.2, n, .inl (fun _ => 0)) := by
  unfold ent
  rw [if_neg (by rw [h]; decide), if_pos h, hn]
  exact congrArg (fun f => (.inl (cs.2.2, n, .inl f) : va_E)) (funext fun j => by rw [hz j]; rfl)
theorem ea_l (h : kd k = 32) (hn : aln k = n) (hz : ∀ j, M0 S k j = 0) : ent ad cs (M0 S) k = .inl (cs.2.1, n, .inr (.inl (fun _ => 0))) := by
  unfold ent
  rw [if_neg (by rw [h]; decide), if_neg (by rw [h]; decide), if_pos h, hn]
  exact congrArg (fun f => (.inl (cs.2.1, n, .inr (.inl f)) : va_E)) (funext fun j => by rw [hz j]; rfl)
theorem ea_3 : ent ad cs (M0 S) 3 = .inl (cs.1, 18, .inl (lgf 18)) := by
  rw [lg18 (S := S)]
  rfl
end
theorem wcn {a a' : Nat} {e e' : va_E} {l l' : va_W} (ha : a = a') (he : e = e') (ht : l = l') : (a, e) :: l = (a', e') :: l' := by rw [ha, he, ht]
set_option maxHeartbeats 4000000 in
set_option maxRecDepth 100000 in
theorem eo_0 (ad : Nat → Nat) (cs : CS) (S : Nat → Int) : ent ad cs (M0 S) 0 = .inr (9, [.ref (ad 2), .int 0, .ref (ad 21), .ref (ad 30), .int 0, .ref (ad 32), .int 0, .int 0, .ref (ad 34), .ref (ad 39), .ref (ad 43), .ref (ad 49), .ref (ad 52)]) := by
  rfl
set_option maxHeartbeats 4000000 in
set_option maxRecDepth 100000 in
theorem eo_2 (ad : Nat → Nat) (cs : CS) (S : Nat → Int) : ent ad cs (M0 S) 2 = .inr (7, [.ref (ad 1), .ref (ad 5), .ref (ad 14), .int 0, .int 0, .int (-1), .ref (ad 16), .ref (ad 3), .ref (ad 4), .int 0, .int 0, .int 0, .int 0, .int 0, .int 0, .int 0, .int 0, .int 0]) := by
  rfl
set_option maxHeartbeats 4000000 in
set_option maxRecDepth 100000 in
theorem eo_5 (ad : Nat → Nat) (cs : CS) (S : Nat → Int) : ent ad cs (M0 S) 5 = .inr (0, [.ref (ad 6), .ref (ad 7), .int 0, .ref (ad 8), .int 0, .ref (ad 9), .int 0, .int 0, .int 0]) := by
  rfl
set_option maxHeartbeats 4000000 in
set_option maxRecDepth 100000 in
theorem eo_9 (ad : Nat → Nat) (cs : CS) (S : Nat → Int) : ent ad cs (M0 S) 9 = .inr (3, [.ref (ad 10), .ref (ad 11), .ref (ad 12), .ref (ad 13), .int 0, .int 0]) := by
  rfl
set_option maxHeartbeats 4000000 in
set_option maxRecDepth 100000 in
theorem eo_14 (ad : Nat → Nat) (cs : CS) (S : Nat → Int) : ent ad cs (M0 S) 14 = .inr (2, [.ref (ad 15), .int 0]) := by
  rfl
set_option maxHeartbeats 4000000 in
set_option maxRecDepth 100000 in
theorem eo_16 (ad : Nat → Nat) (cs : CS) (S : Nat → Int) : ent ad cs (M0 S) 16 = .inr (5, [.ref (ad 17), .ref (ad 18), .ref (ad 19), .ref (ad 20), .int 0]) := by
  rfl
set_option maxHeartbeats 4000000 in
set_option maxRecDepth 100000 in
theorem eo_21 (ad : Nat → Nat) (cs : CS) (S : Nat → Int) : ent ad cs (M0 S) 21 = .inr (0, [.ref (ad 22), .ref (ad 23), .int 0, .ref (ad 24), .int 0, .ref (ad 25), .int 0, .int 0, .int 0]) := by
  rfl
set_option maxHeartbeats 4000000 in
set_option maxRecDepth 100000 in
theorem eo_25 (ad : Nat → Nat) (cs : CS) (S : Nat → Int) : ent ad cs (M0 S) 25 = .inr (3, [.ref (ad 26), .ref (ad 27), .ref (ad 28), .ref (ad 29), .int 0, .int 0]) := by
  rfl
set_option maxHeartbeats 4000000 in
set_option maxRecDepth 100000 in
theorem eo_30 (ad : Nat → Nat) (cs : CS) (S : Nat → Int) : ent ad cs (M0 S) 30 = .inr (2, [.ref (ad 31), .int 0]) := by
  rfl
set_option maxHeartbeats 4000000 in
set_option maxRecDepth 100000 in
theorem eo_32 (ad : Nat → Nat) (cs : CS) (S : Nat → Int) : ent ad cs (M0 S) 32 = .inr (2, [.ref (ad 33), .int 0]) := by
  rfl
set_option maxHeartbeats 4000000 in
set_option maxRecDepth 100000 in
theorem eo_34 (ad : Nat → Nat) (cs : CS) (S : Nat → Int) : ent ad cs (M0 S) 34 = .inr (5, [.ref (ad 35), .ref (ad 36), .ref (ad 37), .ref (ad 38), .int 0]) := by
  rfl
set_option maxHeartbeats 4000000 in
set_option maxRecDepth 100000 in
theorem eo_39 (ad : Nat → Nat) (cs : CS) (S : Nat → Int) : ent ad cs (M0 S) 39 = .inr (8, [.ref (ad 40), .ref (ad 41), .ref (ad 42)]) := by
  rfl
set_option maxHeartbeats 4000000 in
set_option maxRecDepth 100000 in
theorem eo_43 (ad : Nat → Nat) (cs : CS) (S : Nat → Int) : ent ad cs (M0 S) 43 = .inr (4, [.ref (ad 44), .ref (ad 45), .ref (ad 46), .ref (ad 47), .ref (ad 48), .int 0, .int (-1)]) := by
  rfl
set_option maxHeartbeats 4000000 in
set_option maxRecDepth 100000 in
theorem eo_49 (ad : Nat → Nat) (cs : CS) (S : Nat → Int) : ent ad cs (M0 S) 49 = .inr (6, [.int 0, .ref (ad 50), .int (-1), .ref (ad 51), .int 0, .int 0]) := by
  rfl
set_option maxHeartbeats 4000000 in
set_option maxRecDepth 100000 in
theorem eo_52 (ad : Nat → Nat) (cs : CS) (S : Nat → Int) : ent ad cs (M0 S) 52 = .inr (1, [.ref (ad 53), .ref (ad 54), .ref (ad 55), .ref (ad 56), .ref (ad 57), .ref (ad 58), .int 0, .int 0, .int 0]) := by
  rfl
set_option maxHeartbeats 4000000 in
set_option maxRecDepth 100000 in
theorem eo_59 (ad : Nat → Nat) (cs : CS) (S : Nat → Int) : ent ad cs (M0 S) 59 = .inr (10, [.int 0, .ref (ad 60), .int 0, .ref (ad 61), .ref (ad 62), .ref (ad 63), .ref (ad 64), .ref (ad 65), .ref (ad 66), .ref (ad 67), .ref (ad 68), .ref (ad 69), .ref (ad 70), .ref (ad 71), .ref (ad 72), .ref (ad 73), .int 0, .int 0, .int 0, .int 0, .int 0, .int 0, .int 0, .int 0, .int 0, .int 0, .int (-1), .int 0, .int 0, .ref (ad 74), .ref (ad 75), .int 0, .int 0, .int 0, .int 0, .int 0, .ref (ad 76), .ref (ad 77), .ref (ad 78), .int 0, .ref (ad 79), .ref (ad 80), .ref (ad 81), .int 0, .int 0, .int 0, .int 0, .int (-1), .ref (ad 82), .ref (ad 83), .ref (ad 84), .ref (ad 85), .ref (ad 86), .ref (ad 87), .ref (ad 88), .ref (ad 89), .ref (ad 90), .ref (ad 91), .ref (ad 92)]) := by
  show Sum.inr (kd 59 - 10, flds ad (M0 S) 59) = _
  refine congrArg (fun l => (Sum.inr (10, l) : va_E)) ?_
  unfold flds
  simp only [show FT.getD (kd 59 - 10) [] = [(0, 0), (30, 1), (0, 2), (30, 2), (30, 3), (30, 4), (30, 5), (30, 6), (30, 7), (30, 8), (30, 9), (30, 10), (30, 11), (30, 12), (30, 13), (31, 14), (0, 16), (0, 17), (0, 18), (0, 19), (0, 20), (0, 21), (0, 22), (0, 23), (0, 24), (0, 25), (0, 26), (0, 27), (0, 28), (31, 15), (31, 16), (0, 31), (0, 32), (3, 33), (0, 34), (0, 35), (30, 17), (32, 18), (32, 19), (0, 39), (32, 20), (30, 21), (30, 22), (0, 43), (0, 44), (0, 45), (0, 46), (0, 47), (30, 23), (30, 24), (30, 25), (30, 26), (30, 27), (31, 28), (31, 29), (30, 30), (30, 31), (30, 32), (30, 33)] from by decide +kernel, List.mapIdx_cons, List.mapIdx_nil]
  rfl
def gP : List Nat := [0, 2, 1, 5, 6, 7, 8, 9, 10, 11, 12, 13, 14, 15, 16, 17, 18, 19, 20, 4, 3, 21, 22, 23, 24, 25, 26, 27, 28, 29, 30, 31, 32, 33, 34, 35, 36, 37, 38, 39, 40, 41, 42, 43, 44, 45, 46, 47, 48, 49, 50, 51, 52, 53, 54, 55, 56, 57, 58, 59, 60, 61, 62, 63, 64, 65, 66, 67, 68, 69, 70, 71, 72, 73, 74, 75, 76, 77, 78, 79, 80, 81, 82, 83, 84, 85, 86, 87, 88, 89, 90, 91, 92, 93]
set_option maxHeartbeats 4000000 in
set_option maxRecDepth 100000 in
theorem wl_gen (ad : Nat → Nat) (cs : CS) (S : Nat → Int) : ([(ad 0, .inr (9, [.ref (ad 2), .int 0, .ref (ad 21), .ref (ad 30), .int 0, .ref (ad 32), .int 0, .int 0, .ref (ad 34), .ref (ad 39), .ref (ad 43), .ref (ad 49), .ref (ad 52)])), (ad 2, .inr (7, [.ref (ad 1), .ref (ad 5), .ref (ad 14), .int 0, .int 0, .int (-1), .ref (ad 16), .ref (ad 3), .ref (ad 4), .int 0, .int 0, .int 0, .int 0, .int 0, .int 0, .int 0, .int 0, .int 0])), (ad 1, .inl (cs.1, 700, .inl (fun _ => 0))), (ad 5, .inr (0, [.ref (ad 6), .ref (ad 7), .int 0, .ref (ad 8), .int 0, .ref (ad 9), .int 0, .int 0, .int 0])), (ad 6, .inl (cs.1, 5, .inl (fun _ => 0))), (ad 7, .inl (cs.1, 5, .inl (fun _ => 0))), (ad 8, .inl (cs.1, 5, .inl (fun _ => 0))), (ad 9, .inr (3, [.ref (ad 10), .ref (ad 11), .ref (ad 12), .ref (ad 13), .int 0, .int 0])), (ad 10, .inl (cs.1, 64, .inl (fun _ => 0))), (ad 11, .inl (cs.1, 6, .inl (fun _ => 0))), (ad 12, .inl (cs.1, 6, .inl (fun _ => 0))), (ad 13, .inl (cs.2.1, 64, .inr (.inl (fun _ => 0)))), (ad 14, .inr (2, [.ref (ad 15), .int 0])), (ad 15, .inl (cs.1, 120, .inl (fun _ => 0))), (ad 16, .inr (5, [.ref (ad 17), .ref (ad 18), .ref (ad 19), .ref (ad 20), .int 0])), (ad 17, .inl (cs.1, 8, .inl (fun _ => 0))), (ad 18, .inl (cs.1, 8, .inl (fun _ => 0))), (ad 19, .inl (cs.1, 8, .inl (fun _ => 0))), (ad 20, .inl (cs.1, 8, .inl (fun _ => 0))), (ad 4, .inl (cs.1, 72, .inl (fun _ => 0))), (ad 3, .inl (cs.1, 18, .inl (lgf 18))), (ad 21, .inr (0, [.ref (ad 22), .ref (ad 23), .int 0, .ref (ad 24), .int 0, .ref (ad 25), .int 0, .int 0, .int 0])), (ad 22, .inl (cs.1, 5, .inl (fun _ => 0))), (ad 23, .inl (cs.1, 5, .inl (fun _ => 0))), (ad 24, .inl (cs.1, 5, .inl (fun _ => 0))), (ad 25, .inr (3, [.ref (ad 26), .ref (ad 27), .ref (ad 28), .ref (ad 29), .int 0, .int 0])), (ad 26, .inl (cs.1, 64, .inl (fun _ => 0))), (ad 27, .inl (cs.1, 6, .inl (fun _ => 0))), (ad 28, .inl (cs.1, 6, .inl (fun _ => 0))), (ad 29, .inl (cs.2.1, 64, .inr (.inl (fun _ => 0)))), (ad 30, .inr (2, [.ref (ad 31), .int 0])), (ad 31, .inl (cs.1, 120, .inl (fun _ => 0))), (ad 32, .inr (2, [.ref (ad 33), .int 0])), (ad 33, .inl (cs.1, 120, .inl (fun _ => 0))), (ad 34, .inr (5, [.ref (ad 35), .ref (ad 36), .ref (ad 37), .ref (ad 38), .int 0])), (ad 35, .inl (cs.1, 8, .inl (fun _ => 0))), (ad 36, .inl (cs.1, 8, .inl (fun _ => 0))), (ad 37, .inl (cs.1, 8, .inl (fun _ => 0))), (ad 38, .inl (cs.1, 8, .inl (fun _ => 0))), (ad 39, .inr (8, [.ref (ad 40), .ref (ad 41), .ref (ad 42)])), (ad 40, .inl (cs.1, 8, .inl (fun _ => 0))), (ad 41, .inl (cs.2.1, 5, .inr (.inl (fun _ => 0)))), (ad 42, .inl (cs.1, 8, .inl (fun _ => 0))), (ad 43, .inr (4, [.ref (ad 44), .ref (ad 45), .ref (ad 46), .ref (ad 47), .ref (ad 48), .int 0, .int (-1)])), (ad 44, .inl (cs.1, 24, .inl (fun _ => 0))), (ad 45, .inl (cs.1, 24, .inl (fun _ => 0))), (ad 46, .inl (cs.1, 24, .inl (fun _ => 0))), (ad 47, .inl (cs.1, 24, .inl (fun _ => 0))), (ad 48, .inl (cs.1, 24, .inl (fun _ => 0))), (ad 49, .inr (6, [.int 0, .ref (ad 50), .int (-1), .ref (ad 51), .int 0, .int 0])), (ad 50, .inl (cs.1, 4231, .inl (fun _ => 0))), (ad 51, .inl (cs.1, 4231, .inl (fun _ => 0))), (ad 52, .inr (1, [.ref (ad 53), .ref (ad 54), .ref (ad 55), .ref (ad 56), .ref (ad 57), .ref (ad 58), .int 0, .int 0, .int 0])), (ad 53, .inl (cs.1, 32, .inl (fun _ => 0))), (ad 54, .inl (cs.1, 480, .inl (fun _ => 0))), (ad 55, .inl (cs.1, 480, .inl (fun _ => 0))), (ad 56, .inl (cs.1, 480, .inl (fun _ => 0))), (ad 57, .inl (cs.2.2, 480, .inl (fun _ => 0))), (ad 58, .inl (cs.1, 8, .inl (fun _ => 0))), (ad 59, .inr (10, [.int 0, .ref (ad 60), .int 0, .ref (ad 61), .ref (ad 62), .ref (ad 63), .ref (ad 64), .ref (ad 65), .ref (ad 66), .ref (ad 67), .ref (ad 68), .ref (ad 69), .ref (ad 70), .ref (ad 71), .ref (ad 72), .ref (ad 73), .int 0, .int 0, .int 0, .int 0, .int 0, .int 0, .int 0, .int 0, .int 0, .int 0, .int (-1), .int 0, .int 0, .ref (ad 74), .ref (ad 75), .int 0, .int 0, .int 0, .int 0, .int 0, .ref (ad 76), .ref (ad 77), .ref (ad 78), .int 0, .ref (ad 79), .ref (ad 80), .ref (ad 81), .int 0, .int 0, .int 0, .int 0, .int (-1), .ref (ad 82), .ref (ad 83), .ref (ad 84), .ref (ad 85), .ref (ad 86), .ref (ad 87), .ref (ad 88), .ref (ad 89), .ref (ad 90), .ref (ad 91), .ref (ad 92)])), (ad 60, .inl (cs.1, 700, .inl (fun _ => 0))), (ad 61, .inl (cs.1, 10, .inl (fun _ => 0))), (ad 62, .inl (cs.1, 10, .inl (fun _ => 0))), (ad 63, .inl (cs.1, 10, .inl (fun _ => 0))), (ad 64, .inl (cs.1, 10, .inl (fun _ => 0))), (ad 65, .inl (cs.1, 12, .inl (fun _ => 0))), (ad 66, .inl (cs.1, 12, .inl (fun _ => 0))), (ad 67, .inl (cs.1, 128, .inl (fun _ => 0))), (ad 68, .inl (cs.1, 128, .inl (fun _ => 0))), (ad 69, .inl (cs.1, 72, .inl (fun _ => 0))), (ad 70, .inl (cs.1, 72, .inl (fun _ => 0))), (ad 71, .inl (cs.1, 72, .inl (fun _ => 0))), (ad 72, .inl (cs.1, 72, .inl (fun _ => 0))), (ad 73, .inl (cs.2.2, 72, .inl (fun _ => 0))), (ad 74, .inl (cs.2.2, 25, .inl (fun _ => 0))), (ad 75, .inl (cs.2.2, 25, .inl (fun _ => 0))), (ad 76, .inl (cs.1, 5, .inl (fun _ => 0))), (ad 77, .inl (cs.2.1, 8, .inr (.inl (fun _ => 0)))), (ad 78, .inl (cs.2.1, 64, .inr (.inl (fun _ => 0)))), (ad 79, .inl (cs.2.1, 5, .inr (.inl (fun _ => 0)))), (ad 80, .inl (cs.1, 5, .inl (fun _ => 0))), (ad 81, .inl (cs.1, 5, .inl (fun _ => 0))), (ad 82, .inl (cs.1, 24, .inl (fun _ => 0))), (ad 83, .inl (cs.1, 24, .inl (fun _ => 0))), (ad 84, .inl (cs.1, 24, .inl (fun _ => 0))), (ad 85, .inl (cs.1, 24, .inl (fun _ => 0))), (ad 86, .inl (cs.1, 24, .inl (fun _ => 0))), (ad 87, .inl (cs.2.2, 24, .inl (fun _ => 0))), (ad 88, .inl (cs.2.2, 100, .inl (fun _ => 0))), (ad 89, .inl (cs.1, 12500, .inl (fun _ => 0))), (ad 90, .inl (cs.1, 12500, .inl (fun _ => 0))), (ad 91, .inl (cs.1, 480, .inl (fun _ => 0))), (ad 92, .inl (cs.1, 5, .inl (fun _ => 0))), (ad 93, .inl (cs.2.1, 1, .inr (.inl (fun _ => 0))))] : va_W) = gP.map (fun k => (ad k, ent ad cs (M0 S) k)) :=
  wcn rfl (eo_0 ad cs S).symm (
  wcn rfl (eo_2 ad cs S).symm (
  wcn rfl (ea_i (by decide) (by decide) (fun _ => rfl)).symm (
  wcn rfl (eo_5 ad cs S).symm (
  wcn rfl (ea_i (by decide) (by decide) (fun _ => rfl)).symm (
  wcn rfl (ea_i (by decide) (by decide) (fun _ => rfl)).symm (
  wcn rfl (ea_i (by decide) (by decide) (fun _ => rfl)).symm (
  wcn rfl (eo_9 ad cs S).symm (
  wcn rfl (ea_i (by decide) (by decide) (fun _ => rfl)).symm (
  wcn rfl (ea_i (by decide) (by decide) (fun _ => rfl)).symm (
  wcn rfl (ea_i (by decide) (by decide) (fun _ => rfl)).symm (
  wcn rfl (ea_l (by decide) (by decide) (fun _ => rfl)).symm (
  wcn rfl (eo_14 ad cs S).symm (
  wcn rfl (ea_i (by decide) (by decide) (fun _ => rfl)).symm (
  wcn rfl (eo_16 ad cs S).symm (
  wcn rfl (ea_i (by decide) (by decide) (fun _ => rfl)).symm (
  wcn rfl (ea_i (by decide) (by decide) (fun _ => rfl)).symm (
  wcn rfl (ea_i (by decide) (by decide) (fun _ => rfl)).symm (
  wcn rfl (ea_i (by decide) (by decide) (fun _ => rfl)).symm (
  wcn rfl (ea_i (by decide) (by decide) (fun _ => rfl)).symm (
  wcn rfl ea_3.symm (
  wcn rfl (eo_21 ad cs S).symm (
  wcn rfl (ea_i (by decide) (by decide) (fun _ => rfl)).symm (
  wcn rfl (ea_i (by decide) (by decide) (fun _ => rfl)).symm (
  wcn rfl (ea_i (by decide) (by decide) (fun _ => rfl)).symm (
  wcn rfl (eo_25 ad cs S).symm (
  wcn rfl (ea_i (by decide) (by decide) (fun _ => rfl)).symm (
  wcn rfl (ea_i (by decide) (by decide) (fun _ => rfl)).symm (
  wcn rfl (ea_i (by decide) (by decide) (fun _ => rfl)).symm (
  wcn rfl (ea_l (by decide) (by decide) (fun _ => rfl)).symm (
  wcn rfl (eo_30 ad cs S).symm (
  wcn rfl (ea_i (by decide) (by decide) (fun _ => rfl)).symm (
  wcn rfl (eo_32 ad cs S).symm (
  wcn rfl (ea_i (by decide) (by decide) (fun _ => rfl)).symm (
  wcn rfl (eo_34 ad cs S).symm (
  wcn rfl (ea_i (by decide) (by decide) (fun _ => rfl)).symm (
  wcn rfl (ea_i (by decide) (by decide) (fun _ => rfl)).symm (
  wcn rfl (ea_i (by decide) (by decide) (fun _ => rfl)).symm (
  wcn rfl (ea_i (by decide) (by decide) (fun _ => rfl)).symm (
  wcn rfl (eo_39 ad cs S).symm (
  wcn rfl (ea_i (by decide) (by decide) (fun _ => rfl)).symm (
  wcn rfl (ea_l (by decide) (by decide) (fun _ => rfl)).symm (
  wcn rfl (ea_i (by decide) (by decide) (fun _ => rfl)).symm (
  wcn rfl (eo_43 ad cs S).symm (
  wcn rfl (ea_i (by decide) (by decide) (fun _ => rfl)).symm (
  wcn rfl (ea_i (by decide) (by decide) (fun _ => rfl)).symm (
  wcn rfl (ea_i (by decide) (by decide) (fun _ => rfl)).symm (
  wcn rfl (ea_i (by decide) (by decide) (fun _ => rfl)).symm (
  wcn rfl (ea_i (by decide) (by decide) (fun _ => rfl)).symm (
  wcn rfl (eo_49 ad cs S).symm (
  wcn rfl (ea_i (by decide) (by decide) (fun _ => rfl)).symm (
  wcn rfl (ea_i (by decide) (by decide) (fun _ => rfl)).symm (
  wcn rfl (eo_52 ad cs S).symm (
  wcn rfl (ea_i (by decide) (by decide) (fun _ => rfl)).symm (
  wcn rfl (ea_i (by decide) (by decide) (fun _ => rfl)).symm (
  wcn rfl (ea_i (by decide) (by decide) (fun _ => rfl)).symm (
  wcn rfl (ea_i (by decide) (by decide) (fun _ => rfl)).symm (
  wcn rfl (ea_z (by decide) (by decide) (fun _ => rfl)).symm (
  wcn rfl (ea_i (by decide) (by decide) (fun _ => rfl)).symm (
  wcn rfl (eo_59 ad cs S).symm (
  wcn rfl (ea_i (by decide) (by decide) (fun _ => rfl)).symm (
  wcn rfl (ea_i (by decide) (by decide) (fun _ => rfl)).symm (
  wcn rfl (ea_i (by decide) (by decide) (fun _ => rfl)).symm (
  wcn rfl (ea_i (by decide) (by decide) (fun _ => rfl)).symm (
  wcn rfl (ea_i (by decide) (by decide) (fun _ => rfl)).symm (
  wcn rfl (ea_i (by decide) (by decide) (fun _ => rfl)).symm (
  wcn rfl (ea_i (by decide) (by decide) (fun _ => rfl)).symm (
  wcn rfl (ea_i (by decide) (by decide) (fun _ => rfl)).symm (
  wcn rfl (ea_i (by decide) (by decide) (fun _ => rfl)).symm (
  wcn rfl (ea_i (by decide) (by decide) (fun _ => rfl)).symm (
  wcn rfl (ea_i (by decide) (by decide) (fun _ => rfl)).symm (
  wcn rfl (ea_i (by decide) (by decide) (fun _ => rfl)).symm (
  wcn rfl (ea_i (by decide) (by decide) (fun _ => rfl)).symm (
  wcn rfl (ea_z (by decide) (by decide) (fun _ => rfl)).symm (
  wcn rfl (ea_z (by decide) (by decide) (fun _ => rfl)).symm (
  wcn rfl (ea_z (by decide) (by decide) (fun _ => rfl)).symm (
  wcn rfl (ea_i (by decide) (by decide) (fun _ => rfl)).symm (
  wcn rfl (ea_l (by decide) (by decide) (fun _ => rfl)).symm (
  wcn rfl (ea_l (by decide) (by decide) (fun _ => rfl)).symm (
  wcn rfl (ea_l (by decide) (by decide) (fun _ => rfl)).symm (
  wcn rfl (ea_i (by decide) (by decide) (fun _ => rfl)).symm (
  wcn rfl (ea_i (by decide) (by decide) (fun _ => rfl)).symm (
  wcn rfl (ea_i (by decide) (by decide) (fun _ => rfl)).symm (
  wcn rfl (ea_i (by decide) (by decide) (fun _ => rfl)).symm (
  wcn rfl (ea_i (by decide) (by decide) (fun _ => rfl)).symm (
  wcn rfl (ea_i (by decide) (by decide) (fun _ => rfl)).symm (
  wcn rfl (ea_i (by decide) (by decide) (fun _ => rfl)).symm (
  wcn rfl (ea_z (by decide) (by decide) (fun _ => rfl)).symm (
  wcn rfl (ea_z (by decide) (by decide) (fun _ => rfl)).symm (
  wcn rfl (ea_i (by decide) (by decide) (fun _ => rfl)).symm (
  wcn rfl (ea_i (by decide) (by decide) (fun _ => rfl)).symm (
  wcn rfl (ea_i (by decide) (by decide) (fun _ => rfl)).symm (
  wcn rfl (ea_i (by decide) (by decide) (fun _ => rfl)).symm (
  wcn rfl (ea_l (by decide) (by decide) (fun _ => rfl)).symm (
  rfl))))))))))))))))))))))))))))))))))))))))))))))))))))))))))))))))))))))))))))))))))))))))))))))
theorem gP_at : ∀ k, k < 94 → gP[gW k]? = some k := by decide +kernel
set_option maxHeartbeats 4000000 in
set_option maxRecDepth 100000 in
theorem wl_at (cs : CS) (S : Nat → Int) (a0 a1 a2 a3 a4 a5 a6 a7 a8 a9 a10 a11 a12 a13 a14 a15 a16 a17 a18 a19 a20 a21 a22 a23 a24 a25 a26 a27 a28 a29 a30 a31 a32 a33 a34 a35 a36 a37 a38 a39 a40 a41 a42 a43 a44 a45 a46 a47 a48 a49 a50 a51 a52 a53 a54 a55 a56 a57 a58 r0 r1 r2 r3 r4 r5 r6 r7 r8 r9 r10 r11 r12 r13 r14 r15 r16 r17 r18 r19 r20 r21 r22 r23 r24 r25 r26 r27 r28 r29 r30 r31 r32 r33 z0 t94 t95 t96 b k0 k1 : Nat) : ∀ k, k < 94 → ([(a0, .inr (9, [.ref a1, .int 0, .ref a21, .ref a30, .int 0, .ref a32, .int 0, .int 0, .ref a34, .ref a39, .ref a43, .ref a49, .ref a52])), (a1, .inr (7, [.ref a2, .ref a3, .ref a12, .int 0, .int 0, .int (-1), .ref a14, .ref a20, .ref a19, .int 0, .int 0, .int 0, .int 0, .int 0, .int 0, .int 0, .int 0, .int 0])), (a2, .inl (cs.1, 700, .inl (fun _ => 0))), (a3, .inr (0, [.ref a4, .ref a5, .int 0, .ref a6, .int 0, .ref a7, .int 0, .int 0, .int 0])), (a4, .inl (cs.1, 5, .inl (fun _ => 0))), (a5, .inl (cs.1, 5, .inl (fun _ => 0))), (a6, .inl (cs.1, 5, .inl (fun _ => 0))), (a7, .inr (3, [.ref a8, .ref a9, .ref a10, .ref a11, .int 0, .int 0])), (a8, .inl (cs.1, 64, .inl (fun _ => 0))), (a9, .inl (cs.1, 6, .inl (fun _ => 0))), (a10, .inl (cs.1, 6, .inl (fun _ => 0))), (a11, .inl (cs.2.1, 64, .inr (.inl (fun _ => 0)))), (a12, .inr (2, [.ref a13, .int 0])), (a13, .inl (cs.1, 120, .inl (fun _ => 0))), (a14, .inr (5, [.ref a15, .ref a16, .ref a17, .ref a18, .int 0])), (a15, .inl (cs.1, 8, .inl (fun _ => 0))), (a16, .inl (cs.1, 8, .inl (fun _ => 0))), (a17, .inl (cs.1, 8, .inl (fun _ => 0))), (a18, .inl (cs.1, 8, .inl (fun _ => 0))), (a19, .inl (cs.1, 72, .inl (fun _ => 0))), (a20, .inl (cs.1, 18, .inl (lgf 18))), (a21, .inr (0, [.ref a22, .ref a23, .int 0, .ref a24, .int 0, .ref a25, .int 0, .int 0, .int 0])), (a22, .inl (cs.1, 5, .inl (fun _ => 0))), (a23, .inl (cs.1, 5, .inl (fun _ => 0))), (a24, .inl (cs.1, 5, .inl (fun _ => 0))), (a25, .inr (3, [.ref a26, .ref a27, .ref a28, .ref a29, .int 0, .int 0])), (a26, .inl (cs.1, 64, .inl (fun _ => 0))), (a27, .inl (cs.1, 6, .inl (fun _ => 0))), (a28, .inl (cs.1, 6, .inl (fun _ => 0))), (a29, .inl (cs.2.1, 64, .inr (.inl (fun _ => 0)))), (a30, .inr (2, [.ref a31, .int 0])), (a31, .inl (cs.1, 120, .inl (fun _ => 0))), (a32, .inr (2, [.ref a33, .int 0])), (a33, .inl (cs.1, 120, .inl (fun _ => 0))), (a34, .inr (5, [.ref a35, .ref a36, .ref a37, .ref a38, .int 0])), (a35, .inl (cs.1, 8, .inl (fun _ => 0))), (a36, .inl (cs.1, 8, .inl (fun _ => 0))), (a37, .inl (cs.1, 8, .inl (fun _ => 0))), (a38, .inl (cs.1, 8, .inl (fun _ => 0))), (a39, .inr (8, [.ref a40, .ref a41, .ref a42])), (a40, .inl (cs.1, 8, .inl (fun _ => 0))), (a41, .inl (cs.2.1, 5, .inr (.inl (fun _ => 0)))), (a42, .inl (cs.1, 8, .inl (fun _ => 0))), (a43, .inr (4, [.ref a44, .ref a45, .ref a46, .ref a47, .ref a48, .int 0, .int (-1)])), (a44, .inl (cs.1, 24, .inl (fun _ => 0))), (a45, .inl (cs.1, 24, .inl (fun _ => 0))), (a46, .inl (cs.1, 24, .inl (fun _ => 0))), (a47, .inl (cs.1, 24, .inl (fun _ => 0))), (a48, .inl (cs.1, 24, .inl (fun _ => 0))), (a49, .inr (6, [.int 0, .ref a50, .int (-1), .ref a51, .int 0, .int 0])), (a50, .inl (cs.1, 4231, .inl (fun _ => 0))), (a51, .inl (cs.1, 4231, .inl (fun _ => 0))), (a52, .inr (1, [.ref a53, .ref a54, .ref a55, .ref a56, .ref a57, .ref a58, .int 0, .int 0, .int 0])), (a53, .inl (cs.1, 32, .inl (fun _ => 0))), (a54, .inl (cs.1, 480, .inl (fun _ => 0))), (a55, .inl (cs.1, 480, .inl (fun _ => 0))), (a56, .inl (cs.1, 480, .inl (fun _ => 0))), (a57, .inl (cs.2.2, 480, .inl (fun _ => 0))), (a58, .inl (cs.1, 8, .inl (fun _ => 0))), (r0, .inr (10, [.int 0, .ref r1, .int 0, .ref r2, .ref r3, .ref r4, .ref r5, .ref r6, .ref r7, .ref r8, .ref r9, .ref r10, .ref r11, .ref r12, .ref r13, .ref r14, .int 0, .int 0, .int 0, .int 0, .int 0, .int 0, .int 0, .int 0, .int 0, .int 0, .int (-1), .int 0, .int 0, .ref r15, .ref r16, .int 0, .int 0, .int 0, .int 0, .int 0, .ref r17, .ref r18, .ref r19, .int 0, .ref r20, .ref r21, .ref r22, .int 0, .int 0, .int 0, .int 0, .int (-1), .ref r23, .ref r24, .ref r25, .ref r26, .ref r27, .ref r28, .ref r29, .ref r30, .ref r31, .ref r32, .ref r33])), (r1, .inl (cs.1, 700, .inl (fun _ => 0))), (r2, .inl (cs.1, 10, .inl (fun _ => 0))), (r3, .inl (cs.1, 10, .inl (fun _ => 0))), (r4, .inl (cs.1, 10, .inl (fun _ => 0))), (r5, .inl (cs.1, 10, .inl (fun _ => 0))), (r6, .inl (cs.1, 12, .inl (fun _ => 0))), (r7, .inl (cs.1, 12, .inl (fun _ => 0))), (r8, .inl (cs.1, 128, .inl (fun _ => 0))), (r9, .inl (cs.1, 128, .inl (fun _ => 0))), (r10, .inl (cs.1, 72, .inl (fun _ => 0))), (r11, .inl (cs.1, 72, .inl (fun _ => 0))), (r12, .inl (cs.1, 72, .inl (fun _ => 0))), (r13, .inl (cs.1, 72, .inl (fun _ => 0))), (r14, .inl (cs.2.2, 72, .inl (fun _ => 0))), (r15, .inl (cs.2.2, 25, .inl (fun _ => 0))), (r16, .inl (cs.2.2, 25, .inl (fun _ => 0))), (r17, .inl (cs.1, 5, .inl (fun _ => 0))), (r18, .inl (cs.2.1, 8, .inr (.inl (fun _ => 0)))), (r19, .inl (cs.2.1, 64, .inr (.inl (fun _ => 0)))), (r20, .inl (cs.2.1, 5, .inr (.inl (fun _ => 0)))), (r21, .inl (cs.1, 5, .inl (fun _ => 0))), (r22, .inl (cs.1, 5, .inl (fun _ => 0))), (r23, .inl (cs.1, 24, .inl (fun _ => 0))), (r24, .inl (cs.1, 24, .inl (fun _ => 0))), (r25, .inl (cs.1, 24, .inl (fun _ => 0))), (r26, .inl (cs.1, 24, .inl (fun _ => 0))), (r27, .inl (cs.1, 24, .inl (fun _ => 0))), (r28, .inl (cs.2.2, 24, .inl (fun _ => 0))), (r29, .inl (cs.2.2, 100, .inl (fun _ => 0))), (r30, .inl (cs.1, 12500, .inl (fun _ => 0))), (r31, .inl (cs.1, 12500, .inl (fun _ => 0))), (r32, .inl (cs.1, 480, .inl (fun _ => 0))), (r33, .inl (cs.1, 5, .inl (fun _ => 0))), (z0, .inl (cs.2.1, 1, .inr (.inl (fun _ => 0))))] : va_W)[gW k]? = some (adL [a0, a2, a1, a20, a19, a3, a4, a5, a6, a7, a8, a9, a10, a11, a12, a13, a14, a15, a16, a17, a18, a21, a22, a23, a24, a25, a26, a27, a28, a29, a30, a31, a32, a33, a34, a35, a36, a37, a38, a39, a40, a41, a42, a43, a44, a45, a46, a47, a48, a49, a50, a51, a52, a53, a54, a55, a56, a57, a58, r0, r1, r2, r3, r4, r5, r6, r7, r8, r9, r10, r11, r12, r13, r14, r15, r16, r17, r18, r19, r20, r21, r22, r23, r24, r25, r26, r27, r28, r29, r30, r31, r32, r33, z0, t94, t95, t96, b, k0, k1] k, ent (adL [a0, a2, a1, a20, a19, a3, a4, a5, a6, a7, a8, a9, a10, a11, a12, a13, a14, a15, a16, a17, a18, a21, a22, a23, a24, a25, a26, a27, a28, a29, a30, a31, a32, a33, a34, a35, a36, a37, a38, a39, a40, a41, a42, a43, a44, a45, a46, a47, a48, a49, a50, a51, a52, a53, a54, a55, a56, a57, a58, r0, r1, r2, r3, r4, r5, r6, r7, r8, r9, r10, r11, r12, r13, r14, r15, r16, r17, r18, r19, r20, r21, r22, r23, r24, r25, r26, r27, r28, r29, r30, r31, r32, r33, z0, t94, t95, t96, b, k0, k1]) cs (M0 S) k) := by
  intro k hk
  have e : ([(a0, .inr (9, [.ref a1, .int 0, .ref a21, .ref a30, .int 0, .ref a32, .int 0, .int 0, .ref a34, .ref a39, .ref a43, .ref a49, .ref a52])), (a1, .inr (7, [.ref a2, .ref a3, .ref a12, .int 0, .int 0, .int (-1), .ref a14, .ref a20, .ref a19, .int 0, .int 0, .int 0, .int 0, .int 0, .int 0, .int 0, .int 0, .int 0])), (a2, .inl (cs.1, 700, .inl (fun _ => 0))), (a3, .inr (0, [.ref a4, .ref a5, .int 0, .ref a6, .int 0, .ref a7, .int 0, .int 0, .int 0])), (a4, .inl (cs.1, 5, .inl (fun _ => 0))), (a5, .inl (cs.1, 5, .inl (fun _ => 0))), (a6, .inl (cs.1, 5, .inl (fun _ => 0))), (a7, .inr (3, [.ref a8, .ref a9, .ref a10, .ref a11, .int 0, .int 0])), (a8, .inl (cs.1, 64, .inl (fun _ => 0))), (a9, .inl (cs.1, 6, .inl (fun _ => 0))), (a10, .inl (cs.1, 6, .inl (fun _ => 0))), (a11, .inl (cs.2.1, 64, .inr (.inl (fun _ => 0)))), (a12, .inr (2, [.ref a13, .int 0])), (a13, .inl (cs.1, 120, .inl (fun _ => 0))), (a14, .inr (5, [.ref a15, .ref a16, .ref a17, .ref a18, .int 0])), (a15, .inl (cs.1, 8, .inl (fun _ => 0))), (a16, .inl (cs.1, 8, .inl (fun _ => 0))), (a17, .inl (cs.1, 8, .inl (fun _ => 0))), (a18, .inl (cs.1, 8, .inl (fun _ => 0))), (a19, .inl (cs.1, 72, .inl (fun _ => 0))), (a20, .inl (cs.1, 18, .inl (lgf 18))), (a21, .inr (0, [.ref a22, .ref a23, .int 0, .ref a24, .int 0, .ref a25, .int 0, .int 0, .int 0])), (a22, .inl (cs.1, 5, .inl (fun _ => 0))), (a23, .inl (cs.1, 5, .inl (fun _ => 0))), (a24, .inl (cs.1, 5, .inl (fun _ => 0))), (a25, .inr (3, [.ref a26, .ref a27, .ref a28, .ref a29, .int 0, .int 0])), (a26, .inl (cs.1, 64, .inl (fun _ => 0))), (a27, .inl (cs.1, 6, .inl (fun _ => 0))), (a28, .inl (cs.1, 6, .inl (fun _ => 0))), (a29, .inl (cs.2.1, 64, .inr (.inl (fun _ => 0)))), (a30, .inr (2, [.ref a31, .int 0])), (a31, .inl (cs.1, 120, .inl (fun _ => 0))), (a32, .inr (2, [.ref a33, .int 0])), (a33, .inl (cs.1, 120, .inl (fun _ => 0))), (a34, .inr (5, [.ref a35, .ref a36, .ref a37, .ref a38, .int 0])), (a35, .inl (cs.1, 8, .inl (fun _ => 0))), (a36, .inl (cs.1, 8, .inl (fun _ => 0))), (a37, .inl (cs.1, 8, .inl (fun _ => 0))), (a38, .inl (cs.1, 8, .inl (fun _ => 0))), (a39, .inr (8, [.ref a40, .ref a41, .ref a42])), (a40, .inl (cs.1, 8, .inl (fun _ => 0))), (a41, .inl (cs.2.1, 5, .inr (.inl (fun _ => 0)))), (a42, .inl (cs.1, 8, .inl (fun _ => 0))), (a43, .inr (4, [.ref a44, .ref a45, .ref a46, .ref a47, .ref a48, .int 0, .int (-1)])), (a44, .inl (cs.1, 24, .inl (fun _ => 0))), (a45, .inl (cs.1, 24, .inl (fun _ => 0))), (a46, .inl (cs.1, 24, .inl (fun _ => 0))), (a47, .inl (cs.1, 24, .inl (fun _ => 0))), (a48, .inl (cs.1, 24, .inl (fun _ => 0))), (a49, .inr (6, [.int 0, .ref a50, .int (-1), .ref a51, .int 0, .int 0])), (a50, .inl (cs.1, 4231, .inl (fun _ => 0))), (a51, .inl (cs.1, 4231, .inl (fun _ => 0))), (a52, .inr (1, [.ref a53, .ref a54, .ref a55, .ref a56, .ref a57, .ref a58, .int 0, .int 0, .int 0])), (a53, .inl (cs.1, 32, .inl (fun _ => 0))), (a54, .inl (cs.1, 480, .inl (fun _ => 0))), (a55, .inl (cs.1, 480, .inl (fun _ => 0))), (a56, .inl (cs.1, 480, .inl (fun _ => 0))), (a57, .inl (cs.2.2, 480, .inl (fun _ => 0))), (a58, .inl (cs.1, 8, .inl (fun _ => 0))), (r0, .inr (10, [.int 0, .ref r1, .int 0, .ref r2, .ref r3, .ref r4, .ref r5, .ref r6, .ref r7, .ref r8, .ref r9, .ref r10, .ref r11, .ref r12, .ref r13, .ref r14, .int 0, .int 0, .int 0, .int 0, .int 0, .int 0, .int 0, .int 0, .int 0, .int 0, .int (-1), .int 0, .int 0, .ref r15, .ref r16, .int 0, .int 0, .int 0, .int 0, .int 0, .ref r17, .ref r18, .ref r19, .int 0, .ref r20, .ref r21, .ref r22, .int 0, .int 0, .int 0, .int 0, .int (-1), .ref r23, .ref r24, .ref r25, .ref r26, .ref r27, .ref r28, .ref r29, .ref r30, .ref r31, .ref r32, .ref r33])), (r1, .inl (cs.1, 700, .inl (fun _ => 0))), (r2, .inl (cs.1, 10, .inl (fun _ => 0))), (r3, .inl (cs.1, 10, .inl (fun _ => 0))), (r4, .inl (cs.1, 10, .inl (fun _ => 0))), (r5, .inl (cs.1, 10, .inl (fun _ => 0))), (r6, .inl (cs.1, 12, .inl (fun _ => 0))), (r7, .inl (cs.1, 12, .inl (fun _ => 0))), (r8, .inl (cs.1, 128, .inl (fun _ => 0))), (r9, .inl (cs.1, 128, .inl (fun _ => 0))), (r10, .inl (cs.1, 72, .inl (fun _ => 0))), (r11, .inl (cs.1, 72, .inl (fun _ => 0))), (r12, .inl (cs.1, 72, .inl (fun _ => 0))), (r13, .inl (cs.1, 72, .inl (fun _ => 0))), (r14, .inl (cs.2.2, 72, .inl (fun _ => 0))), (r15, .inl (cs.2.2, 25, .inl (fun _ => 0))), (r16, .inl (cs.2.2, 25, .inl (fun _ => 0))), (r17, .inl (cs.1, 5, .inl (fun _ => 0))), (r18, .inl (cs.2.1, 8, .inr (.inl (fun _ => 0)))), (r19, .inl (cs.2.1, 64, .inr (.inl (fun _ => 0)))), (r20, .inl (cs.2.1, 5, .inr (.inl (fun _ => 0)))), (r21, .inl (cs.1, 5, .inl (fun _ => 0))), (r22, .inl (cs.1, 5, .inl (fun _ => 0))), (r23, .inl (cs.1, 24, .inl (fun _ => 0))), (r24, .inl (cs.1, 24, .inl (fun _ => 0))), (r25, .inl (cs.1, 24, .inl (fun _ => 0))), (r26, .inl (cs.1, 24, .inl (fun _ => 0))), (r27, .inl (cs.1, 24, .inl (fun _ => 0))), (r28, .inl (cs.2.2, 24, .inl (fun _ => 0))), (r29, .inl (cs.2.2, 100, .inl (fun _ => 0))), (r30, .inl (cs.1, 12500, .inl (fun _ => 0))), (r31, .inl (cs.1, 12500, .inl (fun _ => 0))), (r32, .inl (cs.1, 480, .inl (fun _ => 0))), (r33, .inl (cs.1, 5, .inl (fun _ => 0))), (z0, .inl (cs.2.1, 1, .inr (.inl (fun _ => 0))))] : va_W) = _ := wl_gen (adL [a0, a2, a1, a20, a19, a3, a4, a5, a6, a7, a8, a9, a10, a11, a12, a13, a14, a15, a16, a17, a18, a21, a22, a23, a24, a25, a26, a27, a28, a29, a30, a31, a32, a33, a34, a35, a36, a37, a38, a39, a40, a41, a42, a43, a44, a45, a46, a47, a48, a49, a50, a51, a52, a53, a54, a55, a56, a57, a58, r0, r1, r2, r3, r4, r5, r6, r7, r8, r9, r10, r11, r12, r13, r14, r15, r16, r17, r18, r19, r20, r21, r22, r23, r24, r25, r26, r27, r28, r29, r30, r31, r32, r33, z0, t94, t95, t96, b, k0, k1]) cs S
  rw [e, List.getElem?_map, gP_at k hk]
  rfl
