/-! ROWS: words that are left; how many bits -/
theorem fl_step (k r mask : Nat) : fl (k + 1) r mask = fl k r mask ++ (if mask.testBit (w8 r k) = true then [w8 r k] else []) := by
  unfold fl
  rw [List.range_succ, List.map_append, List.filter_append]
  congr 1
  simp only [List.map_cons, List.map_nil, List.filter_cons, List.filter_nil]
theorem fl_len (k r mask : Nat) : (fl k r mask).length ≤ k := by
  unfold fl
  have := List.length_filter_le (fun p => mask.testBit p) ((List.range k).map (w8 r))
  simpa using this
theorem fl_8 {k r mask x : Nat} (h : x ∈ fl k r mask) : x < 8 := by
  obtain ⟨h1, -⟩ := List.mem_filter.mp h
  obtain ⟨j, -, rfl⟩ := List.mem_map.mp h1
  exact w8_lt r j
theorem p8_mono {a b : Nat} (h : a ≤ b) : 8 ^ a ≤ 8 ^ b := Nat.pow_le_pow_right (by decide) h
theorem s_left {n r mask : Nat} {M : Mem} {P : Int → Mem → Prop} (hn : n < 6) (hr : r < 2147483648) (hm : mask < 2147483648) (h : P (encL (fl n r mask) : Int) M) : CI m8_left 2 [(0, (r : Int)), (0, (mask : Int)), (0, (n : Int))] M P := by
  apply q_8_left
  refine loop_up (Inv := fun k M1 => M1 = M) (G := fun k M1 => A m8_left 2 0 8 [(0, (r : Int)), (0, (mask : Int)), (0, (n : Int)), (0, (encL (fl k r mask) : Int)), (0, ((fl k r mask).length : Int)), (0, (k : Int)), (2, 0)] [] M1 (Ki P)) n ?_ ?_ 0 M (by omega) rfl
  · rintro M1 rfl
    apply r_8_left_8
    exact ⟨fun _ => h, fun q => by omega⟩
  · rintro k M1 hk rfl ih
    have hl := fl_len k r mask
    have he := encL_lt (l := fl k r mask) (fun x hx => fl_8 hx)
    have h8 := p8_mono (show (fl k r mask).length ≤ 5 by omega)
    have hw := w8_lt r k
    apply r_8_left_8
    refine ⟨fun q => by omega, fun _ => ?_⟩
    apply s_wordAt hr (by omega)
    have := ih M1 rfl
    rw [fl_step] at this
    rw [w_1 (by omega)]
    refine ⟨fun q => ?_, fun q => ?_⟩
    · have hf : ¬ mask.testBit (w8 r k) = true := fun z => q ((bit_1 hm (by omega)).mpr z)
      rw [if_neg hf, List.append_nil] at this
      exact this
    · have ht := (bit_1 hm (by omega)).mp q
      rw [if_pos ht, encL_app, List.length_append] at this
      have h3 : (w8 r k) * 2 ^ (3 * (fl k r mask).length) < 2147483648 := by
        rw [Nat.pow_mul]
        show w8 r k * 8 ^ (fl k r mask).length < _
        have : w8 r k * 8 ^ (fl k r mask).length ≤ 7 * 32768 := Nat.mul_le_mul (by omega) (by simpa using h8)
        omega
      rw [show w32 (3 * ((fl k r mask).length : Int)) = ((3 * (fl k r mask).length : Nat) : Int) by unfold w32; omega, ishl_n (by omega) h3, w_1 (by omega), ior_n (by omega) (by rw [Nat.shiftLeft_eq]; exact h3), Nat.or_comm, ← Nat.shiftLeft_add_eq_or_of_lt (by rw [Nat.pow_mul]; exact he), Nat.shiftLeft_eq, Nat.pow_mul]
      rw [show w8 r k * (2 ^ 3) ^ (fl k r mask).length + encL (fl k r mask) = encL (fl k r mask) + 8 ^ (fl k r mask).length * w8 r k by
        show w8 r k * 8 ^ (fl k r mask).length + _ = _
        rw [Nat.mul_comm, Nat.add_comm]]
      exact this
theorem s_stays {n row right mask : Nat} {M : Mem} {P : Int → Mem → Prop} (h1 : pm n row) (h2 : pm n right) (hm : mask < 2147483648) (hp : M 61 2 = (n : Int)) (h : P (bi (encL (fl n row mask) = encL (fl n right mask))) M) : CI m11_stays 3 [(20, ((59 : Nat) : Int)), (0, (mask : Int)), (0, (row : Int)), (0, (right : Int))] M P := by
  apply q_11_stays
  have hn := h1.2.2
  have e0 : bi (encL (fl n row mask) = encL (fl n right mask)) = bi (stl (spot n right) (fl n row mask) (-1) = true) := by
    by_cases z : encL (fl n row mask) = encL (fl n right mask)
    · rw [bi_t z, bi_t ((left_stays h1 h2).mp z)]
    · rw [bi_f z, bi_f (fun y => z ((left_stays h1 h2).mpr y))]
  rw [e0] at h
  have key : ∀ m k (last : Int), k + m = n → stl (spot n right) (((List.range' k m).map (w8 row)).filter (fun p => mask.testBit p)) last = stl (spot n right) (fl n row mask) (-1) → A m11_stays 3 0 6 [(20, ((59 : Nat) : Int)), (0, (mask : Int)), (0, (row : Int)), (0, (right : Int)), (0, last), (0, (k : Int)), (2, 0)] [] M (Ki P) := by
    intro m
    induction m with
    | zero =>
      intro k last hk e
      apply r_11_stays_6
      rw [hp]
      refine ⟨fun _ => ?_, fun q => by omega⟩
      rw [← e] at h
      rwa [bi_t (by rfl)] at h
    | succ m ih =>
      intro k last hk e
      apply r_11_stays_6
      rw [hp]
      refine ⟨fun q => by omega, fun _ => ?_⟩
      apply s_wordOf (pm_31 h1) (by omega)
      have hw := w8_lt row k
      rw [List.range'_succ, List.map_cons, List.filter_cons] at e
      refine ⟨fun q => ?_, fun q => ?_⟩
      · have ht : mask.testBit (w8 row k) = true := by
          cases z : mask.testBit (w8 row k) with
          | true => rfl
          | false => exact absurd ((bit_0 hm (by omega)).mpr z) q
        rw [if_pos ht] at e
        apply s_wordOf (pm_31 h1) (by omega)
        apply s_placeIn h2 (pm_lt h1 (by omega))
        rw [w_1 (by omega)]
        refine ⟨fun q2 => ih (k + 1) _ (by omega) ?_, fun q2 => ?_⟩
        · rw [← e]
          show _ = if _ then _ else _
          rw [if_neg (by omega)]
        · have e2 : stl (spot n right) (fl n row mask) (-1) = false := by
            rw [← e]
            show (if _ then _ else _) = _
            rw [if_pos (by omega)]
          rwa [bi_f (by rw [e2]; decide)] at h
      · have hf := (bit_0 hm (by omega)).mp q
        rw [if_neg (by rw [hf]; decide)] at e
        rw [w_1 (by omega)]
        exact ih (k + 1) last (by omega) e
  refine key n 0 (-1) (by omega) ?_
  unfold fl
  rw [List.range_eq_range']
theorem pcn_le (m : Nat) : pcn m ≤ 31 := cnt_le _ _
theorem s_bitsOf {m : Nat} {M : Mem} {P : Int → Mem → Prop} (hm : m < 2147483648) (h : P (pcn m : Int) M) : CI m11_bitsOf 1 [(0, (m : Int))] M P := by
  apply q_11_bitsOf
  refine loop_up (Inv := fun k M1 => M1 = M) (G := fun k M1 => A m11_bitsOf 1 0 4 [(0, (m : Int)), (0, (cnt (fun k => m.testBit k) k : Int)), (0, (k : Int))] [] M1 (Ki P)) 31 ?_ ?_ 0 M (by omega) rfl
  · rintro M1 rfl
    apply r_11_bitsOf_4
    exact ⟨fun _ => h, fun q => by omega⟩
  · rintro k M1 hk rfl ih
    apply r_11_bitsOf_4
    refine ⟨fun q => by omega, fun _ => ?_⟩
    have hc := cnt_le (fun k => m.testBit k) k
    rw [bit_ask hm (by omega), w_1 (by omega)]
    have e : w32 ((cnt (fun k => m.testBit k) k : Int) + ((m.testBit k).toNat : Int)) = (cnt (fun k => m.testBit k) (k + 1) : Int) := by
      have := Bool.toNat_le (m.testBit k)
      rw [show cnt (fun k => m.testBit k) (k + 1) = cnt (fun k => m.testBit k) k + (m.testBit k).toNat from rfl]
      unfold w32; omega
    rw [e]
    exact ih M1 rfl
/-- the most bits of a mask that will do, among the first masks -/
def mxb (f : Nat → Bool) : Nat → Nat
  | 0 => 0
  | m + 1 => if f m then (if mxb f m < pcn m then pcn m else mxb f m) else mxb f m
theorem mxb_le (f : Nat → Bool) : ∀ m, mxb f m ≤ 31
  | 0 => by simp [mxb]
  | m + 1 => by
    unfold mxb
    have := mxb_le f m
    have := pcn_le m
    split
    · split <;> assumption
    · assumption
theorem shl1 : ∀ n : Nat, n < 6 → ishl 1 (n : Int) = ((2 ^ n : Nat) : Int) ∧ 2 ^ n ≤ 32 := by decide +kernel
def fitB (n right row : Nat) : Nat → Bool := fun mask => decide (encL (fl n row mask) = encL (fl n right mask))
theorem s_moved {n right row : Nat} {M : Mem} {P : Int → Mem → Prop} (h1 : pm n right) (h2 : pm n row) (h : P (w32 ((n : Int) - (mxb (fitB n right row) (2 ^ n) : Int))) M) : CI m8_moved 3 [(0, (right : Int)), (0, (row : Int)), (0, (n : Int))] M P := by
  apply q_8_moved
  have hn := h1.2.2
  obtain ⟨e1, e2⟩ := shl1 n hn
  refine loop_up (Inv := fun k M1 => M1 = M) (G := fun k M1 => A m8_moved 3 0 5 [(0, (right : Int)), (0, (row : Int)), (0, (n : Int)), (0, (mxb (fitB n right row) k : Int)), (0, (k : Int))] [] M1 (Ki P)) (2 ^ n) ?_ ?_ 0 M (Nat.zero_le _) rfl
  · rintro M1 rfl
    apply r_8_moved_5
    rw [e1]
    exact ⟨fun _ => h, fun q => by omega⟩
  · rintro k M1 hk rfl ih
    have := ih M1 rfl
    apply r_8_moved_5
    rw [e1]
    refine ⟨fun q => by omega, fun _ => ?_⟩
    apply s_left hn (pm_31 h2) (by omega)
    apply s_left hn (pm_31 h1) (by omega)
    rw [w_1 (by omega)]
    unfold mxb at this
    refine ⟨fun q => ?_, fun q => ?_⟩
    · rw [if_neg (by unfold fitB; simp only [decide_eq_true_eq]; omega)] at this
      exact this
    · rw [if_pos (by unfold fitB; simp only [decide_eq_true_eq]; omega)] at this
      apply s_bitCount (by omega)
      have e3 : (if (mxb (fitB n right row) k : Int) < (pcn k : Int) then (pcn k : Int) else (mxb (fitB n right row) k : Int)) = ((if mxb (fitB n right row) k < pcn k then pcn k else mxb (fitB n right row) k : Nat) : Int) := by
        by_cases z : mxb (fitB n right row) k < pcn k
        · rw [if_pos z, if_pos (by omega)]
        · rw [if_neg z, if_neg (by omega)]
      rw [e3]
      exact this
