/-! ROWS of words, as numbers: what both sides ask of them -/
def w8 (r k : Nat) : Nat := (r >>> (3 * k)) &&& 7
def pmB (n r : Nat) : Bool := (List.range n).all fun k => decide (w8 r k < n) && (List.range k).all fun j => !(w8 r j == w8 r k)
def met (r : Nat) : Nat → Nat
  | 0 => 0
  | k + 1 => met r k ||| (1 <<< w8 r k)
def spt (r p : Nat) : Nat → Nat → Nat
  | 0, k => k
  | m + 1, k => if w8 r k = p then k else spt r p m (k + 1)
/-- where a part stands (n: nowhere) -/
def spot (n r p : Nat) : Nat := spt r p n 0
def sm (f : Nat → Nat) : Nat → Nat
  | 0 => 0
  | n + 1 => sm f n + f n
def tcl (n right row : Nat) : Nat := sm (fun s => cnt (fun a => decide (spot n right (w8 row s) < spot n right (w8 row a))) s) n
def trn (n row right : Nat) : Nat := sm (fun a => cnt (fun b => decide (spot n row a < spot n row b) != decide (spot n right a < spot n right b)) a) n
def all8 (f : Nat → Bool) : Nat → Nat → Bool
  | 0, a => f a
  | d + 1, a => all8 f d (8 * a) && (all8 f d (8 * a + 1) && (all8 f d (8 * a + 2) && (all8 f d (8 * a + 3) && (all8 f d (8 * a + 4) && (all8 f d (8 * a + 5) && (all8 f d (8 * a + 6) && all8 f d (8 * a + 7)))))))
theorem all8_spec {f : Nat → Bool} : ∀ (d a : Nat), all8 f d a = true → ∀ r, r < 8 ^ d → f (8 ^ d * a + r) = true
  | 0, a, h, r, hr => by
    have : r = 0 := by simpa using hr
    subst this; simpa [all8] using h
  | d + 1, a, h, r, hr => by
    unfold all8 at h
    simp only [Bool.and_eq_true] at h
    have key : ∀ t, t < 8 → all8 f d (8 * a + t) = true := by
      intro t ht
      rcases (show t = 0 ∨ t = 1 ∨ t = 2 ∨ t = 3 ∨ t = 4 ∨ t = 5 ∨ t = 6 ∨ t = 7 by omega) with rfl | rfl | rfl | rfl | rfl | rfl | rfl | rfl
      · exact h.1
      · exact h.2.1
      · exact h.2.2.1
      · exact h.2.2.2.1
      · exact h.2.2.2.2.1
      · exact h.2.2.2.2.2.1
      · exact h.2.2.2.2.2.2.1
      · exact h.2.2.2.2.2.2.2
    have hp : 0 < 8 ^ d := Nat.pow_pos (by decide)
    have hq : r / 8 ^ d < 8 := by
      rw [Nat.div_lt_iff_lt_mul hp]
      rw [Nat.pow_succ, Nat.mul_comm] at hr
      exact hr
    have := all8_spec d _ (key _ hq) (r % 8 ^ d) (Nat.mod_lt _ hp)
    rw [show 8 ^ (d + 1) * a + r = 8 ^ d * (8 * a + r / 8 ^ d) + r % 8 ^ d by
      have e := Nat.div_add_mod r (8 ^ d)
      rw [Nat.mul_add, Nat.add_assoc, e, Nat.pow_succ, Nat.mul_assoc]]
    exact this
def pl0 : List Nat := [0]
def pl1 : List Nat := [0]
def pl2 : List Nat := [8, 1]
def pl3 : List Nat := [136, 80, 129, 17, 66, 10]
def pl4 : List Nat := [1672, 1224, 1616, 720, 1112, 664, 1665, 1217, 1553, 209, 1049, 153, 1602, 706, 1546, 202, 538, 90, 1091, 643, 1035, 139, 531, 83]
def pl5 : List Nat := [18056, 14472, 17608, 10440, 13576, 9992, 18000, 14416, 17104, 6352, 13072, 5904, 17496, 10328, 17048, 6296, 8984, 5400, 13408, 9824, 12960, 5792, 8928, 5344, 18049, 14465, 17601, 10433, 13569, 9985, 17937, 14353, 16593, 2257, 12561, 1809, 17433, 10265, 16537, 2201, 8473, 1305, 13345, 9761, 12449, 1697, 8417, 1249, 17986, 14402, 17090, 6338, 13058, 5890, 17930, 14346, 16586, 2250, 12554, 1802, 16922, 6170, 16474, 2138, 4378, 794, 12834, 5666, 12386, 1634, 4322, 738, 17475, 10307, 17027, 6275, 8963, 5379, 17419, 10251, 16523, 2187, 8459, 1291, 16915, 6163, 16467, 2131, 4371, 787, 8739, 5155, 8291, 1123, 4259, 675, 13380, 9796, 12932, 5764, 8900, 5316, 13324, 9740, 12428, 1676, 8396, 1228, 12820, 5652, 12372, 1620, 4308, 724, 8732, 5148, 8284, 1116, 4252, 668]
/-- all rows of so many parts, by the first word, then by the second .. -/
def PL (n : Nat) : List Nat := match n with | 0 => pl0 | 1 => pl1 | 2 => pl2 | 3 => pl3 | 4 => pl4 | _ => pl5
theorem chk0 : all8 (fun r => (met r 0 == (1 <<< 0) - 1) == pmB 0 r && (!pmB 0 r || pl0.contains r)) 0 0 = true := by decide +kernel
theorem chp0 : pl0.all (fun r => pmB 0 r && decide (r < 8 ^ 0)) = true := by decide +kernel
theorem chk1 : all8 (fun r => (met r 1 == (1 <<< 1) - 1) == pmB 1 r && (!pmB 1 r || pl1.contains r)) 1 0 = true := by decide +kernel
theorem chp1 : pl1.all (fun r => pmB 1 r && decide (r < 8 ^ 1)) = true := by decide +kernel
theorem chk2 : all8 (fun r => (met r 2 == (1 <<< 2) - 1) == pmB 2 r && (!pmB 2 r || pl2.contains r)) 2 0 = true := by decide +kernel
theorem chp2 : pl2.all (fun r => pmB 2 r && decide (r < 8 ^ 2)) = true := by decide +kernel
theorem chk3 : all8 (fun r => (met r 3 == (1 <<< 3) - 1) == pmB 3 r && (!pmB 3 r || pl3.contains r)) 3 0 = true := by decide +kernel
theorem chp3 : pl3.all (fun r => pmB 3 r && decide (r < 8 ^ 3)) = true := by decide +kernel
theorem chk4 : all8 (fun r => (met r 4 == (1 <<< 4) - 1) == pmB 4 r && (!pmB 4 r || pl4.contains r)) 4 0 = true := by decide +kernel
theorem chp4 : pl4.all (fun r => pmB 4 r && decide (r < 8 ^ 4)) = true := by decide +kernel
theorem chk5 : all8 (fun r => (met r 5 == (1 <<< 5) - 1) == pmB 5 r && (!pmB 5 r || pl5.contains r)) 5 0 = true := by decide +kernel
theorem chp5 : pl5.all (fun r => pmB 5 r && decide (r < 8 ^ 5)) = true := by decide +kernel
