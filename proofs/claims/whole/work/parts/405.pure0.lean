/-! the pure side of Planes.put and becomeBox -/
def g_putA (b : Nat) (h k l o j : Int32) (A : Nat → Nat → Int32) : Nat → Nat → Int32 :=
  let n := Int32.toNatClampNeg j
  let A1 := va_up A (b + 1) (upd (A (b + 1)) n h)
  let A2 := va_up A1 (b + 2) (upd (A1 (b + 2)) n k)
  let A3 := va_up A2 (b + 3) (upd (A2 (b + 3)) n l)
  va_up A3 (b + 4) (upd (A3 (b + 4)) n o)
theorem put_at {b : Nat} {h k l o j : Int32} {I : Nat → Int32} {A : Nat → Nat → Int32} {L : Nat → Int64} (hj : I (16 * b + 4) = j) (h1 : ¬ 32 ≤ j) (h2 : 0 ≤ j ∧ j.toNatClampNeg < 32) : f_X2_put b h k l o I A L = some (va_up I (16 * b + 4) (j + 1), g_putA b h k l o j A, L) := by
  unfold f_X2_put
  rw [hj, if_neg h1]
  simp only [g_ck, if_pos h2, g_lt]
  rfl
def g_boxA (b : Nat) (A : Nat → Nat → Int32) : Nat → Nat → Int32 := g_putA b 0 0 (-1) 20 5 (g_putA b 0 0 1 20 4 (g_putA b 0 (-1) 0 20 3 (g_putA b 0 1 0 20 2 (g_putA b (-1) 0 0 20 1 (g_putA b 1 0 0 20 0 A)))))
def g_boxI (b : Nat) (I : Nat → Int32) : Nat → Int32 := va_up (va_up (va_up (va_up (va_up (va_up (va_up I (16 * b + 4) 0) (16 * b + 4) 1) (16 * b + 4) 2) (16 * b + 4) 3) (16 * b + 4) 4) (16 * b + 4) 5) (16 * b + 4) 6
theorem becomeBox_eq (b : Nat) (I : Nat → Int32) (A : Nat → Nat → Int32) (L : Nat → Int64) : f_X2_becomeBox b I A L = some (g_boxI b I, g_boxA b A, L) := by
  unfold f_X2_becomeBox
  simp only [g_lt]
  rw [put_at (j := 0) (va_up_same _ _ _) (by decide) (by decide)]
  simp only [g_b1, Option.bind]
  rw [put_at (j := 1) (by rw [va_up_same]; decide) (by decide) (by decide)]
  simp only [Option.bind]
  rw [put_at (j := 2) (by rw [va_up_same]; decide) (by decide) (by decide)]
  simp only [Option.bind]
  rw [put_at (j := 3) (by rw [va_up_same]; decide) (by decide) (by decide)]
  simp only [Option.bind]
  rw [put_at (j := 4) (by rw [va_up_same]; decide) (by decide) (by decide)]
  simp only [Option.bind]
  rw [put_at (j := 5) (by rw [va_up_same]; decide) (by decide) (by decide)]
  simp only [Option.bind]
  rfl
