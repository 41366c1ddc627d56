/-! NUMBERS, with bounds -/
def bI (x : Int32) (v : Int) (B : Nat) : Prop := x.toInt = v ∧ v.natAbs ≤ B
theorem b_mul {x y : Int32} {v w : Int} {B C : Nat} (h : bI x v B) (k : bI y w C) (hb : B * C < 2147483648) : bI (x * y) (v * w) (B * C) := by
  have h1 : (v * w).natAbs ≤ B * C := by rw [Int.natAbs_mul]; exact Nat.mul_le_mul h.2 k.2
  refine ⟨?_, h1⟩
  generalize B * C = D at h1 hb
  rw [i_mul, h.1, k.1]
  · rw [h.1, k.1]; omega
  · rw [h.1, k.1]; omega
theorem b_add {x y : Int32} {v w : Int} {B C : Nat} (h : bI x v B) (k : bI y w C) (hb : B + C < 2147483648) : bI (x + y) (v + w) (B + C) := by
  have h1 := h.2
  have h2 := k.2
  refine ⟨?_, by omega⟩
  rw [i_add, h.1, k.1]
  · rw [h.1, k.1]; omega
  · rw [h.1, k.1]; omega
theorem b_sub {x y : Int32} {v w : Int} {B C : Nat} (h : bI x v B) (k : bI y w C) (hb : B + C < 2147483648) : bI (x - y) (v - w) (B + C) := by
  have h1 := h.2
  have h2 := k.2
  refine ⟨?_, by omega⟩
  rw [i_sub, h.1, k.1]
  · rw [h.1, k.1]; omega
  · rw [h.1, k.1]; omega
theorem b_neg {x : Int32} {v : Int} {B : Nat} (h : bI x v B) (hb : B < 2147483648) : bI (-x) (-v) B := by
  have h1 := h.2
  refine ⟨?_, by omega⟩
  rw [i_neg, h.1]
  rw [h.1]; omega
theorem b_w {x : Int32} {v : Int} {B C : Nat} (h : bI x v B) (hc : B ≤ C) : bI x v C := ⟨h.1, Nat.le_trans h.2 hc⟩
theorem b_n {n : Nat} (h : n < 2147483648) : bI (Int32.ofNat n) (n : Int) n := ⟨i_nat h, by omega⟩
theorem b_0 : bI 0 0 0 := ⟨by decide, by decide⟩
theorem b_1 : bI 1 1 1 := ⟨by decide, by decide⟩
theorem b_m1 : bI (-1) (-1) 1 := ⟨by decide, by decide⟩
theorem b_of (x : Int32) {B : Nat} (h1 : -(B : Int) ≤ x.toInt) (h2 : x.toInt ≤ (B : Int)) : bI x x.toInt B := ⟨rfl, by omega⟩
theorem b_eq {x y : Int32} {v w : Int} {B C : Nat} (h : bI x v B) (k : bI y w C) : x = y ↔ v = w := by rw [i_eq, h.1, k.1]
theorem b_le {x y : Int32} {v w : Int} {B C : Nat} (h : bI x v B) (k : bI y w C) : x ≤ y ↔ v ≤ w := by rw [i_le, h.1, k.1]
theorem b_lt {x y : Int32} {v w : Int} {B C : Nat} (h : bI x v B) (k : bI y w C) : x < y ↔ v < w := by rw [i_lt, h.1, k.1]
theorem b_c {x : Int32} {v w : Int} {B : Nat} (h : bI x v B) (e : v = w) : bI x w B := by rw [← e]; exact h
theorem b_div {x y : Int32} {v w : Int} {B C : Nat} (h : bI x v B) (k : bI y w C) (hb : B < 2147483648) : bI (x / y) (v.tdiv w) B := by
  have h1 : (v.tdiv w).natAbs ≤ B := by
    rw [Int.natAbs_tdiv]
    exact Nat.le_trans (Nat.div_le_self _ _) h.2
  refine ⟨?_, h1⟩
  rw [Int32.toInt_div, h.1, k.1]
  exact Int.bmod_eq_of_le (by omega) (by omega)
theorem o_z : Int32.ofNat 0 = 0 := rfl
/-- what is left over -/
theorem o_rem {m n : Nat} (hm : m < 2147483648) (hn : n < 2147483648) : Int32.ofNat m - Int32.ofNat m / Int32.ofNat n * Int32.ofNat n = Int32.ofNat (m % n) := by
  have h1 := b_n hm
  have h2 := b_n hn
  have h3 := b_div h1 h2 hm
  have e : ((m : Int).tdiv (n : Int)) = ((m / n : Nat) : Int) := rfl
  have hdm := Nat.div_add_mod m n
  have hle : m / n * n ≤ m := Nat.div_mul_le_self m n
  have h4 : bI (Int32.ofNat m / Int32.ofNat n * Int32.ofNat n) ((m / n * n : Nat) : Int) m := by
    refine ⟨?_, by omega⟩
    rw [i_mul, h3.1, h2.1, e]
    · rw [Int.natCast_mul]
    · rw [h3.1, h2.1, e, ← Int.natCast_mul]; omega
    · rw [h3.1, h2.1, e, ← Int.natCast_mul]; omega
  rw [i_eq, i_nat (by have := Nat.mod_le m n; omega)]
  have h5 : (Int32.ofNat m - Int32.ofNat m / Int32.ofNat n * Int32.ofNat n).toInt = (m : Int) - ((m / n * n : Nat) : Int) := by
    rw [i_sub, h1.1, h4.1]
    · rw [h1.1, h4.1]; omega
    · rw [h1.1, h4.1]; omega
  rw [h5]
  have : n * (m / n) = m / n * n := Nat.mul_comm _ _
  omega
theorem o_ne0 {n : Nat} (hn : n < 2147483648) (h : n ≠ 0) : ¬ Int32.ofNat n = 0 := by
  intro q
  have := (b_eq (b_n hn) b_0).mp q
  omega
theorem o_dv {τ : Type} {n : Nat} {F : Option τ} (hn : n < 2147483648) (h : n ≠ 0) : g_dv (Int32.ofNat n) F = F := by
  unfold g_dv
  rw [if_neg (o_ne0 hn h)]
theorem b_dv {τ : Type} {x : Int32} {v : Int} {B : Nat} {F : Option τ} (h : bI x v B) (hv : v ≠ 0) : g_dv x F = F := by
  unfold g_dv
  rw [if_neg (fun q => hv ((b_eq h b_0).mp q))]
theorem half_r {b r : Nat} (h : 0 < r) (hb : r < b) : 2 * (b % r) < b := by
  have h1 := Nat.mod_lt b h
  have h2 := Nat.div_add_mod b r
  have h3 : 1 ≤ b / r := (Nat.one_le_div_iff h).mpr (by omega)
  have h4 : r * 1 ≤ r * (b / r) := Nat.mul_le_mul_left r h3
  omega
/-- Euclid, the reference's -/
theorem m_gcd_l (I : Nat → Int32) (A : Nat → Nat → Int32) (L : Nat → Int64) : ∀ (k a b n : Nat), k ≤ 31 → a < 2147483648 → b < 2 ^ k → 2 * k < n → f_X7_common_p22 I A L n (Int32.ofNat a) (Int32.ofNat b) = some (Int32.ofNat (Nat.gcd a b)) := by
  intro k
  induction k with
  | zero =>
    intro a b n _ ha hb hn
    have : b = 0 := by omega
    subst this
    obtain ⟨m, rfl⟩ : ∃ m, n = m + 1 := ⟨n - 1, by omega⟩
    rw [f_X7_common_p22_e, if_pos o_z, Nat.gcd_zero_right]
  | succ k ih =>
    intro a b n hk ha hb hn
    have h31 : (2 : Nat) ^ (k + 1) ≤ 2 ^ 31 := Nat.pow_le_pow_right (by omega) hk
    have hb31 : b < 2147483648 := by omega
    obtain ⟨m, rfl⟩ : ∃ m, n = m + 1 := ⟨n - 1, by omega⟩
    by_cases b0 : b = 0
    · subst b0
      rw [f_X7_common_p22_e, if_pos o_z, Nat.gcd_zero_right]
    · have hr := Nat.mod_lt a (Nat.pos_of_ne_zero b0)
      rw [f_X7_common_p22_e, if_neg (o_ne0 hb31 b0), o_dv hb31 b0, g_lt_eq, o_rem ha hb31]
      have e1 : Nat.gcd a b = Nat.gcd b (a % b) := by rw [Nat.gcd_comm a b, Nat.gcd_rec b a, Nat.gcd_comm]
      obtain ⟨m, rfl⟩ : ∃ m', m = m' + 1 := ⟨m - 1, by omega⟩
      by_cases r0 : a % b = 0
      · rw [e1, r0, f_X7_common_p22_e, if_pos o_z, Nat.gcd_zero_right]
      · rw [f_X7_common_p22_e, if_neg (o_ne0 (by omega) r0), o_dv (by omega) r0, g_lt_eq, o_rem hb31 (by omega)]
        have e2 : Nat.gcd b (a % b) = Nat.gcd (a % b) (b % (a % b)) := by rw [Nat.gcd_comm b, Nat.gcd_rec (a % b) b, Nat.gcd_comm]
        have h2 := half_r (Nat.pos_of_ne_zero r0) hr
        rw [e1, e2]
        exact ih (a % b) (b % (a % b)) m (by omega) (by omega) (by rw [Nat.pow_succ] at hb; omega) (by omega)
/-- Euclid, the class's -/
theorem x_gcd_l (I : Nat → Int32) (A : Nat → Nat → Int32) (L : Nat → Int64) : ∀ (k a b n s : Nat), k ≤ 31 → a < 2147483648 → b < 2 ^ k → 2 * k < n → 2 * k + s < 64 → f_X6_commonDivisor_p13 I A L n (Int32.ofNat a) (Int32.ofNat b) (Int32.ofNat s) = some (Int32.ofNat (Nat.gcd a b)) := by
  have s64 : ∀ s, s < 64 → ¬ (64 : Int32) ≤ Int32.ofNat s := fun s hs => o_nle (a := 64) (by omega) (by omega) hs
  intro k
  induction k with
  | zero =>
    intro a b n s _ ha hb hn hs
    have : b = 0 := by omega
    subst this
    obtain ⟨m, rfl⟩ : ∃ m, n = m + 1 := ⟨n - 1, by omega⟩
    rw [f_X6_commonDivisor_p13_e, if_neg (s64 s (by omega)), if_pos o_z, Nat.gcd_zero_right]
  | succ k ih =>
    intro a b n s hk ha hb hn hs
    have h31 : (2 : Nat) ^ (k + 1) ≤ 2 ^ 31 := Nat.pow_le_pow_right (by omega) hk
    have hb31 : b < 2147483648 := by omega
    obtain ⟨m, rfl⟩ : ∃ m, n = m + 1 := ⟨n - 1, by omega⟩
    by_cases b0 : b = 0
    · subst b0
      rw [f_X6_commonDivisor_p13_e, if_neg (s64 s (by omega)), if_pos o_z, Nat.gcd_zero_right]
    · have hr := Nat.mod_lt a (Nat.pos_of_ne_zero b0)
      rw [f_X6_commonDivisor_p13_e, if_neg (s64 s (by omega)), if_neg (o_ne0 hb31 b0), o_dv hb31 b0, g_lt_eq, o_rem ha hb31, i_1]
      have e1 : Nat.gcd a b = Nat.gcd b (a % b) := by rw [Nat.gcd_comm a b, Nat.gcd_rec b a, Nat.gcd_comm]
      obtain ⟨m, rfl⟩ : ∃ m', m = m' + 1 := ⟨m - 1, by omega⟩
      by_cases r0 : a % b = 0
      · rw [e1, r0, f_X6_commonDivisor_p13_e, if_neg (s64 _ (by omega)), if_pos o_z, Nat.gcd_zero_right]
      · rw [f_X6_commonDivisor_p13_e, if_neg (s64 _ (by omega)), if_neg (o_ne0 (by omega) r0), o_dv (by omega) r0, g_lt_eq, o_rem hb31 (by omega), i_1]
        have e2 : Nat.gcd b (a % b) = Nat.gcd (a % b) (b % (a % b)) := by rw [Nat.gcd_comm b, Nat.gcd_rec (a % b) b, Nat.gcd_comm]
        have h2 := half_r (Nat.pos_of_ne_zero r0) hr
        rw [e1, e2]
        exact ih (a % b) (b % (a % b)) m (s + 1 + 1) (by omega) (by omega) (by rw [Nat.pow_succ] at hb; omega) (by omega) (by omega)
theorem b_abs {x : Int32} {v : Int} {B : Nat} (h : bI x v B) (hb : B < 2147483648) : (0 ≤ x → x = Int32.ofNat v.natAbs) ∧ (¬ 0 ≤ x → -x = Int32.ofNat v.natAbs ∧ 0 - x = Int32.ofNat v.natAbs) := by
  have h2 := h.2
  have z := b_le b_0 h
  have n := b_n (n := v.natAbs) (by omega)
  constructor
  · intro p
    have := z.mp p
    rw [i_eq, h.1, n.1]; omega
  · intro p
    have p' : ¬ 0 ≤ v := fun q => p (z.mpr q)
    refine ⟨?_, ?_⟩
    · rw [i_eq, (b_neg h hb).1, n.1]; omega
    · rw [i_eq, (b_sub b_0 h (by omega)).1, n.1]; omega
theorem m_gcd (I : Nat → Int32) (A : Nat → Nat → Int32) (L : Nat → Int64) {x y : Int32} {v w : Int} {B C : Nat} (h : bI x v B) (k : bI y w C) (hB : B < 2147483648) (hC : C < 2147483648) : f_X7_common I A L x y = some (Int32.ofNat (Nat.gcd v.natAbs w.natAbs)) := by
  have h2 := h.2
  have k2 := k.2
  have key := m_gcd_l I A L 31 v.natAbs w.natAbs 4096 (by omega) (by omega) (by omega) (by omega)
  have ax := b_abs h hB
  have ay := b_abs k hC
  have key2 : ∀ s, s = Int32.ofNat v.natAbs → f_X7_common_p10 I A L y s = some (Int32.ofNat (Nat.gcd v.natAbs w.natAbs)) := fun s e => by
    unfold f_X7_common_p10
    by_cases p : 0 ≤ y
    · rw [if_pos p, e, ay.1 p]; exact key
    · rw [if_neg p, e, (ay.2 p).1]; exact key
  unfold f_X7_common
  by_cases p : 0 ≤ x
  · rw [if_pos p]; exact key2 x (ax.1 p)
  · rw [if_neg p]; exact key2 (-x) (ax.2 p).1
theorem x_gcd (I : Nat → Int32) (A : Nat → Nat → Int32) (L : Nat → Int64) {x y : Int32} {v w : Int} {B C : Nat} (h : bI x v B) (k : bI y w C) (hB : B < 2147483648) (hC : C < 2147483648) : f_X6_commonDivisor I A L x y = some (Int32.ofNat (Nat.gcd v.natAbs w.natAbs)) := by
  have h2 := h.2
  have k2 := k.2
  have key := x_gcd_l I A L 31 v.natAbs w.natAbs 4096 0 (by omega) (by omega) (by omega) (by omega) (by omega)
  have ax := b_abs h hB
  have ay := b_abs k hC
  have e1 : (if 0 ≤ x then x else 0 - x) = Int32.ofNat v.natAbs := by
    by_cases p : 0 ≤ x
    · rw [if_pos p]; exact ax.1 p
    · rw [if_neg p]; exact (ax.2 p).2
  have e2 : (if 0 ≤ y then y else 0 - y) = Int32.ofNat w.natAbs := by
    by_cases p : 0 ≤ y
    · rw [if_pos p]; exact ay.1 p
    · rw [if_neg p]; exact (ay.2 p).2
  unfold f_X6_commonDivisor
  rw [g_lt_eq, g_lt_eq, e1, e2]
  exact key
theorem gcd_bd {a b B C : Nat} (ha : a ≤ B) (hb : b ≤ C) : Nat.gcd a b ≤ B + C := by
  rcases Nat.eq_zero_or_pos a with z | z
  · rw [z, Nat.gcd_zero_left]; omega
  · have := Nat.gcd_le_left b z; omega
/-- the common divisor of four -/
theorem g4_x (I : Nat → Int32) (A : Nat → Nat → Int32) (L : Nat → Int64) {x y z d : Int32} {v : Q4} {B : Nat} (h1 : bI x v.1 B) (h2 : bI y v.2.1 B) (h3 : bI z v.2.2.1 B) (h4 : bI d v.2.2.2 B) (hB : B < 500000000) {τ : Type} (F : Int32 → Option τ) : Option.bind (f_X6_commonDivisor I A L x y) (fun v6 => Option.bind (f_X6_commonDivisor I A L z d) (fun v8 => Option.bind (f_X6_commonDivisor I A L v6 v8) F)) = F (Int32.ofNat (g4 v)) := by
  have a := gcd_bd h1.2 h2.2
  have b := gcd_bd h3.2 h4.2
  rw [x_gcd I A L h1 h2 (by omega) (by omega), bd_some, x_gcd I A L h3 h4 (by omega) (by omega), bd_some, x_gcd I A L (b_n (by omega)) (b_n (by omega)) (by omega) (by omega), bd_some]
  rfl
theorem g4_m (I : Nat → Int32) (A : Nat → Nat → Int32) (L : Nat → Int64) {x y z d : Int32} {v : Q4} {B : Nat} (h1 : bI x v.1 B) (h2 : bI y v.2.1 B) (h3 : bI z v.2.2.1 B) (h4 : bI d v.2.2.2 B) (hB : B < 500000000) {τ : Type} (F : Int32 → Option τ) : Option.bind (f_X7_common I A L x y) (fun v6 => Option.bind (f_X7_common I A L z d) (fun v8 => Option.bind (f_X7_common I A L v6 v8) F)) = F (Int32.ofNat (g4 v)) := by
  have a := gcd_bd h1.2 h2.2
  have b := gcd_bd h3.2 h4.2
  rw [m_gcd I A L h1 h2 (by omega) (by omega), bd_some, m_gcd I A L h3 h4 (by omega) (by omega), bd_some, m_gcd I A L (b_n (by omega)) (b_n (by omega)) (by omega) (by omega), bd_some]
  rfl
theorem g4_bd {v : Q4} {B : Nat} (h1 : v.1.natAbs ≤ B) (h2 : v.2.1.natAbs ≤ B) (h3 : v.2.2.1.natAbs ≤ B) (h4 : v.2.2.2.natAbs ≤ B) : g4 v ≤ 4 * B := by
  have a := gcd_bd h1 h2
  have b := gcd_bd h3 h4
  have c := gcd_bd a b
  unfold g4
  omega
/-- in lowest terms -/
theorem low4 {v : Q4} (hd : 0 < v.2.2.2) : ∃ w : Q4, 0 < g4 v ∧ v = scl (g4 v : Int) w ∧ rdc w := by
  obtain ⟨k, w, h1, h2, h3⟩ := low hd
  have e : g4 v = k := by
    have h4 : g4 w = 1 := h3.2
    rw [h2, g4_scl, h4, Nat.mul_one]
  exact ⟨w, by omega, by rw [e]; exact h2, h3⟩
/-- divided by the common divisor -/
theorem b_quo {x : Int32} {g : Nat} {w : Int} {B : Nat} (h : bI x ((g : Int) * w) B) (hg : 0 < g) (hg2 : g < 2147483648) (hB : B < 2147483648) : bI (x / Int32.ofNat g) w B := by
  have k := b_div h (b_n hg2) hB
  rw [Int.mul_tdiv_cancel_left w (by omega)] at k
  exact k
