/-! BITS -/
def bt (x : Int32) (q : Nat) : Bool := x.toBitVec.getLsbD q
theorem bt_or (x y : Int32) (q : Nat) : bt (x ||| y) q = (bt x q || bt y q) := by
  unfold bt
  rw [Int32.toBitVec_or, BitVec.getLsbD_or]
theorem bt_and (x y : Int32) (q : Nat) : bt (x &&& y) q = (bt x q && bt y q) := by
  unfold bt
  rw [Int32.toBitVec_and, BitVec.getLsbD_and]
theorem bt_one : ∀ p, p < 32 → ∀ q, q < 32 → bt (1 <<< (Int32.ofNat p &&& 31)) q = decide (q = p) := by decide +kernel
theorem bt_zero (q : Nat) : bt 0 q = false := by
  show (0#32).getLsbD q = false
  simp
theorem bt_lit1 : ∀ q, q < 32 → bt 1 q = decide (q = 0) := by decide +kernel
theorem and1 (y : Int32) : y &&& 1 = 1 ↔ bt y 0 = true := by
  constructor
  · intro h
    have := congrArg (fun z => bt z 0) h
    simp only [bt_and, bt_lit1 0 (by omega)] at this
    simpa using this
  · intro h
    rw [← Int32.toBitVec_inj]
    apply BitVec.eq_of_getLsbD_eq
    intro i hi
    show bt (y &&& 1) i = bt 1 i
    rw [bt_and, bt_lit1 i hi]
    by_cases e : i = 0
    · subst e; simp [h]
    · simp [e]
theorem sar_n : ∀ p, p < 32 → ((Int32.ofNat p &&& 31).toBitVec.smod 32).toNat = p := by decide +kernel
theorem shr_n : ∀ p, p < 32 → (((Int32.ofNat p).toUInt32 &&& Int32.toUInt32 31).toBitVec % 32).toNat = p := by decide +kernel
theorem sar_bt (x : Int32) {p : Nat} (hp : p < 32) : bt (x >>> (Int32.ofNat p &&& 31)) 0 = bt x p := by
  show (BitVec.sshiftRight' x.toBitVec ((Int32.ofNat p &&& 31).toBitVec.smod 32)).getLsbD 0 = _
  rw [BitVec.getLsbD_sshiftRight', sar_n p hp]
  simp [hp, bt]
theorem shr_bt (x : Int32) {p : Nat} (hp : p < 32) : bt ((x.toUInt32 >>> ((Int32.ofNat p).toUInt32 &&& Int32.toUInt32 31)).toInt32) 0 = bt x p := by
  show (x.toBitVec >>> ((((Int32.ofNat p).toUInt32 &&& Int32.toUInt32 31).toBitVec % 32).toNat)).getLsbD 0 = _
  rw [shr_n p hp, BitVec.getLsbD_ushiftRight]; rfl
/-- a bit looked at, as the reference does -/
theorem sar_1 (x : Int32) {p : Nat} (hp : p < 32) : (x >>> (Int32.ofNat p &&& 31)) &&& 1 = 1 ↔ bt x p = true := by rw [and1, sar_bt x hp]
/-- as the class does -/
theorem shr_1 (x : Int32) {p : Nat} (hp : p < 32) : (x.toUInt32 >>> ((Int32.ofNat p).toUInt32 &&& Int32.toUInt32 31)).toInt32 &&& 1 = 1 ↔ bt x p = true := by rw [and1, shr_bt x hp]
/-! bits put one after the other -/
def mk (f : Nat → Bool) (n : Nat) : Int32 := (List.range n).foldl (fun acc p => if f p = true then acc ||| (1 <<< (Int32.ofNat p &&& 31)) else acc) 0
theorem mk_0 (f : Nat → Bool) : mk f 0 = 0 := rfl
theorem mk_s (f : Nat → Bool) (n : Nat) : mk f (n + 1) = if f n = true then mk f n ||| (1 <<< (Int32.ofNat n &&& 31)) else mk f n := by
  unfold mk
  rw [List.range_succ, List.foldl_append]
  rfl
theorem bt_mk (f : Nat → Bool) : ∀ n, n ≤ 32 → ∀ q, q < 32 → bt (mk f n) q = (decide (q < n) && f q) := by
  intro n
  induction n with
  | zero =>
    intro _ q hq
    rw [mk_0, bt_zero]; simp
  | succ n ih =>
    intro hn q hq
    rw [mk_s]
    by_cases h : f n = true
    · rw [if_pos h, bt_or, ih (by omega) q hq, bt_one n (by omega) q hq]
      by_cases e : q = n
      · subst e; simp [h]
      · by_cases c : q < n
        · simp [e, c, show q < n + 1 by omega]
        · simp [e, c, show ¬ q < n + 1 by omega]
    · rw [if_neg h, ih (by omega) q hq]
      by_cases e : q = n
      · subst e
        simp [h]
      · by_cases c : q < n
        · simp [c, show q < n + 1 by omega]
        · simp [c, show ¬ q < n + 1 by omega]
theorem onB_mk (pl : List Pl) (v : Q4) (n : Nat) : onB pl v n = mk (fun p => decide (sd (pl.getD p p0) v = 0)) n := by
  unfold onB mk
  congr 1
  funext acc p
  simp only [decide_eq_true_eq]
theorem onB_bt (pl : List Pl) (v : Q4) {n q : Nat} (hn : n ≤ 32) (hq : q < n) : bt (onB pl v n) q = true ↔ sd (pl.getD q p0) v = 0 := by
  rw [onB_mk, bt_mk _ n hn q (by omega)]
  simp [hq]
theorem onB_s (pl : List Pl) (v : Q4) (n : Nat) : onB pl v (n + 1) = if sd (pl.getD n p0) v = 0 then onB pl v n ||| (1 <<< (Int32.ofNat n &&& 31)) else onB pl v n := by
  rw [onB_mk, onB_mk, mk_s]
  simp only [decide_eq_true_eq]
/-! how many bits -/
def U (x : Int32) : Nat := x.toBitVec.toNat
theorem U_lt (x : Int32) : U x < 4294967296 := x.toBitVec.isLt
theorem U_and (x y : Int32) : U (x &&& y) = U x &&& U y := by
  unfold U
  rw [Int32.toBitVec_and, BitVec.toNat_and]
theorem U_sub {x y : Int32} (h : U y ≤ U x) : U (x - y) = U x - U y := by
  have hx := U_lt x
  unfold U at *
  rw [Int32.toBitVec_sub, BitVec.toNat_sub]
  omega
theorem U_add {x y : Int32} (h : U x + U y < 4294967296) : U (x + y) = U x + U y := by
  unfold U at *
  rw [Int32.toBitVec_add, BitVec.toNat_add]
  omega
theorem U_shr (x s : Int32) {k : Nat} (hs : ((s.toUInt32 &&& Int32.toUInt32 31).toBitVec % 32).toNat = k) : U ((x.toUInt32 >>> (s.toUInt32 &&& Int32.toUInt32 31)).toInt32) = U x / 2 ^ k := by
  show (x.toBitVec >>> (((s.toUInt32 &&& Int32.toUInt32 31).toBitVec % 32).toNat)).toNat = _
  rw [hs, BitVec.toNat_ushiftRight, Nat.shiftRight_eq_div_pow]
  rfl
theorem U_of {x : Int32} {n : Nat} (h : U x = n) (hn : n < 2147483648) : x = Int32.ofNat n := by
  rw [← Int32.toBitVec_inj]
  apply BitVec.eq_of_toNat_eq
  show U x = _
  rw [h]
  show n = n % 4294967296
  omega
theorem and16 {a b c d : Nat} (hb : b < 16) (hd : d < 16) : (16 * a + b) &&& (16 * c + d) = 16 * (a &&& c) + (b &&& d) := by
  have h1 := Nat.and_div_two_pow (a := 16 * a + b) (b := 16 * c + d) (n := 4)
  have h2 := Nat.and_mod_two_pow (a := 16 * a + b) (b := 16 * c + d) (n := 4)
  rw [show (16 * a + b) / 2 ^ 4 = a by omega, show (16 * c + d) / 2 ^ 4 = c by omega] at h1
  rw [show (16 * a + b) % 2 ^ 4 = b by omega, show (16 * c + d) % 2 ^ 4 = d by omega] at h2
  omega
def nib (n0 n1 n2 n3 n4 n5 n6 n7 : Nat) : Nat := 16 * (16 * (16 * (16 * (16 * (16 * (16 * n7 + n6) + n5) + n4) + n3) + n2) + n1) + n0
theorem nib_and {n0 n1 n2 n3 n4 n5 n6 n7 m0 m1 m2 m3 m4 m5 m6 m7 : Nat} (h0 : n0 < 16) (h1 : n1 < 16) (h2 : n2 < 16) (h3 : n3 < 16) (h4 : n4 < 16) (h5 : n5 < 16) (h6 : n6 < 16) (k0 : m0 < 16) (k1 : m1 < 16) (k2 : m2 < 16) (k3 : m3 < 16) (k4 : m4 < 16) (k5 : m5 < 16) (k6 : m6 < 16) : nib n0 n1 n2 n3 n4 n5 n6 n7 &&& nib m0 m1 m2 m3 m4 m5 m6 m7 = nib (n0 &&& m0) (n1 &&& m1) (n2 &&& m2) (n3 &&& m3) (n4 &&& m4) (n5 &&& m5) (n6 &&& m6) (n7 &&& m7) := by
  unfold nib
  rw [and16 h0 k0, and16 h1 k1, and16 h2 k2, and16 h3 k3, and16 h4 k4, and16 h5 k5, and16 h6 k6]
theorem nb1 : ∀ n, n < 16 → ∀ e, e < 2 → ((n / 2 + 8 * e) &&& 5) = (n / 2 &&& 5) ∧ (n / 2 &&& 5) ≤ n := by decide
theorem nb2 : ∀ n, n < 16 → ∀ e, e < 4 → ((n / 4 + 4 * e) &&& 3) = (n / 4 &&& 3) := by decide
theorem nb3 : ∀ n, n < 16 → ((n - (n / 2 &&& 5)) &&& 3) + ((n - (n / 2 &&& 5)) / 4 &&& 3) = n % 2 + n / 2 % 2 + n / 4 % 2 + n / 8 % 2 := by decide
theorem nb4 : ∀ n, n < 16 → (n &&& 15) = n ∧ (n &&& 0) = 0 := by decide
theorem swar1 {n0 n1 n2 n3 n4 n5 n6 n7 : Nat} (h0 : n0 < 16) (h1 : n1 < 16) (h2 : n2 < 16) (h3 : n3 < 16) (h4 : n4 < 16) (h5 : n5 < 16) (h6 : n6 < 16) (h7 : n7 < 16) : (nib n0 n1 n2 n3 n4 n5 n6 n7 / 2) &&& 1431655765 = nib (n0 / 2 &&& 5) (n1 / 2 &&& 5) (n2 / 2 &&& 5) (n3 / 2 &&& 5) (n4 / 2 &&& 5) (n5 / 2 &&& 5) (n6 / 2 &&& 5) (n7 / 2 &&& 5) := by
  have e : nib n0 n1 n2 n3 n4 n5 n6 n7 / 2 = nib (n0 / 2 + 8 * (n1 % 2)) (n1 / 2 + 8 * (n2 % 2)) (n2 / 2 + 8 * (n3 % 2)) (n3 / 2 + 8 * (n4 % 2)) (n4 / 2 + 8 * (n5 % 2)) (n5 / 2 + 8 * (n6 % 2)) (n6 / 2 + 8 * (n7 % 2)) (n7 / 2) := by
    unfold nib; omega
  have m : (1431655765 : Nat) = nib 5 5 5 5 5 5 5 5 := by decide
  rw [e, m, nib_and (by omega) (by omega) (by omega) (by omega) (by omega) (by omega) (by omega) (by omega) (by omega) (by omega) (by omega) (by omega) (by omega) (by omega), (nb1 n0 h0 (n1 % 2) (by omega)).1, (nb1 n1 h1 (n2 % 2) (by omega)).1, (nb1 n2 h2 (n3 % 2) (by omega)).1, (nb1 n3 h3 (n4 % 2) (by omega)).1, (nb1 n4 h4 (n5 % 2) (by omega)).1, (nb1 n5 h5 (n6 % 2) (by omega)).1, (nb1 n6 h6 (n7 % 2) (by omega)).1]
theorem swar2 {n0 n1 n2 n3 n4 n5 n6 n7 : Nat} (h0 : n0 < 16) (h1 : n1 < 16) (h2 : n2 < 16) (h3 : n3 < 16) (h4 : n4 < 16) (h5 : n5 < 16) (h6 : n6 < 16) (h7 : n7 < 16) : (nib n0 n1 n2 n3 n4 n5 n6 n7 / 4) &&& 858993459 = nib (n0 / 4 &&& 3) (n1 / 4 &&& 3) (n2 / 4 &&& 3) (n3 / 4 &&& 3) (n4 / 4 &&& 3) (n5 / 4 &&& 3) (n6 / 4 &&& 3) (n7 / 4 &&& 3) ∧ nib n0 n1 n2 n3 n4 n5 n6 n7 &&& 858993459 = nib (n0 &&& 3) (n1 &&& 3) (n2 &&& 3) (n3 &&& 3) (n4 &&& 3) (n5 &&& 3) (n6 &&& 3) (n7 &&& 3) := by
  have e : nib n0 n1 n2 n3 n4 n5 n6 n7 / 4 = nib (n0 / 4 + 4 * (n1 % 4)) (n1 / 4 + 4 * (n2 % 4)) (n2 / 4 + 4 * (n3 % 4)) (n3 / 4 + 4 * (n4 % 4)) (n4 / 4 + 4 * (n5 % 4)) (n5 / 4 + 4 * (n6 % 4)) (n6 / 4 + 4 * (n7 % 4)) (n7 / 4) := by
    unfold nib; omega
  have m : (858993459 : Nat) = nib 3 3 3 3 3 3 3 3 := by decide
  constructor
  · rw [e, m, nib_and (by omega) (by omega) (by omega) (by omega) (by omega) (by omega) (by omega) (by omega) (by omega) (by omega) (by omega) (by omega) (by omega) (by omega), nb2 n0 h0 (n1 % 4) (by omega), nb2 n1 h1 (n2 % 4) (by omega), nb2 n2 h2 (n3 % 4) (by omega), nb2 n3 h3 (n4 % 4) (by omega), nb2 n4 h4 (n5 % 4) (by omega), nb2 n5 h5 (n6 % 4) (by omega), nb2 n6 h6 (n7 % 4) (by omega)]
  · rw [m, nib_and h0 h1 h2 h3 h4 h5 h6 (by omega) (by omega) (by omega) (by omega) (by omega) (by omega) (by omega)]
theorem nib_ex {X : Nat} (h : X < 4294967296) : X = nib (X % 16) (X / 16 % 16) (X / 256 % 16) (X / 4096 % 16) (X / 65536 % 16) (X / 1048576 % 16) (X / 16777216 % 16) (X / 268435456 % 16) := by
  unfold nib; omega
def pn (n : Nat) : Nat := n % 2 + n / 2 % 2 + n / 4 % 2 + n / 8 % 2
theorem pn_le (n : Nat) : pn n ≤ 4 := by unfold pn; omega
theorem pn_y (Y : Nat) : Y % 2 = Y % 16 % 2 ∧ Y / 2 % 2 = Y % 16 / 2 % 2 ∧ Y / 4 % 2 = Y % 16 / 4 % 2 ∧ Y / 8 % 2 = Y % 16 / 8 % 2 := by
  refine ⟨by omega, by omega, by omega, by omega⟩
theorem pn_x (X c : Nat) : pn (X / c % 16) = X / c % 2 + X / (c * 2) % 2 + X / (c * 4) % 2 + X / (c * 8) % 2 := by
  obtain ⟨h1, h2, h3, h4⟩ := pn_y (X / c)
  unfold pn
  rw [← h1, ← h2, ← h3, ← h4, Nat.div_div_eq_div_mul, Nat.div_div_eq_div_mul, Nat.div_div_eq_div_mul]
theorem bits32 (X : Nat) : sm 32 (fun i => X / 2 ^ i % 2) = pn (X % 16) + pn (X / 16 % 16) + pn (X / 256 % 16) + pn (X / 4096 % 16) + pn (X / 65536 % 16) + pn (X / 1048576 % 16) + pn (X / 16777216 % 16) + pn (X / 268435456 % 16) := by
  have h0 := pn_x X 1
  rw [Nat.div_one] at h0
  rw [h0, pn_x X 16, pn_x X 256, pn_x X 4096, pn_x X 65536, pn_x X 1048576, pn_x X 16777216, pn_x X 268435456]
  simp only [sm, Nat.reducePow, Nat.reduceMul, Nat.add_assoc, Nat.zero_add, Nat.div_one]
theorem swar3 {p0 p1 p2 p3 p4 p5 p6 p7 : Nat} (h0 : p0 ≤ 4) (h1 : p1 ≤ 4) (h2 : p2 ≤ 4) (h3 : p3 ≤ 4) (h4 : p4 ≤ 4) (h5 : p5 ≤ 4) (h6 : p6 ≤ 4) (h7 : p7 ≤ 4) : (nib p0 p1 p2 p3 p4 p5 p6 p7 + nib p0 p1 p2 p3 p4 p5 p6 p7 / 16) &&& 252645135 = nib (p0 + p1) 0 (p2 + p3) 0 (p4 + p5) 0 (p6 + p7) 0 := by
  have e : nib p0 p1 p2 p3 p4 p5 p6 p7 + nib p0 p1 p2 p3 p4 p5 p6 p7 / 16 = nib (p0 + p1) (p1 + p2) (p2 + p3) (p3 + p4) (p4 + p5) (p5 + p6) (p6 + p7) p7 := by
    unfold nib; omega
  have m : (252645135 : Nat) = nib 15 0 15 0 15 0 15 0 := by decide
  rw [e, m, nib_and (by omega) (by omega) (by omega) (by omega) (by omega) (by omega) (by omega) (by omega) (by omega) (by omega) (by omega) (by omega) (by omega) (by omega), (nb4 (p0 + p1) (by omega)).1, (nb4 (p1 + p2) (by omega)).2, (nb4 (p2 + p3) (by omega)).1, (nb4 (p3 + p4) (by omega)).2, (nb4 (p4 + p5) (by omega)).1, (nb4 (p5 + p6) (by omega)).2, (nb4 (p6 + p7) (by omega)).1, (nb4 p7 (by omega)).2]
theorem swar4 {q0 q1 q2 q3 : Nat} (h0 : q0 ≤ 8) (h1 : q1 ≤ 8) (h2 : q2 ≤ 8) (h3 : q3 ≤ 8) : nib q0 0 q1 0 q2 0 q3 0 + nib q0 0 q1 0 q2 0 q3 0 / 256 = (q0 + q1) + 256 * (q1 + q2) + 65536 * (q2 + q3) + 16777216 * q3 := by
  unfold nib; omega
theorem swar5 {q0 q1 q2 q3 : Nat} (h0 : q0 ≤ 8) (h1 : q1 ≤ 8) (h2 : q2 ≤ 8) (h3 : q3 ≤ 8) : ((q0 + q1) + 256 * (q1 + q2) + 65536 * (q2 + q3) + 16777216 * q3) + ((q0 + q1) + 256 * (q1 + q2) + 65536 * (q2 + q3) + 16777216 * q3) / 65536 = (q0 + q1 + q2 + q3) + 256 * (q1 + q2 + q3) + 65536 * (q2 + q3) + 16777216 * q3 := by
  omega
theorem nib_lt {n0 n1 n2 n3 n4 n5 n6 n7 : Nat} (h0 : n0 < 16) (h1 : n1 < 16) (h2 : n2 < 16) (h3 : n3 < 16) (h4 : n4 < 16) (h5 : n5 < 16) (h6 : n6 < 16) (h7 : n7 < 16) : nib n0 n1 n2 n3 n4 n5 n6 n7 < 4294967296 := by
  unfold nib; omega
theorem bc_U (I : Nat → Int32) (A : Nat → Nat → Int32) (L : Nat → Int64) (x : Int32) {n0 n1 n2 n3 n4 n5 n6 n7 : Nat} (hx : U x = nib n0 n1 n2 n3 n4 n5 n6 n7) (h0 : n0 < 16) (h1 : n1 < 16) (h2 : n2 < 16) (h3 : n3 < 16) (h4 : n4 < 16) (h5 : n5 < 16) (h6 : n6 < 16) (h7 : n7 < 16) : f_J6_bitCount_0f7a4 I A L x = some (Int32.ofNat (pn n0 + pn n1 + pn n2 + pn n3 + pn n4 + pn n5 + pn n6 + pn n7)) := by
  unfold f_J6_bitCount_0f7a4
  simp only [g_lt_eq]
  congr 1
  have a0 := (nb1 n0 h0 0 (by omega)).2
  have a1 := (nb1 n1 h1 0 (by omega)).2
  have a2 := (nb1 n2 h2 0 (by omega)).2
  have a3 := (nb1 n3 h3 0 (by omega)).2
  have a4 := (nb1 n4 h4 0 (by omega)).2
  have a5 := (nb1 n5 h5 0 (by omega)).2
  have a6 := (nb1 n6 h6 0 (by omega)).2
  have a7 := (nb1 n7 h7 0 (by omega)).2
  -- the first
  have s1 : U (((x.toUInt32 >>> ((1 : Int32).toUInt32 &&& Int32.toUInt32 31)).toInt32) &&& 1431655765) = nib (n0 / 2 &&& 5) (n1 / 2 &&& 5) (n2 / 2 &&& 5) (n3 / 2 &&& 5) (n4 / 2 &&& 5) (n5 / 2 &&& 5) (n6 / 2 &&& 5) (n7 / 2 &&& 5) := by
    rw [U_and, U_shr x 1 (k := 1) (by decide), hx]
    exact swar1 h0 h1 h2 h3 h4 h5 h6 h7
  have v1 : U (x - (((x.toUInt32 >>> ((1 : Int32).toUInt32 &&& Int32.toUInt32 31)).toInt32) &&& 1431655765)) = nib (n0 - (n0 / 2 &&& 5)) (n1 - (n1 / 2 &&& 5)) (n2 - (n2 / 2 &&& 5)) (n3 - (n3 / 2 &&& 5)) (n4 - (n4 / 2 &&& 5)) (n5 - (n5 / 2 &&& 5)) (n6 - (n6 / 2 &&& 5)) (n7 - (n7 / 2 &&& 5)) := by
    rw [U_sub, s1, hx]
    · unfold nib; omega
    · rw [s1, hx]; unfold nib; omega
  generalize x - (((x.toUInt32 >>> ((1 : Int32).toUInt32 &&& Int32.toUInt32 31)).toInt32) &&& 1431655765) = y1 at *
  -- the second
  obtain ⟨t1, t2⟩ := swar2 (n0 := n0 - (n0 / 2 &&& 5)) (n1 := n1 - (n1 / 2 &&& 5)) (n2 := n2 - (n2 / 2 &&& 5)) (n3 := n3 - (n3 / 2 &&& 5)) (n4 := n4 - (n4 / 2 &&& 5)) (n5 := n5 - (n5 / 2 &&& 5)) (n6 := n6 - (n6 / 2 &&& 5)) (n7 := n7 - (n7 / 2 &&& 5)) (by omega) (by omega) (by omega) (by omega) (by omega) (by omega) (by omega) (by omega)
  have c0 : _ = pn n0 := nb3 n0 h0
  have c1 : _ = pn n1 := nb3 n1 h1
  have c2 : _ = pn n2 := nb3 n2 h2
  have c3 : _ = pn n3 := nb3 n3 h3
  have c4 : _ = pn n4 := nb3 n4 h4
  have c5 : _ = pn n5 := nb3 n5 h5
  have c6 : _ = pn n6 := nb3 n6 h6
  have c7 : _ = pn n7 := nb3 n7 h7
  have l0 := pn_le n0
  have l1 := pn_le n1
  have l2 := pn_le n2
  have l3 := pn_le n3
  have l4 := pn_le n4
  have l5 := pn_le n5
  have l6 := pn_le n6
  have l7 := pn_le n7
  have w1 : U (y1 &&& 858993459) = _ := Eq.trans (by rw [U_and, v1]; rfl) t2
  have w2 : U (((y1.toUInt32 >>> ((2 : Int32).toUInt32 &&& Int32.toUInt32 31)).toInt32) &&& 858993459) = _ := Eq.trans (by rw [U_and, U_shr y1 2 (k := 2) (by decide), v1]; rfl) t1
  have sum2 : ∀ a0 a1 a2 a3 a4 a5 a6 a7 b0 b1 b2 b3 b4 b5 b6 b7 : Nat, nib a0 a1 a2 a3 a4 a5 a6 a7 + nib b0 b1 b2 b3 b4 b5 b6 b7 = nib (a0 + b0) (a1 + b1) (a2 + b2) (a3 + b3) (a4 + b4) (a5 + b5) (a6 + b6) (a7 + b7) := by
    intros; unfold nib; omega
  have v2 : U ((y1 &&& 858993459) + (((y1.toUInt32 >>> ((2 : Int32).toUInt32 &&& Int32.toUInt32 31)).toInt32) &&& 858993459)) = nib (pn n0) (pn n1) (pn n2) (pn n3) (pn n4) (pn n5) (pn n6) (pn n7) := by
    have e : U (y1 &&& 858993459) + U (((y1.toUInt32 >>> ((2 : Int32).toUInt32 &&& Int32.toUInt32 31)).toInt32) &&& 858993459) = nib (pn n0) (pn n1) (pn n2) (pn n3) (pn n4) (pn n5) (pn n6) (pn n7) := by
      rw [w1, w2, sum2, c0, c1, c2, c3, c4, c5, c6, c7]
    rw [U_add, e]
    rw [e]
    exact nib_lt (by omega) (by omega) (by omega) (by omega) (by omega) (by omega) (by omega) (by omega)
  generalize (y1 &&& 858993459) + (((y1.toUInt32 >>> ((2 : Int32).toUInt32 &&& Int32.toUInt32 31)).toInt32) &&& 858993459) = y2 at *
  -- the third
  have v3 : U ((y2 + ((y2.toUInt32 >>> ((4 : Int32).toUInt32 &&& Int32.toUInt32 31)).toInt32)) &&& 252645135) = nib (pn n0 + pn n1) 0 (pn n2 + pn n3) 0 (pn n4 + pn n5) 0 (pn n6 + pn n7) 0 := by
    have e := U_shr y2 4 (k := 4) (by decide)
    have hl : nib (pn n0) (pn n1) (pn n2) (pn n3) (pn n4) (pn n5) (pn n6) (pn n7) + nib (pn n0) (pn n1) (pn n2) (pn n3) (pn n4) (pn n5) (pn n6) (pn n7) / 16 < 4294967296 := by
      unfold nib; omega
    rw [U_and, U_add, e, v2]
    · exact swar3 l0 l1 l2 l3 l4 l5 l6 l7
    · rw [e, v2]; exact hl
  generalize (y2 + ((y2.toUInt32 >>> ((4 : Int32).toUInt32 &&& Int32.toUInt32 31)).toInt32)) &&& 252645135 = y3 at *
  have v4 : U (y3 + ((y3.toUInt32 >>> ((8 : Int32).toUInt32 &&& Int32.toUInt32 31)).toInt32)) = (pn n0 + pn n1 + (pn n2 + pn n3)) + 256 * (pn n2 + pn n3 + (pn n4 + pn n5)) + 65536 * (pn n4 + pn n5 + (pn n6 + pn n7)) + 16777216 * (pn n6 + pn n7) := by
    have e := U_shr y3 8 (k := 8) (by decide)
    have s := swar4 (q0 := pn n0 + pn n1) (q1 := pn n2 + pn n3) (q2 := pn n4 + pn n5) (q3 := pn n6 + pn n7) (by omega) (by omega) (by omega) (by omega)
    have e2 : U y3 + U ((y3.toUInt32 >>> ((8 : Int32).toUInt32 &&& Int32.toUInt32 31)).toInt32) = _ := Eq.trans (by simp only [e, v3, Nat.reducePow]) s
    rw [U_add, e2]
    rw [e2]; omega
  generalize y3 + ((y3.toUInt32 >>> ((8 : Int32).toUInt32 &&& Int32.toUInt32 31)).toInt32) = y4 at *
  have v5 : U (y4 + ((y4.toUInt32 >>> ((16 : Int32).toUInt32 &&& Int32.toUInt32 31)).toInt32)) = ((pn n0 + pn n1) + (pn n2 + pn n3) + (pn n4 + pn n5) + (pn n6 + pn n7)) + 256 * ((pn n2 + pn n3) + (pn n4 + pn n5) + (pn n6 + pn n7)) + 65536 * ((pn n4 + pn n5) + (pn n6 + pn n7)) + 16777216 * (pn n6 + pn n7) := by
    have e := U_shr y4 16 (k := 16) (by decide)
    have s := swar5 (q0 := pn n0 + pn n1) (q1 := pn n2 + pn n3) (q2 := pn n4 + pn n5) (q3 := pn n6 + pn n7) (by omega) (by omega) (by omega) (by omega)
    have e2 : U y4 + U ((y4.toUInt32 >>> ((16 : Int32).toUInt32 &&& Int32.toUInt32 31)).toInt32) = _ := Eq.trans (by simp only [e, v4, Nat.reducePow]) s
    rw [U_add, e2]
    rw [e2]; omega
  generalize y4 + ((y4.toUInt32 >>> ((16 : Int32).toUInt32 &&& Int32.toUInt32 31)).toInt32) = y5 at *
  refine U_of ?_ (by omega)
  rw [U_and]
  have e63 : U 63 = 2 ^ 6 - 1 := by decide
  rw [e63, Nat.and_two_pow_sub_one_eq_mod, v5]
  omega
theorem bc_n (I : Nat → Int32) (A : Nat → Nat → Int32) (L : Nat → Int64) (x : Int32) : f_J6_bitCount_0f7a4 I A L x = some (Int32.ofNat (sm 32 (fun i => ib (bt x i = true)))) := by
  have hx := nib_ex (U_lt x)
  rw [bc_U I A L x hx (by omega) (by omega) (by omega) (by omega) (by omega) (by omega) (by omega) (by omega), ← bits32 (U x)]
  congr 2
  refine sm_eq (fun i hi => ?_)
  have e : bt x i = decide (U x / 2 ^ i % 2 = 1) := Nat.testBit_eq_decide_div_mod_eq
  by_cases c : U x / 2 ^ i % 2 = 1
  · rw [ib_1 (by rw [e]; simp [c]), c]
  · rw [ib_0 (by rw [e]; simp [c])]
    omega
