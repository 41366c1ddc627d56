/-- from v to w, times both d -/
def df (v w : Q4) : V3 := (w.1 * v.2.2.2 - v.1 * w.2.2.2, w.2.1 * v.2.2.2 - v.2.1 * w.2.2.2, w.2.2.1 * v.2.2.2 - v.2.2.1 * w.2.2.2)
theorem nd_df (p : Pl) (v w : Q4) : nd p (df v w) = sd p w * v.2.2.2 - sd p v * w.2.2.2 := by
  simp only [nd, df, sd]; grind
theorem cu_df (c : V3) (v w : Q4) : cu c (df v w) = cw c w * v.2.2.2 - cw c v * w.2.2.2 := by
  simp only [cu, df, cw]; grind
theorem leV_df (c : V3) (v w : Q4) : leV c v w ↔ 0 ≤ cu c (df v w) := by
  rw [cu_df]; unfold leV; omega
theorem leV_df' (c : V3) (v w : Q4) : leV c w v ↔ cu c (df v w) ≤ 0 := by
  rw [cu_df]; unfold leV; omega
theorem df_0 {v w : Q4} (hv : rdc v) (hw : rdc w) (h : df v w = (0, 0, 0)) : v = w := by
  refine low_u (a := w.2.2.2) (b := v.2.2.2) hv hw hw.1 hv.1 ?_
  simp only [df, Prod.mk.injEq] at h
  simp only [scl, Prod.mk.injEq]
  refine ⟨by grind, by grind, by grind, by grind⟩
/-- D u from its three parts -/
theorem cu_3 (p q r : Pl) (c u : V3) : dt3 p q r * cu c u = nd p u * cu c (crs (nrm q) (nrm r)) + nd q u * cu c (crs (nrm r) (nrm p)) + nd r u * cu c (crs (nrm p) (nrm q)) := by
  simp only [dt3, cu, nd, crs, nrm]; grind
theorem dt3_rot (p q r : Pl) : dt3 q r p = dt3 p q r := by
  simp only [dt3]; grind
theorem dt3_sw (p q r : Pl) : dt3 q p r = - dt3 p q r := by
  simp only [dt3]; grind
theorem u_0 {p q r : Pl} (hd : dt3 p q r ≠ 0) {u : V3} (hp : nd p u = 0) (hq : nd q u = 0) (hr : nd r u = 0) : u = (0, 0, 0) := by
  have key : ∀ c, cu c u = 0 := fun c => by
    have := cu_3 p q r c u
    rw [hp, hq, hr] at this
    simp only [Int.zero_mul, Int.add_zero] at this
    rcases Int.mul_eq_zero.mp this with a | a
    · exact absurd a hd
    · exact a
  have a := key (1, 0, 0)
  have b := key (0, 1, 0)
  have c := key (0, 0, 1)
  obtain ⟨x, y, z⟩ := u
  simp only [cu] at a b c
  simp only [Prod.mk.injEq]
  omega
/-- one point only is on three planes that are apart -/
theorem crn_u {p q r : Pl} {v w : Q4} (hv : rdc v) (hw : rdc w) (hd : dt3 p q r ≠ 0) (hp : sd p v = 0) (hq : sd q v = 0) (hr : sd r v = 0) (hp' : sd p w = 0) (hq' : sd q w = 0) (hr' : sd r w = 0) : v = w := df_0 hv hw (u_0 hd (by rw [nd_df, hp, hp']; simp) (by rw [nd_df, hq, hq']; simp) (by rw [nd_df, hr, hr']; simp))
theorem isC_in {pl : List Pl} {v : Q4} (h : isC pl v) : inC pl v := ⟨h.1.1, h.2.1⟩
theorem nonneg_canc {a b : Int} (ha : 0 < a) (h : 0 ≤ a * b) : 0 ≤ b := by
  rcases i_log b 0 with q | q
  · have := Int.mul_neg_of_pos_of_neg ha q; omega
  · exact q
theorem sq_pos {a : Int} (h : a ≠ 0) : 0 < a * a := by
  rcases (show a < 0 ∨ 0 < a by omega) with q | q
  · exact Int.mul_pos_of_neg_of_neg q q
  · exact Int.mul_pos q q
theorem tbr {pl : List Pl} {p q r : Pl} {v : Q4} (hp : p ∈ pl) (hq : q ∈ pl) (hv : 0 < v.2.2.2) (hd : dt3 p q r ≠ 0) (ep : sd p v = 0) (eq : sd q v = 0) (er : sd r v = 0) (c : V3) {w : Q4} (hw : inC pl w) (ew : sd r w = 0) :
    (0 ≤ dt3 p q r * cu c (crs (nrm q) (nrm r)) → 0 ≤ dt3 p q r * cu c (crs (nrm r) (nrm p)) → leV c w v) ∧ (dt3 p q r * cu c (crs (nrm q) (nrm r)) ≤ 0 → dt3 p q r * cu c (crs (nrm r) (nrm p)) ≤ 0 → leV c v w) := by
  have e := cu_3 p q r c (df v w)
  rw [nd_df p, nd_df q, nd_df r, ep, eq, er, ew] at e
  have a1 : sd p w * v.2.2.2 ≤ 0 := Int.mul_nonpos_of_nonpos_of_nonneg (hw.2 p hp) (by omega)
  have a2 : sd q w * v.2.2.2 ≤ 0 := Int.mul_nonpos_of_nonpos_of_nonneg (hw.2 q hq) (by omega)
  generalize sd p w * v.2.2.2 = x at e a1
  generalize sd q w * v.2.2.2 = y at e a2
  generalize cu c (crs (nrm q) (nrm r)) = g1 at e ⊢
  generalize cu c (crs (nrm r) (nrm p)) = g2 at e ⊢
  have hD := sq_pos hd
  generalize dt3 p q r = D at e hD ⊢
  have e2 : D * D * cu c (df v w) = x * (D * g1) + y * (D * g2) := by grind
  constructor
  · intro b1 b2
    rw [leV_df']
    have c1 := Int.mul_nonpos_of_nonpos_of_nonneg a1 b1
    have c2 := Int.mul_nonpos_of_nonpos_of_nonneg a2 b2
    have := nonneg_canc (a := D * D) (b := - cu c (df v w)) hD (by grind)
    omega
  · intro b1 b2
    rw [leV_df]
    have c1 := Int.mul_nonneg_of_nonpos_of_nonpos a1 b1
    have c2 := Int.mul_nonneg_of_nonpos_of_nonpos a2 b2
    exact nonneg_canc (a := D * D) hD (by grind)
/-- a corner is the first or the last on one of its planes, by any order -/
theorem tb {pl : List Pl} {v : Q4} (h : isC pl v) (c : V3) : ∃ r ∈ pl, sd r v = 0 ∧ ((∀ w, inC pl w → sd r w = 0 → leV c w v) ∨ (∀ w, inC pl w → sd r w = 0 → leV c v w)) := by
  obtain ⟨hr, hin, p, hp, q, hq, r, hr', hd, ep, eq, er⟩ := h
  have d1 : dt3 q r p ≠ 0 := by rw [dt3_rot]; exact hd
  have d2 : dt3 r p q ≠ 0 := by rw [dt3_rot, dt3_rot]; exact hd
  have x1 := fun w hw ew => tbr hp hq hr.1 hd ep eq er c (w := w) hw ew
  have x2 := fun w hw ew => tbr hq hr' hr.1 d1 eq er ep c (w := w) hw ew
  have x3 := fun w hw ew => tbr hr' hp hr.1 d2 er ep eq c (w := w) hw ew
  rw [dt3_rot p q r] at x2
  rw [dt3_rot q r p, dt3_rot p q r] at x3
  generalize dt3 p q r * cu c (crs (nrm q) (nrm r)) = g1 at x1 x2 x3
  generalize dt3 p q r * cu c (crs (nrm r) (nrm p)) = g2 at x1 x2 x3
  generalize dt3 p q r * cu c (crs (nrm p) (nrm q)) = g3 at x1 x2 x3
  rcases (show (0 ≤ g1 ∧ 0 ≤ g2) ∨ (g1 ≤ 0 ∧ g2 ≤ 0) ∨ (0 ≤ g2 ∧ 0 ≤ g3) ∨ (g2 ≤ 0 ∧ g3 ≤ 0) ∨ (0 ≤ g3 ∧ 0 ≤ g1) ∨ (g3 ≤ 0 ∧ g1 ≤ 0) by omega) with z | z | z | z | z | z
  · exact ⟨r, hr', er, Or.inl (fun w hw ew => (x1 w hw ew).1 z.1 z.2)⟩
  · exact ⟨r, hr', er, Or.inr (fun w hw ew => (x1 w hw ew).2 z.1 z.2)⟩
  · exact ⟨p, hp, ep, Or.inl (fun w hw ew => (x2 w hw ew).1 z.1 z.2)⟩
  · exact ⟨p, hp, ep, Or.inr (fun w hw ew => (x2 w hw ew).2 z.1 z.2)⟩
  · exact ⟨q, hq, eq, Or.inl (fun w hw ew => (x3 w hw ew).1 z.1 z.2)⟩
  · exact ⟨q, hq, eq, Or.inr (fun w hw ew => (x3 w hw ew).2 z.1 z.2)⟩
/-! an order that tells all corners apart -/
theorem big (vs : List Q4) : ∃ B : Int, 0 < B ∧ ∀ v ∈ vs, (-B ≤ v.1 ∧ v.1 ≤ B) ∧ (-B ≤ v.2.1 ∧ v.2.1 ≤ B) ∧ (-B ≤ v.2.2.1 ∧ v.2.2.1 ≤ B) ∧ (-B ≤ v.2.2.2 ∧ v.2.2.2 ≤ B) := by
  induction vs with
  | nil => exact ⟨1, by omega, fun v hv => absurd hv (by simp)⟩
  | cons a vs ih =>
    obtain ⟨B, h1, h2⟩ := ih
    refine ⟨B + (a.1.natAbs : Int) + (a.2.1.natAbs : Int) + (a.2.2.1.natAbs : Int) + (a.2.2.2.natAbs : Int), by omega, fun v hv => ?_⟩
    rcases List.mem_cons.mp hv with rfl | hv
    · omega
    · have := h2 v hv
      omega
theorem mul_bd {a b B : Int} (ha : -B ≤ a ∧ a ≤ B) (hb : -B ≤ b ∧ b ≤ B) : -(B * B) ≤ a * b ∧ a * b ≤ B * B := by
  have h1 : 0 ≤ (B - a) * (B + b) := Int.mul_nonneg (by omega) (by omega)
  have h2 : 0 ≤ (B + a) * (B - b) := Int.mul_nonneg (by omega) (by omega)
  have h3 : 0 ≤ (B - a) * (B - b) := Int.mul_nonneg (by omega) (by omega)
  have h4 : 0 ≤ (B + a) * (B + b) := Int.mul_nonneg (by omega) (by omega)
  constructor <;> grind
theorem digit {N x y : Int} (hy : -N < y ∧ y < N) (h : N * x + y = 0) : x = 0 ∧ y = 0 := by
  have hN : 0 < N := by omega
  rcases (show x ≤ -1 ∨ x = 0 ∨ 1 ≤ x by omega) with q | q | q
  · have : N * x ≤ N * (-1) := Int.mul_le_mul_of_nonneg_left q (by omega)
    omega
  · subst q
    exact ⟨rfl, by omega⟩
  · have : N * 1 ≤ N * x := Int.mul_le_mul_of_nonneg_left q (by omega)
    omega
def inj (c : V3) (vs : List Q4) : Prop := ∀ v ∈ vs, ∀ w ∈ vs, leV c v w → leV c w v → v = w
theorem order_ex (vs : List Q4) (h : ∀ v ∈ vs, rdc v) : ∃ c : V3, inj c vs := by
  obtain ⟨B, hB, hb⟩ := big vs
  refine ⟨((2 * (B * B) + 1) * (2 * (B * B) + 1), 2 * (B * B) + 1, 1), fun v hv w hw a b => ?_⟩
  rw [leV_df] at a
  rw [leV_df'] at b
  have e : cu ((2 * (B * B) + 1) * (2 * (B * B) + 1), 2 * (B * B) + 1, 1) (df v w) = 0 := by omega
  have h1 := hb v hv
  have h2 := hb w hw
  have x1 := mul_bd h2.1 h1.2.2.2
  have x2 := mul_bd h1.1 h2.2.2.2
  have y1 := mul_bd h2.2.1 h1.2.2.2
  have y2 := mul_bd h1.2.1 h2.2.2.2
  have z1 := mul_bd h2.2.2.1 h1.2.2.2
  have z2 := mul_bd h1.2.2.1 h2.2.2.2
  refine df_0 (h v hv) (h w hw) ?_
  simp only [cu, df] at e ⊢
  generalize w.1 * v.2.2.2 - v.1 * w.2.2.2 = X at *
  generalize hX : w.2.1 * v.2.2.2 - v.2.1 * w.2.2.2 = Y at *
  generalize hZ : w.2.2.1 * v.2.2.2 - v.2.2.1 * w.2.2.2 = Z at *
  generalize hN : 2 * (B * B) + 1 = N at *
  obtain ⟨q1, q2⟩ := digit (N := N) (x := N * X + Y) (y := Z) (by omega) (by grind)
  obtain ⟨q3, q4⟩ := digit (N := N) (x := X) (y := Y) (by omega) q1
  simp only [Prod.mk.injEq]
  exact ⟨q3, q4, q2⟩
