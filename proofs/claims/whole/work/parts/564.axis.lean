/-! directions -/
theorem v3_line (a b r u : V3) (ha : cu a u = 0) (hb : cu b u = 0) : cu r u * cu (crs a b) (crs a b) = cu (crs a b) u * cu r (crs a b) := by
  obtain ⟨a1, a2, a3⟩ := a
  obtain ⟨b1, b2, b3⟩ := b
  obtain ⟨r1, r2, r3⟩ := r
  obtain ⟨u1, u2, u3⟩ := u
  simp only [cu, crs] at *
  grind
theorem v3_axis (a y p q : V3) (h : cu a y = 0) : cu y y * cu q (crs a p) = cu p y * cu q (crs a y) - cu p (crs a y) * cu q y := by
  obtain ⟨a1, a2, a3⟩ := a
  obtain ⟨y1, y2, y3⟩ := y
  obtain ⟨p1, p2, p3⟩ := p
  obtain ⟨q1, q2, q3⟩ := q
  simp only [cu, crs] at *
  grind
theorem v3_plane (n y u r : V3) (hy : cu n y = 0) (hu : cu n u = 0) : cu r u * (cu y y * cu n n) = cu (crs y n) u * cu r (crs y n) + cu y u * cu n n * cu r y := by
  obtain ⟨n1, n2, n3⟩ := n
  obtain ⟨y1, y2, y3⟩ := y
  obtain ⟨u1, u2, u3⟩ := u
  obtain ⟨r1, r2, r3⟩ := r
  simp only [cu, crs] at *
  grind
theorem cu_pos {u : V3} (h : u ≠ (0, 0, 0)) : 0 < cu u u := by
  obtain ⟨a, b, c⟩ := u
  simp only [cu]
  simp only [ne_eq, Prod.mk.injEq] at h
  have sq : ∀ z : Int, 0 ≤ z * z := fun z => by
    rcases (show z = 0 ∨ z ≠ 0 by omega) with q | q
    · rw [q]; decide
    · have := sq_pos q; omega
  have h1 := sq a
  have h2 := sq b
  have h3 := sq c
  rcases (show a ≠ 0 ∨ b ≠ 0 ∨ c ≠ 0 by omega) with q | q | q
  · have := sq_pos q; omega
  · have := sq_pos q; omega
  · have := sq_pos q; omega
theorem cu_comm (a b : V3) : cu a b = cu b a := by simp only [cu]; grind
theorem cu_crs0 (a b : V3) : cu a (crs a b) = 0 := by simp only [cu, crs]; grind
theorem cu_crs1 (a b : V3) : cu b (crs a b) = 0 := by simp only [cu, crs]; grind
theorem cu_cyc (a b c : V3) : cu a (crs b c) = cu c (crs a b) := by simp only [cu, crs]; grind
theorem cu_anti (a b c : V3) : cu a (crs b c) = - cu c (crs b a) := by simp only [cu, crs]; grind
theorem crs_neg (a b : V3) : crs (neg3 a) b = neg3 (crs a b) := by
  simp only [crs, neg3, Prod.mk.injEq]
  refine ⟨by grind, by grind, by grind⟩
theorem crs_sw (a b : V3) : crs b a = neg3 (crs a b) := by
  simp only [crs, neg3, Prod.mk.injEq]
  refine ⟨by grind, by grind, by grind⟩
theorem v3_all {u : V3} (h : ∀ c, cu c u = 0) : u = (0, 0, 0) := by
  have a := h (1, 0, 0)
  have b := h (0, 1, 0)
  have c := h (0, 0, 1)
  obtain ⟨x, y, z⟩ := u
  simp only [cu] at a b c
  simp only [Prod.mk.injEq]
  omega
/-- of planes that all turn from y0 one is the last around a -/
theorem axis {S : List Pl} (hne : S ≠ []) (a y : V3) (hay : cu a y = 0) (h : ∀ q ∈ S, nd q y < 0) : ∃ p ∈ S, ∀ q ∈ S, nd q (crs a (nrm p)) ≤ 0 := by
  obtain ⟨x, xs, e⟩ := List.exists_cons_of_ne_nil hne
  have hx : x ∈ S := by rw [e]; simp
  have hy : y ≠ (0, 0, 0) := fun z => by
    have := h x hx
    rw [z] at this
    simp only [nd] at this
    omega
  obtain ⟨p, hp, hk, hm⟩ := least_r (fun q : Pl => - nd q y) (fun q => nd q (crs a y)) S ⟨x, hx, by have := h x hx; omega⟩
  refine ⟨p, hp, fun q hq => ?_⟩
  have h1 := hm q hq (by have := h q hq; omega)
  have h1 : nd p (crs a y) * - nd q y ≤ nd q (crs a y) * - nd p y := h1
  have h2 := v3_axis a y (nrm p) (nrm q) hay
  have h2 : cu y y * nd q (crs a (nrm p)) = nd p y * nd q (crs a y) - nd p (crs a y) * nd q y := h2
  have hp := cu_pos hy
  have := nonneg_canc (a := cu y y) (b := - nd q (crs a (nrm p))) hp (by grind)
  omega
theorem bnd {α : Type} (f : α → Int) : ∀ l : List α, ∃ k : Int, 0 < k ∧ ∀ p ∈ l, f p ≤ k := by
  intro l
  induction l with
  | nil => exact ⟨1, by omega, fun p hp => absurd hp (by simp)⟩
  | cons a l ih =>
    obtain ⟨k, h1, h2⟩ := ih
    refine ⟨max k (f a), by omega, fun p hp => ?_⟩
    rcases List.mem_cons.mp hp with rfl | hp
    · omega
    · have := h2 p hp; omega
/-- as go, and only planes along the way stay at hand -/
theorem go2 {pl : List Pl} {v : Q4} (hv : inC pl v) (u : V3) (h : ∀ p ∈ pl, sd p v = 0 → nd p u ≤ 0) : ∃ k : Int, 0 < k ∧ inC pl (mv v k 1 u) ∧ ∀ p ∈ pl, sd p (mv v k 1 u) = 0 → sd p v = 0 ∧ nd p u = 0 := by
  obtain ⟨k, h1, h2⟩ := bnd (fun p => nd p u) pl
  have key : ∀ p ∈ pl, (sd p v = 0 ∧ sd p (mv v (k + 1) 1 u) = nd p u) ∨ (sd p (mv v (k + 1) 1 u) < 0) := by
    intro p hp
    rw [sd_mv]
    have h3 := hv.2 p hp
    by_cases h4 : sd p v = 0
    · left
      rw [h4]
      exact ⟨rfl, by omega⟩
    · right
      have h5 : sd p v ≤ -1 := by omega
      have h6 : nd p u ≤ k := h2 p hp
      have h7 : (k + 1) * sd p v ≤ (k + 1) * (-1) := Int.mul_le_mul_of_nonneg_left h5 (by omega)
      omega
  refine ⟨k + 1, by omega, ⟨Int.mul_pos (by omega) hv.1, fun p hp => ?_⟩, fun p hp e => ?_⟩
  · rcases key p hp with ⟨a, b⟩ | a
    · have := h p hp a
      omega
    · omega
  · rcases key p hp with ⟨a, b⟩ | a
    · exact ⟨a, by omega⟩
    · omega
def ltV (c : V3) (v w : Q4) : Prop := 0 < cu c (df v w)
theorem ltV_le {c : V3} {v w x : Q4} (hv : 0 < v.2.2.2) (hw : 0 < w.2.2.2) (hx : 0 < x.2.2.2) (a : ltV c v w) (b : leV c w x) : ltV c v x := by
  unfold ltV at *
  rw [cu_df] at *
  unfold leV at b
  have e1 : cw c v * w.2.2.2 * x.2.2.2 < cw c w * v.2.2.2 * x.2.2.2 := Int.mul_lt_mul_of_pos_right (by omega) hx
  have e2 : cw c w * x.2.2.2 * v.2.2.2 ≤ cw c x * w.2.2.2 * v.2.2.2 := Int.mul_le_mul_of_nonneg_right b (by omega)
  have e3 : 0 < w.2.2.2 * (cw c x * v.2.2.2 - cw c v * x.2.2.2) := by grind
  rcases i_log 0 (cw c x * v.2.2.2 - cw c v * x.2.2.2) with q | q
  · exact q
  · have := Int.mul_nonpos_of_nonneg_of_nonpos (show 0 ≤ w.2.2.2 by omega) q
    omega
theorem ltV_mv {c : V3} {v : Q4} {k s : Int} {u : V3} (hd : 0 < v.2.2.2) (hs : 0 < s) (hc : 0 < cu c u) : ltV c v (mv v k s u) := by
  have e : cu c (df v (mv v k s u)) = s * cu c u * v.2.2.2 := by
    simp only [cu, df, mv]; grind
  unfold ltV
  rw [e]
  exact Int.mul_pos (Int.mul_pos hs hc) hd
theorem cu_mv (c : V3) (v : Q4) (k s : Int) (u : V3) : cu c (df v (mv v k s u)) = s * cu c u * v.2.2.2 := by
  simp only [cu, df, mv]; grind
/-- the last corner on a plane is the only last point on it -/
theorem uniq {pl : List Pl} (hb : Bd pl) {vs : List Q4} (hvs : ∀ v, v ∈ vs ↔ isC pl v) {g : V3} (hg : inj g vs) {p : Pl} (hp : p ∈ pl) (hn : nrm p ≠ (0, 0, 0)) {v : Q4} (hv : v ∈ vs) (hT : ∀ w ∈ vs, sd p w = 0 → leV g w v) {x : Q4} (hx : inC pl x) (ex : sd p x = 0) (hl : leV g v x) : df v x = (0, 0, 0) := by
  by_cases h0 : df v x = (0, 0, 0)
  · exact h0
  exfalso
  have hy := cu_pos h0
  generalize hyy : df v x = y at h0 hy
  obtain ⟨N, hN, hmax⟩ := bnd (fun w => cu y (df v w)) vs
  have hc : ∀ u, cu (N * g.1 + y.1, N * g.2.1 + y.2.1, N * g.2.2 + y.2.2) u = N * cu g u + cu y u := fun u => by
    simp only [cu]; grind
  obtain ⟨w, h1, h2, h3⟩ := lpP hb hx hp hn ex (N * g.1 + y.1, N * g.2.1 + y.2.1, N * g.2.2 + y.2.2)
  have hw := (hvs w).mpr h1
  have hvd := ((hvs v).mp hv).1.1
  have a1 : ltV (N * g.1 + y.1, N * g.2.1 + y.2.1, N * g.2.2 + y.2.2) v x := by
    unfold ltV
    rw [hc, hyy]
    have : 0 ≤ N * cu g y := Int.mul_nonneg (by omega) (by rw [leV_df, hyy] at hl; exact hl)
    omega
  have a2 := ltV_le hvd hx.1 h1.1.1 a1 h3
  unfold ltV at a2
  rw [hc] at a2
  have b1 := hT w hw h2
  by_cases hvw : v = w
  · subst hvw
    have : df v v = (0, 0, 0) := by simp only [df, Prod.mk.injEq]; omega
    rw [this] at a2
    simp only [cu] at a2
    omega
  · have b2 : ¬ leV g v w := fun z => hvw (hg v hv w hw z b1)
    rw [leV_df] at b2
    have b3 := hmax w hw
    have b3 : cu y (df v w) ≤ N := b3
    have b4 : N * cu g (df v w) ≤ N * (-1) := Int.mul_le_mul_of_nonneg_left (by omega) (by omega)
    omega
