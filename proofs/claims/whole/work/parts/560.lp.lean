/-! GEOMETRY. Points are (x, y, z) over d; a direction is three numbers. -/
abbrev V3 : Type := Int × Int × Int
def nd (p : Pl) (u : V3) : Int := p.1.toInt * u.1 + p.2.1.toInt * u.2.1 + p.2.2.1.toInt * u.2.2
def inC (pl : List Pl) (v : Q4) : Prop := 0 < v.2.2.2 ∧ ∀ p ∈ pl, sd p v ≤ 0
def mv (v : Q4) (k s : Int) (u : V3) : Q4 := (k * v.1 + s * u.1, k * v.2.1 + s * u.2.1, k * v.2.2.1 + s * u.2.2, k * v.2.2.2)
def cw (c : V3) (v : Q4) : Int := c.1 * v.1 + c.2.1 * v.2.1 + c.2.2 * v.2.2.1
def cu (c u : V3) : Int := c.1 * u.1 + c.2.1 * u.2.1 + c.2.2 * u.2.2
def leV (c : V3) (v w : Q4) : Prop := cw c v * w.2.2.2 ≤ cw c w * v.2.2.2
def nrm (p : Pl) : V3 := (p.1.toInt, p.2.1.toInt, p.2.2.1.toInt)
def crs (a b : V3) : V3 := (a.2.1 * b.2.2 - a.2.2 * b.2.1, a.2.2 * b.1 - a.1 * b.2.2, a.1 * b.2.1 - a.2.1 * b.1)
def neg3 (a : V3) : V3 := (-a.1, -a.2.1, -a.2.2)
/-- in each direction a plane stands -/
def Bd (pl : List Pl) : Prop := ∀ u : V3, u ≠ (0, 0, 0) → ∃ p ∈ pl, 0 < nd p u
theorem sd_mv (p : Pl) (v : Q4) (k s : Int) (u : V3) : sd p (mv v k s u) = k * sd p v + s * nd p u := by
  simp only [sd, mv, nd]; grind
theorem nd_cu (p : Pl) (u : V3) : nd p u = cu (nrm p) u := rfl
theorem dt3_c (p q r : Pl) : dt3 p q r = nd r (crs (nrm p) (nrm q)) := by
  simp only [dt3, nd, crs, nrm]; grind
theorem nd_crs1 (p q : Pl) : nd p (crs (nrm p) (nrm q)) = 0 := by
  simp only [nd, crs, nrm]; grind
theorem nd_crs2 (p q : Pl) : nd q (crs (nrm p) (nrm q)) = 0 := by
  simp only [nd, crs, nrm]; grind
theorem cu_neg (c u : V3) : cu c (neg3 u) = - cu c u := by
  simp only [cu, neg3]; grind
theorem nd_neg (p : Pl) (u : V3) : nd p (neg3 u) = - nd p u := by
  simp only [nd, neg3]; grind
theorem neg3_0 {u : V3} (h : u ≠ (0, 0, 0)) : neg3 u ≠ (0, 0, 0) := by
  obtain ⟨a, b, c⟩ := u
  intro q
  simp only [neg3, Prod.mk.injEq] at q
  exact h (by simp only [Prod.mk.injEq]; omega)
theorem i_log (a b : Int) : a < b ∨ b ≤ a := by omega
theorem mul_canc {a b k : Int} (hk : 0 < k) (h : a * k ≤ b * k) : a ≤ b := Int.le_of_mul_le_mul_right h hk
theorem tr3 {s1 k1 s2 k2 s3 k3 : Int} (h1 : 0 < k1) (h2 : 0 < k2) (h3 : 0 < k3) (a : s1 * k2 ≤ s2 * k1) (b : s2 * k3 ≤ s3 * k2) : s1 * k3 ≤ s3 * k1 := by
  have e1 : s1 * k2 * k3 ≤ s2 * k1 * k3 := Int.mul_le_mul_of_nonneg_right a (by omega)
  have e2 : s2 * k3 * k1 ≤ s3 * k2 * k1 := Int.mul_le_mul_of_nonneg_right b (by omega)
  have e3 : (s1 * k3) * k2 ≤ (s3 * k1) * k2 := by grind
  exact mul_canc h2 e3
/-- of those with k above 0 one has the least s by k -/
theorem least_r {α : Type} (k s : α → Int) : ∀ (l : List α), (∃ p ∈ l, 0 < k p) → ∃ p ∈ l, 0 < k p ∧ ∀ q ∈ l, 0 < k q → s p * k q ≤ s q * k p
  | [], h => by obtain ⟨p, hp, _⟩ := h; exact absurd hp (by simp)
  | a :: l, h => by
    by_cases hl : ∃ p ∈ l, 0 < k p
    · obtain ⟨p, hp, hk, hmin⟩ := least_r k s l hl
      by_cases ha : 0 < k a ∧ s a * k p ≤ s p * k a
      · refine ⟨a, by simp, ha.1, fun q hq hkq => ?_⟩
        rcases List.mem_cons.mp hq with rfl | hq
        · exact Int.le_refl _
        · exact tr3 ha.1 hk hkq ha.2 (hmin q hq hkq)
      · refine ⟨p, by simp [hp], hk, fun q hq hkq => ?_⟩
        rcases List.mem_cons.mp hq with rfl | hq
        · by_cases hs : s q * k p ≤ s p * k q
          · exact absurd ⟨hkq, hs⟩ ha
          · omega
        · exact hmin q hq hkq
    · obtain ⟨p, hp, hk⟩ := h
      rcases List.mem_cons.mp hp with rfl | hp
      · refine ⟨p, by simp, hk, fun q hq hkq => ?_⟩
        rcases List.mem_cons.mp hq with rfl | hq
        · exact Int.le_refl _
        · exact absurd ⟨q, hq, hkq⟩ hl
      · exact absurd ⟨p, hp, hk⟩ hl
/-- on, until a plane stands in the way -/
theorem push {pl : List Pl} (hb : Bd pl) {v : Q4} (hv : inC pl v) {u : V3} (hu : u ≠ (0, 0, 0)) : ∃ p ∈ pl, 0 < nd p u ∧ inC pl (mv v (nd p u) (- sd p v) u) ∧ sd p (mv v (nd p u) (- sd p v) u) = 0 := by
  obtain ⟨p, hp, hk, hmin⟩ := least_r (fun p => nd p u) (fun p => - sd p v) pl (hb u hu)
  have hd := hv.1
  refine ⟨p, hp, hk, ⟨?_, fun q hq => ?_⟩, ?_⟩
  · show 0 < nd p u * v.2.2.2
    exact Int.mul_pos hk hd
  · rw [sd_mv]
    have hp0 := hv.2 p hp
    have hq0 := hv.2 q hq
    by_cases hkq : 0 < nd q u
    · have := hmin q hq hkq
      have this : - sd p v * nd q u ≤ - sd q v * nd p u := this
      grind
    · have h1 : nd p u * sd q v ≤ 0 := Int.mul_nonpos_of_nonneg_of_nonpos (by omega) hq0
      have h2 : - sd p v * nd q u ≤ 0 := Int.mul_nonpos_of_nonneg_of_nonpos (by omega) (by omega)
      omega
  · rw [sd_mv]; grind
theorem leV_mv {c : V3} {v : Q4} {k s : Int} {u : V3} (hd : 0 < v.2.2.2) (hk : 0 < k) (hs : 0 ≤ s) (hc : 0 ≤ cu c u) : leV c v (mv v k s u) := by
  have e : cw c (mv v k s u) * v.2.2.2 - cw c v * (mv v k s u).2.2.2 = s * cu c u * v.2.2.2 := by
    simp only [cw, mv, cu]; grind
  have := Int.mul_nonneg (Int.mul_nonneg hs hc) (Int.le_of_lt hd)
  unfold leV
  omega
theorem leV_tr {c : V3} {v w x : Q4} (h1 : 0 < v.2.2.2) (h2 : 0 < w.2.2.2) (h3 : 0 < x.2.2.2) (a : leV c v w) (b : leV c w x) : leV c v x := tr3 h1 h2 h3 a b
/-! lowest terms -/
def scl (k : Int) (v : Q4) : Q4 := (k * v.1, k * v.2.1, k * v.2.2.1, k * v.2.2.2)
theorem sd_scl (p : Pl) (k : Int) (v : Q4) : sd p (scl k v) = k * sd p v := by
  simp only [sd, scl]; grind
theorem cw_scl (c : V3) (k : Int) (v : Q4) : cw c (scl k v) = k * cw c v := by
  simp only [cw, scl]; grind
def g4 (v : Q4) : Nat := Nat.gcd (Nat.gcd v.1.natAbs v.2.1.natAbs) (Nat.gcd v.2.2.1.natAbs v.2.2.2.natAbs)
theorem g4_dvd (v : Q4) : (g4 v : Int) ∣ v.1 ∧ (g4 v : Int) ∣ v.2.1 ∧ (g4 v : Int) ∣ v.2.2.1 ∧ (g4 v : Int) ∣ v.2.2.2 := by
  have a1 : g4 v ∣ Nat.gcd v.1.natAbs v.2.1.natAbs := Nat.gcd_dvd_left _ _
  have a2 : g4 v ∣ Nat.gcd v.2.2.1.natAbs v.2.2.2.natAbs := Nat.gcd_dvd_right _ _
  refine ⟨?_, ?_, ?_, ?_⟩
  · exact Int.ofNat_dvd_left.mpr (Nat.dvd_trans a1 (Nat.gcd_dvd_left _ _))
  · exact Int.ofNat_dvd_left.mpr (Nat.dvd_trans a1 (Nat.gcd_dvd_right _ _))
  · exact Int.ofNat_dvd_left.mpr (Nat.dvd_trans a2 (Nat.gcd_dvd_left _ _))
  · exact Int.ofNat_dvd_left.mpr (Nat.dvd_trans a2 (Nat.gcd_dvd_right _ _))
theorem g4_scl (k : Nat) (v : Q4) : g4 (scl (k : Int) v) = k * g4 v := by
  unfold g4 scl
  simp only [Int.natAbs_mul, Int.natAbs_natCast, Nat.gcd_mul_left]
theorem low {v : Q4} (hd : 0 < v.2.2.2) : ∃ (k : Nat) (w : Q4), 0 < k ∧ v = scl (k : Int) w ∧ rdc w := by
  obtain ⟨⟨a, ha⟩, ⟨b, hb⟩, ⟨c, hc⟩, ⟨d, hd'⟩⟩ := g4_dvd v
  have hg : 0 < g4 v := by
    rcases Nat.eq_zero_or_pos (g4 v) with q | q
    · rw [q] at hd'
      simp at hd'
      omega
    · exact q
  have hv : v = scl (g4 v : Int) (a, b, c, d) := by
    obtain ⟨x, y, z, e⟩ := v
    simp only [scl, Prod.mk.injEq]
    exact ⟨ha, hb, hc, hd'⟩
  refine ⟨g4 v, (a, b, c, d), hg, hv, ?_, ?_⟩
  · show 0 < d
    have h1 : (0 : Int) < (g4 v : Int) := by omega
    rw [hd'] at hd
    exact Int.pos_of_mul_pos_right hd h1
  · have h1 := g4_scl (g4 v) (a, b, c, d)
    rw [← hv] at h1
    have h2 : g4 v * g4 (a, b, c, d) = g4 v * 1 := by omega
    exact Nat.eq_of_mul_eq_mul_left hg h2
/-- the same point in lowest terms is the same four numbers -/
theorem low_u {v w : Q4} (hv : rdc v) (hw : rdc w) {a b : Int} (ha : 0 < a) (hb : 0 < b) (h : scl a v = scl b w) : v = w := by
  have e1 : g4 (scl a v) = a.toNat := by
    have : scl a v = scl ((a.toNat : Nat) : Int) v := by rw [Int.toNat_of_nonneg (by omega)]
    rw [this, g4_scl, show g4 v = 1 from hv.2, Nat.mul_one]
  have e2 : g4 (scl b w) = b.toNat := by
    have : scl b w = scl ((b.toNat : Nat) : Int) w := by rw [Int.toNat_of_nonneg (by omega)]
    rw [this, g4_scl, show g4 w = 1 from hw.2, Nat.mul_one]
  rw [h, e2] at e1
  have hab : a = b := by omega
  subst hab
  obtain ⟨x, y, z, d⟩ := v
  obtain ⟨x', y', z', d'⟩ := w
  simp only [scl, Prod.mk.injEq] at h ⊢
  have ha' : a ≠ 0 := by omega
  exact ⟨Int.eq_of_mul_eq_mul_left ha' h.1, Int.eq_of_mul_eq_mul_left ha' h.2.1, Int.eq_of_mul_eq_mul_left ha' h.2.2.1, Int.eq_of_mul_eq_mul_left ha' h.2.2.2⟩
/-- a point of the crystal on three planes that are apart is a corner, in lowest terms -/
theorem crn {pl : List Pl} {v : Q4} (hv : inC pl v) {p q r : Pl} (hp : p ∈ pl) (hq : q ∈ pl) (hr : r ∈ pl) (hd : dt3 p q r ≠ 0) (ep : sd p v = 0) (eq : sd q v = 0) (er : sd r v = 0) : ∃ (k : Nat) (w : Q4), 0 < k ∧ v = scl (k : Int) w ∧ isC pl w := by
  obtain ⟨k, w, hk, e, hw⟩ := low hv.1
  have hk' : (0 : Int) < (k : Int) := by omega
  have h0 : ∀ p, sd p v = 0 → sd p w = 0 := fun p hp => by
    rw [e, sd_scl] at hp
    rcases Int.mul_eq_zero.mp hp with q | q
    · omega
    · exact q
  refine ⟨k, w, hk, e, hw, fun p hp => ?_, p, hp, q, hq, r, hr, hd, h0 p ep, h0 q eq, h0 r er⟩
  have := hv.2 p hp
  rw [e, sd_scl] at this
  rcases i_log 0 (sd p w) with q | q
  · have := Int.mul_pos hk' q; omega
  · exact q
theorem leV_scl {c : V3} {v w : Q4} {k : Nat} (hk : 0 < k) (h : leV c v (scl (k : Int) w)) : leV c v w := by
  unfold leV at h ⊢
  rw [cw_scl] at h
  have h : cw c v * ((k : Int) * w.2.2.2) ≤ (k : Int) * cw c w * v.2.2.2 := h
  exact mul_canc (k := (k : Int)) (by omega) (by grind)
/-- along a line: a corner on both planes, as far on as wished -/
theorem lpL {pl : List Pl} (hb : Bd pl) {v : Q4} (hv : inC pl v) {p q : Pl} (hp : p ∈ pl) (hq : q ∈ pl) (hw : crs (nrm p) (nrm q) ≠ (0, 0, 0)) (ep : sd p v = 0) (eq : sd q v = 0) (c : V3) : ∃ w, isC pl w ∧ sd p w = 0 ∧ sd q w = 0 ∧ leV c v w := by
  have key : ∀ u : V3, u ≠ (0, 0, 0) → nd p u = 0 → nd q u = 0 → 0 ≤ cu c u → (∀ r, 0 < nd r u → dt3 p q r ≠ 0) → ∃ w, isC pl w ∧ sd p w = 0 ∧ sd q w = 0 ∧ leV c v w := by
    intro u hu up uq hc hr3
    obtain ⟨r, hr, hk, hin, h0⟩ := push hb hv hu
    have hs : 0 ≤ - sd r v := by have := hv.2 r hr; omega
    have wp : sd p (mv v (nd r u) (- sd r v) u) = 0 := by rw [sd_mv, ep, up]; simp
    have wq : sd q (mv v (nd r u) (- sd r v) u) = 0 := by rw [sd_mv, eq, uq]; simp
    obtain ⟨k, w, hk2, e, hcw⟩ := crn hin hp hq hr (hr3 r hk) wp wq h0
    have hle := leV_mv (c := c) (v := v) (u := u) hv.1 hk hs hc
    rw [e] at hle wp wq
    rw [sd_scl] at wp wq
    refine ⟨w, hcw, ?_, ?_, leV_scl hk2 hle⟩
    · rcases Int.mul_eq_zero.mp wp with z | z
      · omega
      · exact z
    · rcases Int.mul_eq_zero.mp wq with z | z
      · omega
      · exact z
  rcases i_log (cu c (crs (nrm p) (nrm q))) 0 with h | h
  · refine key (neg3 (crs (nrm p) (nrm q))) (neg3_0 hw) ?_ ?_ ?_ ?_
    · rw [nd_neg, nd_crs1]; rfl
    · rw [nd_neg, nd_crs2]; rfl
    · rw [cu_neg]; omega
    · intro r hr
      rw [nd_neg] at hr
      rw [dt3_c]; omega
  · refine key (crs (nrm p) (nrm q)) hw (nd_crs1 p q) (nd_crs2 p q) h ?_
    intro r hr
    rw [dt3_c]; omega
theorem perp {a : V3} (h : a ≠ (0, 0, 0)) : ∃ u : V3, u ≠ (0, 0, 0) ∧ cu a u = 0 := by
  obtain ⟨x, y, z⟩ := a
  by_cases hx : x = 0
  · refine ⟨(1, 0, 0), by simp, ?_⟩
    simp [cu, hx]
  · refine ⟨(y, -x, 0), ?_, ?_⟩
    · simp only [ne_eq, Prod.mk.injEq]
      omega
    · simp only [cu]; grind
/-- on a plane: a corner on it, as far on as wished -/
theorem lpP {pl : List Pl} (hb : Bd pl) {v : Q4} (hv : inC pl v) {p : Pl} (hp : p ∈ pl) (hn : nrm p ≠ (0, 0, 0)) (ep : sd p v = 0) (c : V3) : ∃ w, isC pl w ∧ sd p w = 0 ∧ leV c v w := by
  have key : ∀ u : V3, u ≠ (0, 0, 0) → nd p u = 0 → 0 ≤ cu c u → ∃ w, isC pl w ∧ sd p w = 0 ∧ leV c v w := by
    intro u hu up hc
    obtain ⟨r, hr, hk, hin, h0⟩ := push hb hv hu
    have hs : 0 ≤ - sd r v := by have := hv.2 r hr; omega
    have wp : sd p (mv v (nd r u) (- sd r v) u) = 0 := by rw [sd_mv, ep, up]; simp
    have hw : crs (nrm p) (nrm r) ≠ (0, 0, 0) := by
      intro z
      -- r would be along p: then no way off p would meet it
      have z' : crs (nrm p) (nrm r) = (0, 0, 0) := z
      simp only [crs, Prod.mk.injEq] at z'
      have hn' : nrm p ≠ (0, 0, 0) := hn
      simp only [nrm, ne_eq, Prod.mk.injEq] at z' hn'
      simp only [nd] at up hk
      obtain ⟨z1, z2, z3⟩ := z'
      have e1 : p.1.toInt * (r.1.toInt * u.1 + r.2.1.toInt * u.2.1 + r.2.2.1.toInt * u.2.2) = 0 := by grind
      have e2 : p.2.1.toInt * (r.1.toInt * u.1 + r.2.1.toInt * u.2.1 + r.2.2.1.toInt * u.2.2) = 0 := by grind
      have e3 : p.2.2.1.toInt * (r.1.toInt * u.1 + r.2.1.toInt * u.2.1 + r.2.2.1.toInt * u.2.2) = 0 := by grind
      rcases Int.mul_eq_zero.mp e1 with a | a
      · rcases Int.mul_eq_zero.mp e2 with b | b
        · rcases Int.mul_eq_zero.mp e3 with d | d
          · exact hn' ⟨a, b, d⟩
          · omega
        · omega
      · omega
    obtain ⟨w, h1, h2, h3, h4⟩ := lpL hb hin hp hr hw wp h0 c
    exact ⟨w, h1, h2, leV_tr hv.1 hin.1 h1.1.1 (leV_mv hv.1 hk hs hc) h4⟩
  obtain ⟨u, hu, hpu⟩ := perp hn
  rcases i_log (cu c u) 0 with h | h
  · exact key (neg3 u) (neg3_0 hu) (by rw [nd_neg, nd_cu, hpu]; rfl) (by rw [cu_neg]; omega)
  · exact key u hu hpu h
/-- a corner as far on as wished -/
theorem lpC {pl : List Pl} (hb : Bd pl) (hn : ∀ p ∈ pl, nrm p ≠ (0, 0, 0)) {v : Q4} (hv : inC pl v) (c : V3) : ∃ w, isC pl w ∧ leV c v w := by
  have key : ∀ u : V3, u ≠ (0, 0, 0) → 0 ≤ cu c u → ∃ w, isC pl w ∧ leV c v w := by
    intro u hu hc
    obtain ⟨r, hr, hk, hin, h0⟩ := push hb hv hu
    have hs : 0 ≤ - sd r v := by have := hv.2 r hr; omega
    obtain ⟨w, h1, h2, h3⟩ := lpP hb hin hr (hn r hr) h0 c
    exact ⟨w, h1, leV_tr hv.1 hin.1 h1.1.1 (leV_mv hv.1 hk hs hc) h3⟩
  rcases i_log (cu c (1, 0, 0)) 0 with h | h
  · exact key (-1, 0, 0) (by simp) (by simp only [cu] at h ⊢; omega)
  · exact key (1, 0, 0) (by simp) h
/-- a way that no plane at hand bars can be gone a little -/
theorem go {pl : List Pl} {v : Q4} (hv : inC pl v) (u : V3) (h : ∀ p ∈ pl, sd p v = 0 → nd p u ≤ 0) : ∃ k : Int, 0 < k ∧ inC pl (mv v k 1 u) := by
  have hmax : ∀ l : List Pl, ∃ k : Int, 0 < k ∧ ∀ p ∈ l, nd p u ≤ k := by
    intro l
    induction l with
    | nil => exact ⟨1, by omega, fun p hp => absurd hp (by simp)⟩
    | cons a l ih =>
      obtain ⟨k, h1, h2⟩ := ih
      refine ⟨max k (nd a u), by omega, fun p hp => ?_⟩
      rcases List.mem_cons.mp hp with rfl | hp
      · omega
      · have := h2 p hp; omega
  obtain ⟨k, h1, h2⟩ := hmax pl
  refine ⟨k, h1, Int.mul_pos h1 hv.1, fun p hp => ?_⟩
  rw [sd_mv]
  have h3 := hv.2 p hp
  by_cases h4 : sd p v = 0
  · have := h p hp h4
    rw [h4]; omega
  · have h5 : sd p v ≤ -1 := by omega
    have h6 := h2 p hp
    have h7 : k * sd p v ≤ k * (-1) := Int.mul_le_mul_of_nonneg_left h5 (by omega)
    omega
