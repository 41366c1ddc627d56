/-! CORNERS as a list -/
theorem lt_as {v w : Q4} (h : ltQ v w) : ¬ ltQ w v := by
  intro k
  unfold ltQ at h k
  omega
theorem lt_ir (v : Q4) : ¬ ltQ v v := fun h => lt_as h h
theorem lt_tri {v w : Q4} (hv : rdc v) (hw : rdc w) (h1 : ¬ ltQ v w) (h2 : ¬ ltQ w v) : v = w := by
  refine df_0 hv hw ?_
  unfold ltQ at h1 h2
  simp only [df, Prod.mk.injEq]
  omega
theorem m_lt {a b k : Int} (hk : 0 < k) (h : a < b) : a * k < b * k := Int.mul_lt_mul_of_pos_right h hk
theorem lt_tr {u v w : Q4} (hu : 0 < u.2.2.2) (hv : 0 < v.2.2.2) (hw : 0 < w.2.2.2) (h : ltQ u v) (k : ltQ v w) : ltQ u w := by
  have cmp : ∀ a b c : Int, (a * v.2.2.2 < b * u.2.2.2 → b * w.2.2.2 ≤ c * v.2.2.2 → a * w.2.2.2 < c * u.2.2.2) ∧ (a * v.2.2.2 ≤ b * u.2.2.2 → b * w.2.2.2 < c * v.2.2.2 → a * w.2.2.2 < c * u.2.2.2) ∧ (a * v.2.2.2 = b * u.2.2.2 → b * w.2.2.2 = c * v.2.2.2 → a * w.2.2.2 = c * u.2.2.2) := fun a b c => by
    refine ⟨fun x y => ?_, fun x y => ?_, fun x y => ?_⟩
    · have e1 := m_lt hw x
      have e2 : b * w.2.2.2 * u.2.2.2 ≤ c * v.2.2.2 * u.2.2.2 := Int.mul_le_mul_of_nonneg_right y (by omega)
      have e3 : a * w.2.2.2 * v.2.2.2 < c * u.2.2.2 * v.2.2.2 := by grind
      exact Int.lt_of_mul_lt_mul_right e3 (by omega)
    · have e1 : a * v.2.2.2 * w.2.2.2 ≤ b * u.2.2.2 * w.2.2.2 := Int.mul_le_mul_of_nonneg_right x (by omega)
      have e2 := m_lt hu y
      have e3 : a * w.2.2.2 * v.2.2.2 < c * u.2.2.2 * v.2.2.2 := by grind
      exact Int.lt_of_mul_lt_mul_right e3 (by omega)
    · exact eq_canc hv (by grind)
  have X := cmp u.1 v.1 w.1
  have Y := cmp u.2.1 v.2.1 w.2.1
  have Z := cmp u.2.2.1 v.2.2.1 w.2.2.1
  unfold ltQ at h k ⊢
  rcases h with h | ⟨h, h'⟩
  · rcases k with k | ⟨k, k'⟩
    · exact Or.inl (X.1 h (by omega))
    · exact Or.inl (X.1 h (by omega))
  · rcases k with k | ⟨k, k'⟩
    · exact Or.inl (X.2.1 (by omega) k)
    · refine Or.inr ⟨X.2.2 h k, ?_⟩
      rcases h' with h' | ⟨h', h''⟩
      · rcases k' with k' | ⟨k', k''⟩
        · exact Or.inl (Y.1 h' (by omega))
        · exact Or.inl (Y.1 h' (by omega))
      · rcases k' with k' | ⟨k', k''⟩
        · exact Or.inl (Y.2.1 (by omega) k')
        · exact Or.inr ⟨Y.2.2 h' k', Z.1 h'' (by omega)⟩
theorem srt_nd {vs : List Q4} (h : vs.Pairwise ltQ) : vs.Nodup := h.imp (fun {a b} hab e => by rw [e] at hab; exact lt_ir b hab)
/-- in order, and the same: one list -/
theorem srt_u : ∀ {vs ws : List Q4}, vs.Pairwise ltQ → ws.Pairwise ltQ → (∀ v, v ∈ vs ↔ v ∈ ws) → vs = ws
  | [], [], _, _, _ => rfl
  | [], b :: ws, _, _, h => absurd ((h b).mpr (by simp)) (by simp)
  | a :: vs, [], _, _, h => absurd ((h a).mp (by simp)) (by simp)
  | a :: vs, b :: ws, h1, h2, h => by
    rw [List.pairwise_cons] at h1 h2
    have hab : a = b := by
      by_cases e : a = b
      · exact e
      · have ha : a ∈ ws := by
          rcases List.mem_cons.mp ((h a).mp (by simp)) with q | q
          · exact absurd q e
          · exact q
        have hb : b ∈ vs := by
          rcases List.mem_cons.mp ((h b).mpr (by simp)) with q | q
          · exact absurd q.symm e
          · exact q
        exact absurd (h1.1 b hb) (lt_as (h2.1 a ha))
    subst hab
    rw [srt_u h1.2 h2.2 (fun v => ?_)]
    constructor
    · intro hv
      rcases List.mem_cons.mp ((h v).mp (List.mem_cons_of_mem _ hv)) with q | q
      · rw [q] at hv; exact absurd (h1.1 a hv) (lt_ir a)
      · exact q
    · intro hv
      rcases List.mem_cons.mp ((h v).mpr (List.mem_cons_of_mem _ hv)) with q | q
      · rw [q] at hv; exact absurd (h2.1 a hv) (lt_ir a)
      · exact q
theorem crn_one {pl : List Pl} {vs ws : List Q4} (h : IsCrn pl vs) (k : IsCrn pl ws) : vs = ws := srt_u h.1 k.1 (fun v => by rw [h.2, k.2])
def ins (k : Nat) (v : Q4) (vs : List Q4) : List Q4 := vs.take k ++ v :: vs.drop k
theorem ins_len {k : Nat} {v : Q4} {vs : List Q4} : (ins k v vs).length = vs.length + 1 := by
  unfold ins
  rw [List.length_append, List.length_cons, List.length_take, List.length_drop]
  omega
theorem ins_mem {k : Nat} {v w : Q4} {vs : List Q4} : w ∈ ins k v vs ↔ w = v ∨ w ∈ vs := by
  unfold ins
  rw [List.mem_append, List.mem_cons]
  have e : w ∈ vs ↔ w ∈ vs.take k ∨ w ∈ vs.drop k := by rw [← List.mem_append, List.take_append_drop]
  rw [e]
  constructor
  · rintro (h | h | h)
    · exact Or.inr (Or.inl h)
    · exact Or.inl h
    · exact Or.inr (Or.inr h)
  · rintro (h | h | h)
    · exact Or.inr (Or.inl h)
    · exact Or.inl h
    · exact Or.inr (Or.inr h)
theorem ins_D {k : Nat} {v : Q4} {vs : List Q4} (hk : k ≤ vs.length) (j : Nat) : (ins k v vs).getD j q0 = if j < k then vs.getD j q0 else if j = k then v else vs.getD (j - 1) q0 := by
  unfold ins
  rw [List.getD_eq_getElem?_getD, List.getElem?_append, List.length_take, Nat.min_eq_left hk]
  by_cases h : j < k
  · rw [if_pos h, if_pos h, List.getElem?_take, if_pos h, List.getD_eq_getElem?_getD]
  · rw [if_neg h, if_neg h]
    by_cases e : j = k
    · rw [if_pos e, e, Nat.sub_self]; rfl
    · rw [if_neg e, show j - k = (j - 1 - k) + 1 by omega, List.getElem?_cons_succ, List.getElem?_drop, show k + (j - 1 - k) = j - 1 by omega, List.getD_eq_getElem?_getD]
theorem ins_s {k : Nat} {v : Q4} {vs : List Q4} (h : vs.Pairwise ltQ) (h1 : ∀ j, j < k → j < vs.length → ltQ (vs.getD j q0) v) (h2 : ∀ j, k ≤ j → j < vs.length → ltQ v (vs.getD j q0)) : (ins k v vs).Pairwise ltQ := by
  unfold ins
  have h0 := h
  rw [← List.take_append_drop k vs, List.pairwise_append] at h0
  have ht : ∀ a ∈ vs.take k, ltQ a v := fun a ha => by
    obtain ⟨j, hj, e⟩ := List.mem_iff_getElem.mp ha
    rw [List.length_take] at hj
    rw [List.getElem_take] at e
    have := h1 j (by omega) (by omega)
    rw [List.getD_eq_getElem?_getD, List.getElem?_eq_getElem (by omega)] at this
    rw [← e]; exact this
  have hd : ∀ a ∈ vs.drop k, ltQ v a := fun a ha => by
    obtain ⟨j, hj, e⟩ := List.mem_iff_getElem.mp ha
    rw [List.length_drop] at hj
    rw [List.getElem_drop] at e
    have := h2 (k + j) (by omega) (by omega)
    rw [List.getD_eq_getElem?_getD, List.getElem?_eq_getElem (by omega)] at this
    rw [← e]; exact this
  rw [List.pairwise_append, List.pairwise_cons]
  refine ⟨h0.1, ⟨hd, h0.2.1⟩, fun a ha b hb => ?_⟩
  rcases List.mem_cons.mp hb with q | q
  · rw [q]; exact ht a ha
  · exact h0.2.2 a ha b q
theorem srt_lt {vs : List Q4} (h : vs.Pairwise ltQ) {i j : Nat} (hij : i < j) (hj : j < vs.length) : ltQ (vs.getD i q0) (vs.getD j q0) := by
  rw [List.getD_eq_getElem?_getD, List.getElem?_eq_getElem (by omega), List.getD_eq_getElem?_getD, List.getElem?_eq_getElem hj]
  exact List.pairwise_iff_getElem.mp h i j (by omega) hj hij
/-! how large a corner's numbers are -/
def bQ (v : Q4) : Prop := (0 < v.2.2.2 ∧ v.2.2.2 ≤ 162) ∧ v.1.natAbs ≤ 9720 ∧ v.2.1.natAbs ≤ 9720 ∧ v.2.2.1.natAbs ≤ 9720
/-- good planes, the box among them -/
def Bx (pl : List Pl) : Prop := (∀ p ∈ pl, okP p) ∧ ∀ j, j < 6 → ∃ o : Int32, (1 ≤ o.toInt ∧ o.toInt ≤ 60) ∧ ((bxs.getD j (0, 0, 0)).1, (bxs.getD j (0, 0, 0)).2.1, (bxs.getD j (0, 0, 0)).2.2, o) ∈ pl
theorem okL_Bx {pl : List Pl} (ok : okL pl) : Bx pl := ⟨ok.2.2.1, fun j hj => box_in ok hj⟩
theorem okP_b {p : Pl} (h : okP p) : bI p.1 p.1.toInt 3 ∧ bI p.2.1 p.2.1.toInt 3 ∧ bI p.2.2.1 p.2.2.1.toInt 3 ∧ bI p.2.2.2 p.2.2.2.toInt 60 := by
  obtain ⟨⟨a1, a2⟩, ⟨b1, b2⟩, ⟨c1, c2⟩, -, o1, o2⟩ := h
  exact ⟨b_of _ (by omega) (by omega), b_of _ (by omega) (by omega), b_of _ (by omega) (by omega), b_of _ (by omega) (by omega)⟩
theorem na_mul {a b : Int} {B C : Nat} (ha : a.natAbs ≤ B) (hb : b.natAbs ≤ C) : (a * b).natAbs ≤ B * C := by rw [Int.natAbs_mul]; exact Nat.mul_le_mul ha hb
theorem na_add {a b : Int} {B C : Nat} (ha : a.natAbs ≤ B) (hb : b.natAbs ≤ C) : (a + b).natAbs ≤ B + C := by omega
theorem na_sub {a b : Int} {B C : Nat} (ha : a.natAbs ≤ B) (hb : b.natAbs ≤ C) : (a - b).natAbs ≤ B + C := by omega
theorem dt3_bd {p q r : Pl} (hp : okP p) (hq : okP q) (hr : okP r) : (dt3 p q r).natAbs ≤ 162 := by
  obtain ⟨a1, a2, a3, -⟩ := okP_b hp
  obtain ⟨b1, b2, b3, -⟩ := okP_b hq
  obtain ⟨c1, c2, c3, -⟩ := okP_b hr
  unfold dt3
  exact na_add (na_sub (na_mul a1.2 (na_sub (na_mul b2.2 c3.2) (na_mul b3.2 c2.2))) (na_mul a2.2 (na_sub (na_mul b1.2 c3.2) (na_mul b3.2 c1.2)))) (na_mul a3.2 (na_sub (na_mul b1.2 c2.2) (na_mul b2.2 c1.2)))
/-- where three planes meet: three determinants above one -/
def dX (p q r : Pl) : Int := p.2.2.2.toInt * (q.2.1.toInt * r.2.2.1.toInt - q.2.2.1.toInt * r.2.1.toInt) - p.2.1.toInt * (q.2.2.2.toInt * r.2.2.1.toInt - q.2.2.1.toInt * r.2.2.2.toInt) + p.2.2.1.toInt * (q.2.2.2.toInt * r.2.1.toInt - q.2.1.toInt * r.2.2.2.toInt)
def dY (p q r : Pl) : Int := p.1.toInt * (q.2.2.2.toInt * r.2.2.1.toInt - q.2.2.1.toInt * r.2.2.2.toInt) - p.2.2.2.toInt * (q.1.toInt * r.2.2.1.toInt - q.2.2.1.toInt * r.1.toInt) + p.2.2.1.toInt * (q.1.toInt * r.2.2.2.toInt - q.2.2.2.toInt * r.1.toInt)
def dZ (p q r : Pl) : Int := p.1.toInt * (q.2.1.toInt * r.2.2.2.toInt - q.2.2.2.toInt * r.2.1.toInt) - p.2.1.toInt * (q.1.toInt * r.2.2.2.toInt - q.2.2.2.toInt * r.1.toInt) + p.2.2.2.toInt * (q.1.toInt * r.2.1.toInt - q.2.1.toInt * r.1.toInt)
def mt (p q r : Pl) : Q4 := (dX p q r, dY p q r, dZ p q r, dt3 p q r)
theorem mt_0 (p q r : Pl) : sd p (mt p q r) = 0 ∧ sd q (mt p q r) = 0 ∧ sd r (mt p q r) = 0 := by
  simp only [sd, mt, dX, dY, dZ, dt3]
  refine ⟨by grind, by grind, by grind⟩
/-- the four with the lower one above 0 -/
def mtp (p q r : Pl) : Q4 := if 0 < dt3 p q r then mt p q r else scl (-1) (mt p q r)
theorem mtp_0 (p q r : Pl) : sd p (mtp p q r) = 0 ∧ sd q (mtp p q r) = 0 ∧ sd r (mtp p q r) = 0 := by
  obtain ⟨a, b, c⟩ := mt_0 p q r
  unfold mtp
  by_cases h : 0 < dt3 p q r
  · rw [if_pos h]; exact ⟨a, b, c⟩
  · rw [if_neg h, sd_scl, sd_scl, sd_scl, a, b, c]
    exact ⟨rfl, rfl, rfl⟩
theorem mtp_d {p q r : Pl} (h : dt3 p q r ≠ 0) : 0 < (mtp p q r).2.2.2 ∧ (mtp p q r).2.2.2.natAbs = (dt3 p q r).natAbs := by
  unfold mtp
  by_cases k : 0 < dt3 p q r
  · rw [if_pos k]; exact ⟨k, rfl⟩
  · rw [if_neg k]
    show 0 < -1 * dt3 p q r ∧ (-1 * dt3 p q r).natAbs = (dt3 p q r).natAbs
    omega
theorem crn_mt {p q r : Pl} {v : Q4} (hv : rdc v) (hd : dt3 p q r ≠ 0) (ep : sd p v = 0) (eq : sd q v = 0) (er : sd r v = 0) : 0 < g4 (mtp p q r) ∧ mtp p q r = scl (g4 (mtp p q r) : Int) v := by
  obtain ⟨m1, m2⟩ := mtp_d hd
  obtain ⟨w, w1, w2, w3⟩ := low4 m1
  obtain ⟨a, b, c⟩ := mtp_0 p q r
  have h0 : ∀ s : Pl, sd s (mtp p q r) = 0 → sd s w = 0 := fun s hs => by
    rw [w2, sd_scl] at hs
    rcases Int.mul_eq_zero.mp hs with z | z
    · omega
    · exact z
  have e := crn_u hv w3 hd ep eq er (h0 p a) (h0 q b) (h0 r c)
  rw [e]
  exact ⟨w1, w2⟩
theorem isC_bQ {pl : List Pl} (hb : Bx pl) {v : Q4} (h : isC pl v) : bQ v := by
  obtain ⟨h1, h2, p, hp, q, hq, r, hr, hd, ep, eq, er⟩ := h
  obtain ⟨g1, g2⟩ := crn_mt h1 hd ep eq er
  have hD := dt3_bd (hb.1 p hp) (hb.1 q hq) (hb.1 r hr)
  have m2 := (mtp_d hd).2
  have e4 : (mtp p q r).2.2.2 = (g4 (mtp p q r) : Int) * v.2.2.2 := congrArg (fun x : Q4 => x.2.2.2) g2
  have hd0 := h1.1
  have dle : v.2.2.2 ≤ 162 := by
    rw [e4, Int.natAbs_mul] at m2
    have : 1 * v.2.2.2.natAbs ≤ ((g4 (mtp p q r) : Nat) : Int).natAbs * v.2.2.2.natAbs := Nat.mul_le_mul_right _ (by omega)
    omega
  have t1 : (1 : Int32).toInt = 1 := by decide
  have t2 : (-1 : Int32).toInt = -1 := by decide
  have t0 : (0 : Int32).toInt = 0 := by decide
  have od : ∀ o : Int32, (1 ≤ o.toInt ∧ o.toInt ≤ 60) → o.toInt * v.2.2.2 ≤ 9720 := fun o ho => by
    have a1 : o.toInt * v.2.2.2 ≤ 60 * v.2.2.2 := Int.mul_le_mul_of_nonneg_right ho.2 (by omega)
    omega
  obtain ⟨o0, k0, b0⟩ := hb.2 0 (by omega)
  obtain ⟨o1, k1, b1⟩ := hb.2 1 (by omega)
  obtain ⟨o2, k2, b2⟩ := hb.2 2 (by omega)
  obtain ⟨o3, k3, b3⟩ := hb.2 3 (by omega)
  obtain ⟨o4, k4, b4⟩ := hb.2 4 (by omega)
  obtain ⟨o5, k5, b5⟩ := hb.2 5 (by omega)
  have x0 := h2 _ b0
  have x1 := h2 _ b1
  have x2 := h2 _ b2
  have x3 := h2 _ b3
  have x4 := h2 _ b4
  have x5 := h2 _ b5
  have y0 := od o0 k0
  have y1 := od o1 k1
  have y2 := od o2 k2
  have y3 := od o3 k3
  have y4 := od o4 k4
  have y5 := od o5 k5
  simp only [sd, bxs, List.getD_cons_zero, List.getD_cons_succ, t1, t2, t0] at x0 x1 x2 x3 x4 x5
  refine ⟨⟨hd0, dle⟩, ?_, ?_, ?_⟩ <;> omega
