/-! as many edges as corners -/
def nB (pl : List Pl) (vs : List Q4) (p q : Nat) : Nat := (vs.filter (fun v => decide (sd (pl.getD p p0) v = 0 ∧ sd (pl.getD q p0) v = 0))).length
theorem nB_sm (pl : List Pl) (vs : List Q4) (p q : Nat) : nB pl vs p q = sm vs.length (fun j => ib (sd (pl.getD p p0) (vs.getD j q0) = 0 ∧ sd (pl.getD q p0) (vs.getD j q0) = 0)) := sm_filter q0 (fun v => sd (pl.getD p p0) v = 0 ∧ sd (pl.getD q p0) v = 0) vs _ (fun x => by simp)
theorem nB_mem {pl : List Pl} {vs : List Q4} {p q : Nat} (v : Q4) : v ∈ vs.filter (fun v => decide (sd (pl.getD p p0) v = 0 ∧ sd (pl.getD q p0) v = 0)) ↔ v ∈ vs ∧ sd (pl.getD p p0) v = 0 ∧ sd (pl.getD q p0) v = 0 := by simp
theorem nB_2 {pl : List Pl} {vs : List Q4} {p q : Nat} {v w : Q4} (hv : v ∈ vs) (hw : w ∈ vs) (hvw : v ≠ w) (e1 : sd (pl.getD p p0) v = 0) (e2 : sd (pl.getD q p0) v = 0) (e3 : sd (pl.getD p p0) w = 0) (e4 : sd (pl.getD q p0) w = 0) : 2 ≤ nB pl vs p q := by
  have hn : [v, w].Nodup := by simp [hvw]
  exact hn.length_le_of_subset (fun x hx => by
    rcases List.mem_cons.mp hx with rfl | hx
    · exact (nB_mem x).mpr ⟨hv, e1, e2⟩
    · rw [List.mem_singleton] at hx
      subst hx
      exact (nB_mem x).mpr ⟨hw, e3, e4⟩)
theorem nB_w {pl : List Pl} {vs : List Q4} (hn : vs.Nodup) {p q : Nat} (h : 2 ≤ nB pl vs p q) (v : Q4) : ∃ w ∈ vs, w ≠ v ∧ sd (pl.getD p p0) w = 0 ∧ sd (pl.getD q p0) w = 0 := by
  by_cases e : ∃ w ∈ vs, w ≠ v ∧ sd (pl.getD p p0) w = 0 ∧ sd (pl.getD q p0) w = 0
  · exact e
  exfalso
  have hf : (vs.filter (fun v => decide (sd (pl.getD p p0) v = 0 ∧ sd (pl.getD q p0) v = 0))).Nodup := List.Pairwise.filter _ hn
  have := hf.length_le_of_subset (l₂ := [v]) (fun x hx => by
    have hx := (nB_mem x).mp hx
    by_cases q1 : x = v
    · rw [q1]; simp
    · exact absurd ⟨x, hx.1, q1, hx.2⟩ e)
  unfold nB at h
  have this : _ ≤ 1 := this
  omega
theorem len3 {l : List Q4} (hn : l.Nodup) (h : 3 ≤ l.length) : ∃ a ∈ l, ∃ b ∈ l, ∃ c ∈ l, a ≠ b ∧ a ≠ c ∧ b ≠ c := by
  match l, hn, h with
  | [], _, h => simp at h
  | [_], _, h => simp at h
  | [_, _], _, h => simp at h
  | a :: b :: c :: t, hn, _ =>
    refine ⟨a, by simp, b, by simp, c, by simp, ?_⟩
    simp only [List.nodup_cons, List.mem_cons, not_or] at hn
    exact ⟨hn.1.1, hn.1.2.1, hn.2.1.1⟩
theorem shw_np {pl : List Pl} {vs : List Q4} {p q : Nat} (hsp : shw pl vs p) (hsq : shw pl vs q) (hpq : q ≠ p) {v : Q4} (hv : 0 < v.2.2.2) (e1 : sd (pl.getD p p0) v = 0) (e2 : sd (pl.getD q p0) v = 0) : crs (nrm (pl.getD p p0)) (nrm (pl.getD q p0)) ≠ (0, 0, 0) := fun z => hpq (shw_u hsp hsq (par_same hv z e1 e2)).symm
theorem cu_crs2 (n y m : V3) (h : cu n y = 0) : cu (crs n y) (crs n m) = cu n n * cu m y := by
  obtain ⟨a1, a2, a3⟩ := n
  obtain ⟨b1, b2, b3⟩ := y
  obtain ⟨c1, c2, c3⟩ := m
  simp only [cu, crs] at *
  grind
/-- along an edge to the next corner -/
theorem edge_w {pl : List Pl} (hG : Gd pl) {v : Q4} (hv : isC pl v) {P Q : Pl} (hP : P ∈ pl) (hQ : Q ∈ pl) (eP : sd P v = 0) (eQ : sd Q v = 0) {e : V3} (he : e ≠ (0, 0, 0)) (hL : crs (nrm P) (nrm Q) ≠ (0, 0, 0)) (h1 : nd P e = 0) (h2 : nd Q e = 0) (hq : ∀ q ∈ pl, sd q v = 0 → crs (nrm P) (nrm q) ≠ (0, 0, 0) → nd q e ≤ 0) : ∃ w, isC pl w ∧ w ≠ v ∧ sd P w = 0 ∧ sd Q w = 0 ∧ 0 < cu e (df v w) := by
  have hin := isC_in hv
  obtain ⟨k, hk, k1, -⟩ := go2 hin e (fun q a b => by
    by_cases c : crs (nrm P) (nrm q) = (0, 0, 0)
    · have s := par_same hin.1 c eP b
      have n := same_nd s e
      rw [h1, Int.zero_mul] at n
      rcases Int.mul_eq_zero.mp n.symm with z | z
      · omega
      · have := hG.2.2 P hP; omega
    · exact hq q a b c)
  have x1 : sd P (mv v k 1 e) = 0 := by rw [sd_mv, eP, h1]; simp
  have x2 : sd Q (mv v k 1 e) = 0 := by rw [sd_mv, eQ, h2]; simp
  obtain ⟨w, w1, w2, w3, w4⟩ := lpL hG.1 k1 hP hQ hL x1 x2 e
  have w5 := ltV_le hin.1 k1.1 w1.1.1 (ltV_mv hin.1 (by omega) (cu_pos he)) w4
  refine ⟨w, w1, fun z => ltV_df w5 (by rw [z, df_self]), w2, w3, w5⟩
/-- the other plane of an edge -/
theorem other {pl : List Pl} (hG : Gd pl) {vs : List Q4} (hn : vs.Nodup) (hvs : ∀ v, v ∈ vs ↔ isC pl v) {v w : Q4} (hv : v ∈ vs) (hw : w ∈ vs) (hvw : v ≠ w) {p : Nat} (hp : p < pl.length) (hs : shw pl vs p) {Q : Pl} (hQ : Q ∈ pl) (hL : crs (nrm (pl.getD p p0)) (nrm Q) ≠ (0, 0, 0)) (e1 : sd (pl.getD p p0) v = 0) (e2 : sd (pl.getD p p0) w = 0) (e3 : sd Q v = 0) (e4 : sd Q w = 0) : ∃ q, q < pl.length ∧ q ≠ p ∧ shw pl vs q ∧ sd (pl.getD q p0) v = 0 ∧ sd (pl.getD q p0) w = 0 ∧ ∀ r, r < pl.length → r ≠ p → shw pl vs r → sd (pl.getD r p0) v = 0 → sd (pl.getD r p0) w = 0 → r = q := by
  obtain ⟨i1, i2, a1, a2, a3, ⟨b1, b2, b3⟩, ⟨c1, c2, c3⟩, a6⟩ := pen2 hG hn hvs hv hw hvw (pD_in hp) hQ hL e1 e2 e3 e4
  rcases a6 p hp hs e1 e2 with z | z
  · refine ⟨i2, a2, fun e => a3 (by omega), c1, c2, c3, fun r r1 r2 r3 r4 r5 => ?_⟩
    rcases a6 r r1 r3 r4 r5 with y | y
    · exact absurd (by omega) r2
    · exact y
  · refine ⟨i1, a1, fun e => a3 (by omega), b1, b2, b3, fun r r1 r2 r3 r4 r5 => ?_⟩
    rcases a6 r r1 r3 r4 r5 with y | y
    · exact y
    · exact absurd (by omega) r2
theorem two_edges {pl : List Pl} (hG : Gd pl) {vs : List Q4} (hn : vs.Nodup) (hvs : ∀ v, v ∈ vs ↔ isC pl v) {p : Nat} (hp : p < pl.length) (hs : shw pl vs p) {v : Q4} (hv : v ∈ vs) (eP : sd (pl.getD p p0) v = 0) : sm pl.length (fun q => ib ((q ≠ p ∧ shw pl vs q ∧ 2 ≤ nB pl vs p q) ∧ sd (pl.getD q p0) v = 0)) = 2 := by
  have hvc := (hvs v).mp hv
  have hvd := hvc.1.1
  have hPm := pD_in hp
  have hPn := hG.2.1 _ hPm
  have hPo := hG.2.2 _ hPm
  obtain ⟨P, hPe⟩ : ∃ P, P = pl.getD p p0 := ⟨_, rfl⟩
  have h3 : 3 ≤ nOE vs P := by rw [hPe]; exact hs.1
  rw [← hPe] at hPm hPn hPo eP
  obtain ⟨a, a1, a2, a3, -⟩ := third hn h3 v v
  obtain ⟨b, b1, b2, b3, b4⟩ := third hn h3 v a
  have hac := (hvs a).mp a1
  have hbc := (hvs b).mp b1
  -- a way into the plane
  obtain ⟨y, hy⟩ : ∃ y, y = lc 1 1 (df v a) (df v b) := ⟨_, rfl⟩
  have Py : nd P y = 0 := by rw [hy, nd_lc, nd_on eP a2, nd_on eP b2]; rfl
  have yq : ∀ q ∈ pl, sd q v = 0 → crs (nrm P) (nrm q) ≠ (0, 0, 0) → nd q y < 0 := fun q q1 q2 q3 => by
    rw [hy, nd_lc]
    have c1 := nd_dfv q1 hvd q2 (isC_in hac)
    have c2 := nd_dfv q1 hvd q2 (isC_in hbc)
    rcases (show 1 * nd q (df v a) + 1 * nd q (df v b) < 0 ∨ (nd q (df v a) = 0 ∧ nd q (df v b) = 0) by omega) with z | z
    · exact z
    · exact (line3 q3 hvc hac hbc eP q2 a2 (on_nd hvd q2 z.1) b2 (on_nd hvd q2 z.2) (fun e => a3 e.symm) (fun e => b3 e.symm) (fun e => b4 e.symm)).elim
  have hm : ∀ q, q ∈ pl.filter (fun q => decide (sd q v = 0 ∧ crs (nrm P) (nrm q) ≠ (0, 0, 0))) ↔ q ∈ pl ∧ sd q v = 0 ∧ crs (nrm P) (nrm q) ≠ (0, 0, 0) := fun q => by simp
  have hne : pl.filter (fun q => decide (sd q v = 0 ∧ crs (nrm P) (nrm q) ≠ (0, 0, 0))) ≠ [] := by
    intro z
    have all : ∀ q ∈ pl, sd q v = 0 → nd q (df v a) = 0 := fun q q1 q2 => by
      by_cases c : crs (nrm P) (nrm q) = (0, 0, 0)
      · have s := par_same hvd c eP q2
        exact nd_on q2 ((same_0 hPo (hG.2.2 q q1) s a).mp a2)
      · have := (hm q).mpr ⟨q1, q2, c⟩
        rw [z] at this
        simp at this
    obtain ⟨-, -, x1, y1, x2, y2, x3, y3, hd, z1, z2, z3⟩ := hvc
    exact a3 (df_0 ((hvs v).mp hv).1 hac.1 (u_0 hd (all x1 y1 z1) (all x2 y2 z2) (all x3 y3 z3))).symm
  have Py' : cu (neg3 (nrm P)) y = 0 := by rw [cu_neg1]; show - nd P y = 0; rw [Py]; rfl
  obtain ⟨Q1, m1, f1⟩ := axis hne (nrm P) y Py (fun q h => yq q ((hm q).mp h).1 ((hm q).mp h).2.1 ((hm q).mp h).2.2)
  obtain ⟨Q2, m2, f2⟩ := axis hne (neg3 (nrm P)) y Py' (fun q h => yq q ((hm q).mp h).1 ((hm q).mp h).2.1 ((hm q).mp h).2.2)
  obtain ⟨m11, m12, m13⟩ := (hm Q1).mp m1
  obtain ⟨m21, m22, m23⟩ := (hm Q2).mp m2
  have f2' : ∀ q ∈ pl, sd q v = 0 → crs (nrm P) (nrm q) ≠ (0, 0, 0) → 0 ≤ nd q (crs (nrm P) (nrm Q2)) := fun q q1 q2 q3 => by
    have := f2 q ((hm q).mpr ⟨q1, q2, q3⟩)
    rw [crs_neg, nd_neg] at this
    omega
  obtain ⟨w1, w11, w12, w13, w14, w15⟩ := edge_w hG hvc hPm m11 eP m12 m13 m13 (nd_crs1 P Q1) (nd_crs2 P Q1) (fun q q1 q2 q3 => f1 q ((hm q).mpr ⟨q1, q2, q3⟩))
  obtain ⟨w2, w21, w22, w23, w24, w25⟩ := edge_w hG hvc hPm m21 eP m22 (neg3_0 m23) m23 (by rw [nd_neg, nd_crs1]; rfl) (by rw [nd_neg, nd_crs2]; rfl) (fun q q1 q2 q3 => by rw [nd_neg]; have := f2' q q1 q2 q3; omega)
  rw [cu_neg1] at w25
  have hw1 := (hvs w1).mpr w11
  have hw2 := (hvs w2).mpr w21
  -- they lie on two sides
  have c1 : cu (crs (nrm P) y) (df v w1) < 0 := by
    have k := v3_line (nrm P) (nrm Q1) (crs (nrm P) y) (df v w1) (nd_on eP w13) (nd_on m12 w14)
    rw [cu_crs2 (nrm P) y _ Py] at k
    have z := Int.mul_neg_of_pos_of_neg (cu_pos hPn) (yq Q1 m11 m12 m13)
    have z2 := Int.mul_neg_of_pos_of_neg w15 z
    rcases i_log (cu (crs (nrm P) y) (df v w1)) 0 with q | q
    · exact q
    · have := Int.mul_nonneg q (Int.le_of_lt (cu_pos m13))
      have z2 : cu (crs (nrm P) (nrm Q1)) (df v w1) * (cu (nrm P) (nrm P) * cu (nrm Q1) y) < 0 := z2
      omega
  have c2 : 0 < cu (crs (nrm P) y) (df v w2) := by
    have k := v3_line (nrm P) (nrm Q2) (crs (nrm P) y) (df v w2) (nd_on eP w23) (nd_on m22 w24)
    rw [cu_crs2 (nrm P) y _ Py] at k
    have z := Int.mul_neg_of_pos_of_neg (cu_pos hPn) (yq Q2 m21 m22 m23)
    have z2 : 0 < cu (crs (nrm P) (nrm Q2)) (df v w2) * (cu (nrm P) (nrm P) * cu (nrm Q2) y) := Int.mul_pos_of_neg_of_neg (by omega) z
    rcases i_log 0 (cu (crs (nrm P) y) (df v w2)) with q | q
    · exact q
    · have := Int.mul_nonpos_of_nonpos_of_nonneg q (Int.le_of_lt (cu_pos m23))
      omega
  have hw12 : w1 ≠ w2 := fun e => by rw [e] at c1; omega
  obtain ⟨q1, r1, r2, r3, r4, r5, r6⟩ := other hG hn hvs hv hw1 (fun e => w12 e.symm) hp hs m11 (by rw [← hPe]; exact m13) (by rw [← hPe]; exact eP) (by rw [← hPe]; exact w13) m12 w14
  obtain ⟨q2, s1, s2, s3, s4, s5, s6⟩ := other hG hn hvs hv hw2 (fun e => w22 e.symm) hp hs m21 (by rw [← hPe]; exact m23) (by rw [← hPe]; exact eP) (by rw [← hPe]; exact w23) m22 w24
  have hq12 : q1 ≠ q2 := fun e => by
    rw [← e] at s4 s5
    have np := shw_np hs r3 r2 hvd (by rw [← hPe]; exact eP) r4
    rw [← hPe] at np
    exact line3 np hvc w11 w21 eP r4 w13 r5 w23 s5 (fun e => w12 e.symm) (fun e => w22 e.symm) hw12
  have fin := sm_2 (f := fun q => ib ((q ≠ p ∧ shw pl vs q ∧ 2 ≤ nB pl vs p q) ∧ sd (pl.getD q p0) v = 0)) r1 s1 hq12 (fun q hq n1 n2 => ib_0 (fun h => by
    obtain ⟨⟨t1, t2, t3⟩, t4⟩ := h
    obtain ⟨w, u1, u2, u3, u4⟩ := nB_w hn t3 v
    have hwc := (hvs w).mp u1
    have np := shw_np hs t2 t1 hvd (by rw [← hPe]; exact eP) t4
    rw [← hPe] at np u3
    have hRm := pD_in hq
    have vw : v ≠ w := fun e => u2 e.symm
    have tne := line_ne np hvc.1 hwc.1 vw eP t4 u3 u4
    have kk := fun r : Pl => lineK r (nd_on eP u3) (nd_on t4 u4)
    have LL := cu_pos np
    rcases (show 0 < cu (crs (nrm P) (nrm (pl.getD q p0))) (df v w) ∨ cu (crs (nrm P) (nrm (pl.getD q p0))) (df v w) < 0 by omega) with z | z
    · have x1 := f1 (pl.getD q p0) ((hm _).mpr ⟨hRm, t4, np⟩)
      rw [nd_cu, cu_anti] at x1
      have x2 := nd_dfv m11 hvd m12 (isC_in hwc)
      have x3 := kk Q1
      have x4 := Int.mul_nonpos_of_nonpos_of_nonneg x2 (Int.le_of_lt LL)
      have x5 : nd Q1 (crs (nrm P) (nrm (pl.getD q p0))) = 0 := by
        rcases i_log 0 (nd Q1 (crs (nrm P) (nrm (pl.getD q p0)))) with y1 | y1
        · have := Int.mul_pos z y1; omega
        · have x1 : - nd Q1 (crs (nrm P) (nrm (pl.getD q p0))) ≤ 0 := x1
          omega
      rw [x5, Int.mul_zero] at x3
      have x6 : sd Q1 w = 0 := by
        rcases Int.mul_eq_zero.mp x3 with y1 | y1
        · exact on_nd hvd m12 y1
        · omega
      have x7 : w = w1 := by
        by_cases e : w = w1
        · exact e
        · exact (line3 m13 hvc hwc w11 eP m12 u3 x6 w13 w14 vw (fun e => w12 e.symm) e).elim
      rw [x7] at u4
      exact n1 (r6 q hq t1 t2 t4 u4)
    · have x1 := f2' (pl.getD q p0) hRm t4 np
      rw [nd_cu, cu_anti] at x1
      have x2 := nd_dfv m21 hvd m22 (isC_in hwc)
      have x3 := kk Q2
      have x4 := Int.mul_nonpos_of_nonpos_of_nonneg x2 (Int.le_of_lt LL)
      have x5 : nd Q2 (crs (nrm P) (nrm (pl.getD q p0))) = 0 := by
        rcases i_log (nd Q2 (crs (nrm P) (nrm (pl.getD q p0)))) 0 with y1 | y1
        · have := Int.mul_pos_of_neg_of_neg z y1; omega
        · have x1 : 0 ≤ - nd Q2 (crs (nrm P) (nrm (pl.getD q p0))) := x1
          omega
      rw [x5, Int.mul_zero] at x3
      have x6 : sd Q2 w = 0 := by
        rcases Int.mul_eq_zero.mp x3 with y1 | y1
        · exact on_nd hvd m22 y1
        · omega
      have x7 : w = w2 := by
        by_cases e : w = w2
        · exact e
        · exact (line3 m23 hvc hwc w21 eP m22 u3 x6 w23 w24 vw (fun e => w22 e.symm) e).elim
      rw [x7] at u4
      exact n2 (s6 q hq t1 t2 t4 u4)))
  rw [fin, ib_1 ⟨⟨r2, r3, nB_2 hv hw1 (fun e => w12 e.symm) (by rw [← hPe]; exact eP) r4 (by rw [← hPe]; exact w13) r5⟩, r4⟩, ib_1 ⟨⟨s2, s3, nB_2 hv hw2 (fun e => w22 e.symm) (by rw [← hPe]; exact eP) s4 (by rw [← hPe]; exact w23) s5⟩, s4⟩]
/-- a plane that shows has as many edges as corners -/
theorem edges_p {pl : List Pl} (hG : Gd pl) {vs : List Q4} (hn : vs.Nodup) (hvs : ∀ v, v ∈ vs ↔ isC pl v) {p : Nat} (hp : p < pl.length) (hs : shw pl vs p) : sm pl.length (fun q => ib (q ≠ p ∧ shw pl vs q ∧ 2 ≤ nB pl vs p q)) = nOn pl vs p := by
  have m2 : ∀ n f, sm n (fun j => 2 * f j) = 2 * sm n f := fun n f => by
    rw [sm_eq (g := fun j => f j + f j) (fun j _ => by omega), sm_add]; omega
  have h1 : sm pl.length (fun q => sm vs.length (fun j => ib ((q ≠ p ∧ shw pl vs q ∧ 2 ≤ nB pl vs p q) ∧ sd (pl.getD p p0) (vs.getD j q0) = 0 ∧ sd (pl.getD q p0) (vs.getD j q0) = 0))) = 2 * sm pl.length (fun q => ib (q ≠ p ∧ shw pl vs q ∧ 2 ≤ nB pl vs p q)) := by
    rw [← m2]
    refine sm_eq (fun q hq => ?_)
    by_cases e : q ≠ p ∧ shw pl vs q ∧ 2 ≤ nB pl vs p q
    · rw [ib_1 e]
      have : sm vs.length (fun j => ib ((q ≠ p ∧ shw pl vs q ∧ 2 ≤ nB pl vs p q) ∧ sd (pl.getD p p0) (vs.getD j q0) = 0 ∧ sd (pl.getD q p0) (vs.getD j q0) = 0)) = nB pl vs p q := by
        exact Eq.trans (sm_eq (fun j _ => ib_c ⟨fun h => h.2, fun h => ⟨e, h⟩⟩)) (nB_sm pl vs p q).symm
      rw [this]
      rcases Nat.lt_or_ge 2 (nB pl vs p q) with z | z
      · exfalso
        have hf : (vs.filter (fun v => decide (sd (pl.getD p p0) v = 0 ∧ sd (pl.getD q p0) v = 0))).Nodup := List.Pairwise.filter _ hn
        obtain ⟨a, ha, b, hb, c, hc, hab, hac, hbc⟩ := len3 hf z
        have ha := (nB_mem a).mp ha
        have hb := (nB_mem b).mp hb
        have hc := (nB_mem c).mp hc
        have hA := (hvs a).mp ha.1
        exact line3 (shw_np hs e.2.1 e.1 hA.1.1 ha.2.1 ha.2.2) hA ((hvs b).mp hb.1) ((hvs c).mp hc.1) ha.2.1 ha.2.2 hb.2.1 hb.2.2 hc.2.1 hc.2.2 hab hac hbc
      · have := e.2.2
        omega
    · rw [ib_0 e, sm_0 (fun j _ => ib_0 (fun h => e h.1))]
  have h2 : sm pl.length (fun q => sm vs.length (fun j => ib ((q ≠ p ∧ shw pl vs q ∧ 2 ≤ nB pl vs p q) ∧ sd (pl.getD p p0) (vs.getD j q0) = 0 ∧ sd (pl.getD q p0) (vs.getD j q0) = 0))) = 2 * nOn pl vs p := by
    rw [sm_comm, nOn_E, nOE_sm, ← m2]
    refine sm_eq (fun j hj => ?_)
    by_cases e : sd (pl.getD p p0) (vs.getD j q0) = 0
    · rw [ib_1 e]
      have t := two_edges hG hn hvs hp hs (vD_mem hj) e
      exact Eq.trans (sm_eq (fun q _ => ib_c ⟨fun h => ⟨h.1, h.2.2⟩, fun h => ⟨h.1, e, h.2⟩⟩)) t
    · rw [ib_0 e, sm_0 (fun q _ => ib_0 (fun h => e h.2.1))]
  omega
