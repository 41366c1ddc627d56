/-! planes that are the same -/
def Gd (pl : List Pl) : Prop := Bd pl ∧ (∀ p ∈ pl, nrm p ≠ (0, 0, 0)) ∧ ∀ p ∈ pl, 0 < p.2.2.2.toInt
def nOE (vs : List Q4) (P : Pl) : Nat := (vs.filter (fun v => decide (sd P v = 0))).length
theorem nOn_E (pl : List Pl) (vs : List Q4) (p : Nat) : nOn pl vs p = nOE vs (pl.getD p p0) := rfl
theorem same_sd {p q : Pl} (h : same p q) (v : Q4) : sd p v * q.2.2.2.toInt = sd q v * p.2.2.2.toInt := by
  obtain ⟨h1, h2, h3⟩ := h
  simp only [sd]
  grind
theorem same_nd {p q : Pl} (h : same p q) (u : V3) : nd p u * q.2.2.2.toInt = nd q u * p.2.2.2.toInt := by
  obtain ⟨h1, h2, h3⟩ := h
  simp only [nd]
  grind
theorem same_sy {p q : Pl} (h : same p q) : same q p := ⟨h.1.symm, h.2.1.symm, h.2.2.symm⟩
theorem same_rf (p : Pl) : same p p := ⟨rfl, rfl, rfl⟩
theorem eq_canc {a b k : Int} (hk : 0 < k) (h : a * k = b * k) : a = b := Int.eq_of_mul_eq_mul_right (by omega) h
theorem same_tr {p q r : Pl} (hq : 0 < q.2.2.2.toInt) (h1 : same p q) (h2 : same q r) : same p r := by
  obtain ⟨a1, a2, a3⟩ := h1
  obtain ⟨b1, b2, b3⟩ := h2
  refine ⟨eq_canc hq ?_, eq_canc hq ?_, eq_canc hq ?_⟩ <;> grind
theorem same_0 {p q : Pl} (hp : 0 < p.2.2.2.toInt) (hq : 0 < q.2.2.2.toInt) (h : same p q) (v : Q4) : sd p v = 0 ↔ sd q v = 0 := by
  have e := same_sd h v
  constructor
  · intro z
    rw [z, Int.zero_mul] at e
    rcases Int.mul_eq_zero.mp e.symm with a | a
    · exact a
    · omega
  · intro z
    rw [z, Int.zero_mul] at e
    rcases Int.mul_eq_zero.mp e with a | a
    · exact a
    · omega
theorem par_same {p q : Pl} {v : Q4} (hv : 0 < v.2.2.2) (h : crs (nrm p) (nrm q) = (0, 0, 0)) (ep : sd p v = 0) (eq : sd q v = 0) : same p q := by
  simp only [crs, nrm, Prod.mk.injEq] at h
  simp only [sd] at ep eq
  obtain ⟨h1, h2, h3⟩ := h
  refine ⟨eq_canc hv ?_, eq_canc hv ?_, eq_canc hv ?_⟩ <;> grind
theorem same_par {p q : Pl} (hp : 0 < p.2.2.2.toInt) (hq : 0 < q.2.2.2.toInt) (h : same p q) : crs (nrm p) (nrm q) = (0, 0, 0) := by
  obtain ⟨a1, a2, a3⟩ := h
  simp only [crs, nrm, Prod.mk.injEq]
  refine ⟨eq_canc hp (eq_canc hq ?_), eq_canc hp (eq_canc hq ?_), eq_canc hp (eq_canc hq ?_)⟩ <;> grind
theorem same_nOE {p q : Pl} (hp : 0 < p.2.2.2.toInt) (hq : 0 < q.2.2.2.toInt) (h : same p q) (vs : List Q4) : nOE vs p = nOE vs q := by
  unfold nOE
  congr 1
  refine List.filter_congr (fun v _ => ?_)
  have := same_0 hp hq h v
  simp only [decide_eq_decide]
  exact this
theorem pD_in {pl : List Pl} {i : Nat} (hi : i < pl.length) : pl.getD i p0 ∈ pl := gD_mem hi
/-- the first of the same planes shows, if three corners are on it -/
theorem shown_of {pl : List Pl} (hG : Gd pl) {vs : List Q4} {P : Pl} (hP : P ∈ pl) (h3 : 3 ≤ nOE vs P) : ∃ i, i < pl.length ∧ shw pl vs i ∧ same (pl.getD i p0) P := by
  obtain ⟨i0, hi0, e0⟩ := pD_ex hP
  have key : ∀ n i, i ≤ n → i < pl.length → same (pl.getD i p0) P → ∃ i, i < pl.length ∧ shw pl vs i ∧ same (pl.getD i p0) P := by
    intro n
    induction n with
    | zero =>
      intro i h1 h2 h3'
      refine ⟨i, h2, ⟨?_, fun q hq => by omega⟩, h3'⟩
      rw [nOn_E, same_nOE (hG.2.2 _ (pD_in h2)) (hG.2.2 _ hP) h3']
      exact h3
    | succ n ih =>
      intro i h1 h2 h3'
      by_cases hq : ∃ q, q < i ∧ same (pl.getD q p0) (pl.getD i p0)
      · obtain ⟨q, hq1, hq2⟩ := hq
        exact ih q (by omega) (by omega) (same_tr (hG.2.2 _ (pD_in h2)) hq2 h3')
      · refine ⟨i, h2, ⟨?_, fun q hq1 hq2 => hq ⟨q, hq1, hq2⟩⟩, h3'⟩
        rw [nOn_E, same_nOE (hG.2.2 _ (pD_in h2)) (hG.2.2 _ hP) h3']
        exact h3
  exact key i0 i0 (Nat.le_refl _) hi0 (by rw [e0]; exact same_rf P)
theorem shw_u {pl : List Pl} {vs : List Q4} {i j : Nat} (hi : shw pl vs i) (hj : shw pl vs j) (h : same (pl.getD i p0) (pl.getD j p0)) : i = j := by
  rcases (show i < j ∨ i = j ∨ j < i by omega) with q | q | q
  · exact absurd h (hj.2 i q)
  · exact q
  · exact absurd (same_sy h) (hi.2 j q)
theorem nOE_sm (vs : List Q4) (P : Pl) : nOE vs P = sm vs.length (fun j => ib (sd P (vs.getD j q0) = 0)) := sm_filter q0 (fun v => sd P v = 0) vs _ (fun x => by simp)
theorem nOE_3 {vs : List Q4} {P : Pl} {a b c : Q4} (ha : a ∈ vs) (hb : b ∈ vs) (hc : c ∈ vs) (hab : a ≠ b) (hac : a ≠ c) (hbc : b ≠ c) (ea : sd P a = 0) (eb : sd P b = 0) (ec : sd P c = 0) : 3 ≤ nOE vs P := by
  rw [nOE_sm]
  obtain ⟨i, hi, rfl⟩ := vD_ex ha
  obtain ⟨j, hj, rfl⟩ := vD_ex hb
  obtain ⟨k, hk, rfl⟩ := vD_ex hc
  exact sm_ge3 (P := fun j => sd P (vs.getD j q0) = 0) hi hj hk (fun e => hab (by rw [e])) (fun e => hac (by rw [e])) (fun e => hbc (by rw [e])) ea eb ec
/-! the two planes at whose sides a corner lies -/
def lc (A B : Int) (u w : V3) : V3 := (A * u.1 + B * w.1, A * u.2.1 + B * w.2.1, A * u.2.2 + B * w.2.2)
theorem cu_lc (c : V3) (A B : Int) (u w : V3) : cu c (lc A B u w) = A * cu c u + B * cu c w := by
  simp only [cu, lc]; grind
theorem nd_lc (p : Pl) (A B : Int) (u w : V3) : nd p (lc A B u w) = A * nd p u + B * nd p w := cu_lc (nrm p) A B u w
theorem nd_dfv {pl : List Pl} {p : Pl} (hp : p ∈ pl) {v w : Q4} (hv : 0 < v.2.2.2) (ep : sd p v = 0) (hw : inC pl w) : nd p (df v w) ≤ 0 := by
  rw [nd_df, ep]
  have := Int.mul_nonpos_of_nonpos_of_nonneg (hw.2 p hp) (show 0 ≤ v.2.2.2 by omega)
  omega
def org (v : Q4) : V3 := (- v.1, - v.2.1, - v.2.2.1)
theorem nd_org {p : Pl} {v : Q4} (ep : sd p v = 0) : nd p (org v) = - (p.2.2.2.toInt * v.2.2.2) := by
  simp only [sd] at ep
  simp only [nd, org]
  grind
theorem y0_ex {pl : List Pl} (hG : Gd pl) {v : Q4} (hv : 0 < v.2.2.2) {g : V3} {w1 w2 : Q4} (h1 : inC pl w1) (h2 : inC pl w2) (c1 : 0 < cu g (df v w1)) (c2 : cu g (df v w2) < 0) : ∃ y, cu g y = 0 ∧ ∀ q ∈ pl, sd q v = 0 → nd q y < 0 := by
  have ho : ∀ q ∈ pl, sd q v = 0 → nd q (org v) < 0 := fun q hq eq => by
    rw [nd_org eq]
    have := Int.mul_pos (hG.2.2 q hq) hv
    omega
  have mk : ∀ (A B : Int) (w : Q4), 0 < A → 0 ≤ B → inC pl w → ∀ q ∈ pl, sd q v = 0 → nd q (lc A B (org v) (df v w)) < 0 := fun A B w hA hB hw q hq eq => by
    rw [nd_lc]
    have a1 := Int.mul_neg_of_pos_of_neg hA (ho q hq eq)
    have a2 := Int.mul_nonpos_of_nonneg_of_nonpos hB (nd_dfv hq hv eq hw)
    omega
  rcases i_log (cu g (org v)) 0 with t | t
  · refine ⟨lc (cu g (df v w1)) (- cu g (org v)) (org v) (df v w1), ?_, mk _ _ w1 c1 (by omega) h1⟩
    rw [cu_lc]; grind
  · refine ⟨lc (- cu g (df v w2)) (cu g (org v)) (org v) (df v w2), ?_, mk _ _ w2 (by omega) t h2⟩
    rw [cu_lc]; grind
def Mx (pl : List Pl) (g : V3) (v : Q4) (P : Pl) : Prop := P ∈ pl ∧ sd P v = 0 ∧ ∀ q ∈ pl, sd q v = 0 → nd q (crs g (nrm P)) ≤ 0
theorem mx_ex {pl : List Pl} {v : Q4} (h : isC pl v) {g y : V3} (hy : cu g y = 0) (hq : ∀ q ∈ pl, sd q v = 0 → nd q y < 0) : ∃ P, Mx pl g v P := by
  obtain ⟨-, -, p, hp, -, -, -, -, -, ep, -⟩ := h
  have hm : ∀ q, q ∈ pl.filter (fun q => decide (sd q v = 0)) ↔ q ∈ pl ∧ sd q v = 0 := fun q => by simp
  obtain ⟨P, h1, h2⟩ := axis (S := pl.filter (fun q => decide (sd q v = 0))) (List.ne_nil_of_mem ((hm p).mpr ⟨hp, ep⟩)) g y hy (fun q h => hq q ((hm q).mp h).1 ((hm q).mp h).2)
  exact ⟨P, ((hm P).mp h1).1, ((hm P).mp h1).2, fun q a b => h2 q ((hm q).mpr ⟨a, b⟩)⟩
theorem par_cu {g n : V3} (h : crs g n = (0, 0, 0)) (u : V3) : cu n u * cu g g = cu n g * cu g u := by
  obtain ⟨g1, g2, g3⟩ := g
  obtain ⟨n1, n2, n3⟩ := n
  obtain ⟨u1, u2, u3⟩ := u
  simp only [crs, Prod.mk.injEq] at h
  simp only [cu]
  grind
theorem cu_0 {u : V3} (h : cu u u = 0) : u = (0, 0, 0) := by
  by_cases e : u = (0, 0, 0)
  · exact e
  · have := cu_pos e; omega
theorem mx_y {pl : List Pl} {v : Q4} {g y : V3} (hg : g ≠ (0, 0, 0)) (hy : cu g y = 0) (hq : ∀ q ∈ pl, sd q v = 0 → nd q y < 0) {P : Pl} (hP : Mx pl g v P) : crs g (nrm P) ≠ (0, 0, 0) := by
  intro z
  have := par_cu z y
  rw [hy, Int.mul_zero] at this
  have h2 := hq P hP.1 hP.2.1
  have h2 : cu (nrm P) y < 0 := h2
  rcases Int.mul_eq_zero.mp this with a | a
  · omega
  · exact hg (cu_0 a)
/-- off along P, at the same height -/
theorem mx_go {pl : List Pl} {v : Q4} (hv : inC pl v) {g : V3} {P : Pl} (hP : Mx pl g v P) (hy : crs g (nrm P) ≠ (0, 0, 0)) : ∃ x, inC pl x ∧ (∀ q, sd q v = 0 → nd q (crs g (nrm P)) = 0 → sd q x = 0) ∧ leV g v x ∧ leV g x v ∧ ltV (crs g (nrm P)) v x := by
  obtain ⟨k, hk, hin, -⟩ := go2 hv (crs g (nrm P)) hP.2.2
  refine ⟨mv v k 1 (crs g (nrm P)), hin, fun q a b => by rw [sd_mv, a, b]; simp, ?_, ?_, ltV_mv hv.1 (by omega) (cu_pos hy)⟩
  · rw [leV_df, cu_mv, cu_crs0]; simp
  · rw [leV_df', cu_mv, cu_crs0]; simp
theorem ltV_df {c : V3} {v x : Q4} (h : ltV c v x) : df v x ≠ (0, 0, 0) := by
  intro z
  unfold ltV at h
  rw [z] at h
  simp only [cu] at h
  omega
theorem mx_nt {pl : List Pl} (hG : Gd pl) {vs : List Q4} (hvs : ∀ v, v ∈ vs ↔ isC pl v) {g : V3} (hg : inj g vs) {v : Q4} (hv : v ∈ vs) {P : Pl} (hP : Mx pl g v P) (hy : crs g (nrm P) ≠ (0, 0, 0)) : (∃ w ∈ vs, sd P w = 0 ∧ 0 < cu g (df v w)) ∧ ∃ w ∈ vs, sd P w = 0 ∧ cu g (df v w) < 0 := by
  obtain ⟨x, x1, x2, x3, x4, x5⟩ := mx_go (isC_in ((hvs v).mp hv)) hP hy
  have ex : sd P x = 0 := x2 P hP.2.1 (cu_crs1 g (nrm P))
  constructor
  · by_cases h : ∃ w ∈ vs, sd P w = 0 ∧ 0 < cu g (df v w)
    · exact h
    · exfalso
      refine ltV_df x5 (uniq hG.1 hvs hg hP.1 (hG.2.1 P hP.1) hv (fun w hw ew => ?_) x1 ex x3)
      rw [leV_df']
      rcases i_log 0 (cu g (df v w)) with q | q
      · exact absurd ⟨w, hw, ew, q⟩ h
      · exact q
  · by_cases h : ∃ w ∈ vs, sd P w = 0 ∧ cu g (df v w) < 0
    · exact h
    · exfalso
      refine ltV_df x5 (uniq hG.1 hvs (inj_neg hg) hP.1 (hG.2.1 P hP.1) hv (fun w hw ew => ?_) x1 ex ((leV_neg g v x).mpr x4))
      rw [leV_neg, leV_df]
      rcases i_log (cu g (df v w)) 0 with q | q
      · exact absurd ⟨w, hw, ew, q⟩ h
      · exact q
theorem mx_par {pl : List Pl} (hG : Gd pl) {vs : List Q4} (hvs : ∀ v, v ∈ vs ↔ isC pl v) {g : V3} (hg : inj g vs) {v : Q4} (hv : v ∈ vs) {P P' : Pl} (hP : Mx pl g v P) (hP' : Mx pl g v P') (hy : crs g (nrm P) ≠ (0, 0, 0)) : crs (nrm P) (nrm P') = (0, 0, 0) := by
  by_cases hL : crs (nrm P) (nrm P') = (0, 0, 0)
  · exact hL
  exfalso
  have a1 := hP.2.2 P' hP'.1 hP'.2.1
  have a2 := hP'.2.2 P hP.1 hP.2.1
  rw [nd_cu, cu_anti] at a2
  have a3 : nd P' (crs g (nrm P)) = 0 := by rw [nd_cu] at a1 ⊢; omega
  have a4 : nd P (crs g (nrm P)) = 0 := cu_crs1 g (nrm P)
  have hvc := (hvs v).mp hv
  obtain ⟨x, x1, x2, x3, x4, x5⟩ := mx_go (isC_in hvc) hP hy
  obtain ⟨w, w1, w2, w3, w4⟩ := lpL hG.1 x1 hP.1 hP'.1 hL (x2 P hP.2.1 a4) (x2 P' hP'.2.1 a3) (crs g (nrm P))
  have w5 := ltV_le hvc.1.1 x1.1 w1.1.1 x5 w4
  generalize hyy : crs g (nrm P) = y at *
  have gy : cu g y = 0 := by rw [← hyy]; exact cu_crs0 g (nrm P)
  have b1 := v3_line (nrm P) (nrm P') y y a4 a3
  have b2 := v3_line (nrm P) (nrm P') g y a4 a3
  have pu : nd P (df v w) = 0 := by rw [nd_df, hP.2.1, w2]; simp
  have pu' : nd P' (df v w) = 0 := by rw [nd_df, hP'.2.1, w3]; simp
  have b3 := v3_line (nrm P) (nrm P') g (df v w) pu pu'
  have hyp := cu_pos hy
  have hLp := cu_pos hL
  generalize hLL : crs (nrm P) (nrm P') = L at *
  have c1 : cu L y ≠ 0 := by
    intro z
    rw [z, Int.zero_mul] at b1
    have := Int.mul_pos hyp hLp
    omega
  have c2 : cu g L = 0 := by
    rw [gy, Int.zero_mul] at b2
    rcases Int.mul_eq_zero.mp b2.symm with q | q
    · exact absurd q c1
    · exact q
  have c3 : cu g (df v w) = 0 := by
    rw [c2, Int.mul_zero] at b3
    rcases Int.mul_eq_zero.mp b3 with q | q
    · exact q
    · omega
  have e := hg v hv w ((hvs w).mpr w1) (by rw [leV_df]; omega) (by rw [leV_df']; omega)
  rw [e] at w5
  refine ltV_df w5 ?_
  simp only [df, Prod.mk.injEq]
  omega
theorem side_mx {pl : List Pl} (hG : Gd pl) {g : V3} {v : Q4} (hv : isC pl v) {p : Pl} (hp : p ∈ pl) (ep : sd p v = 0) {w1 w2 : Q4} (h1 : inC pl w1) (h2 : inC pl w2) (e1 : sd p w1 = 0) (e2 : sd p w2 = 0) (c1 : 0 < cu g (df v w1)) (c2 : cu g (df v w2) < 0) : Mx pl g v p ∨ Mx pl (neg3 g) v p := by
  have hvd := hv.1.1
  obtain ⟨u, hu⟩ : ∃ u, u = lc (- cu g (df v w2)) (cu g (df v w1)) (df v w1) (df v w2) := ⟨_, rfl⟩
  have gu : cu g u = 0 := by rw [hu, cu_lc]; grind
  have qu : ∀ q ∈ pl, sd q v = 0 → nd q u ≤ 0 ∧ (nd q u = 0 → nd q (df v w1) = 0) := fun q hq eq => by
    rw [hu, nd_lc]
    have a1 := nd_dfv hq hvd eq h1
    have a2 := nd_dfv hq hvd eq h2
    have b1 := Int.mul_nonpos_of_nonneg_of_nonpos (show 0 ≤ - cu g (df v w2) by omega) a1
    have b2 := Int.mul_nonpos_of_nonneg_of_nonpos (show 0 ≤ cu g (df v w1) by omega) a2
    refine ⟨by omega, fun z => ?_⟩
    have : - cu g (df v w2) * nd q (df v w1) = 0 := by omega
    rcases Int.mul_eq_zero.mp this with a | a
    · omega
    · exact a
  have pu : nd p u = 0 := by
    rw [hu, nd_lc, nd_df, nd_df, ep, e1, e2]; simp
  have hy : crs g (nrm p) ≠ (0, 0, 0) := by
    intro z
    have z' : crs (nrm p) g = (0, 0, 0) := by rw [crs_sw, z]; rfl
    have := par_cu z' (df v w1)
    have e3 : cu (nrm p) (df v w1) = 0 := by
      have : nd p (df v w1) = 0 := by rw [nd_df, ep, e1]; simp
      exact this
    rw [e3, Int.mul_zero] at this
    have hn := cu_pos (hG.2.1 p hp)
    rcases Int.mul_eq_zero.mp this with a | a <;> omega
  have hyp := cu_pos hy
  have key : ∀ q ∈ pl, sd q v = 0 → nd q u * cu (crs g (nrm p)) (crs g (nrm p)) = cu (crs g (nrm p)) u * nd q (crs g (nrm p)) := fun q hq eq => v3_line g (nrm p) (nrm q) u gu pu
  have hne : cu (crs g (nrm p)) u ≠ 0 := by
    intro z
    have all : ∀ q ∈ pl, sd q v = 0 → nd q (df v w1) = 0 := fun q hq eq => by
      have := key q hq eq
      rw [z, Int.zero_mul] at this
      rcases Int.mul_eq_zero.mp this with a | a
      · exact (qu q hq eq).2 a
      · omega
    obtain ⟨-, -, a, ha, b, hb, c, hc, hd, ea, eb, ec⟩ := hv
    have := u_0 hd (all a ha ea) (all b hb eb) (all c hc ec)
    rw [this] at c1
    simp only [cu] at c1
    omega
  rcases (show 0 < cu (crs g (nrm p)) u ∨ cu (crs g (nrm p)) u < 0 by omega) with q | q
  · left
    refine ⟨hp, ep, fun r hr er => ?_⟩
    have k1 := key r hr er
    have k2 := Int.mul_nonpos_of_nonpos_of_nonneg (qu r hr er).1 (show 0 ≤ cu (crs g (nrm p)) (crs g (nrm p)) by omega)
    rcases i_log 0 (nd r (crs g (nrm p))) with z | z
    · have := Int.mul_pos q z; omega
    · exact z
  · right
    refine ⟨hp, ep, fun r hr er => ?_⟩
    rw [crs_neg, nd_neg]
    have k1 := key r hr er
    have k2 := Int.mul_nonpos_of_nonpos_of_nonneg (qu r hr er).1 (show 0 ≤ cu (crs g (nrm p)) (crs g (nrm p)) by omega)
    rcases i_log (nd r (crs g (nrm p))) 0 with z | z
    · have := Int.mul_pos_of_neg_of_neg q z; omega
    · omega
theorem same_crs {p q : Pl} (h : same p q) (g : V3) (r : Pl) : nd r (crs g (nrm p)) * q.2.2.2.toInt = nd r (crs g (nrm q)) * p.2.2.2.toInt := by
  obtain ⟨h1, h2, h3⟩ := h
  simp only [nd, crs, nrm]
  grind
theorem mx_both {pl : List Pl} (hG : Gd pl) {g : V3} {v : Q4} (hv : isC pl v) {P P' : Pl} (hP : Mx pl g v P) (hP' : Mx pl (neg3 g) v P') (hs : same P P') (hy : crs g (nrm P) ≠ (0, 0, 0)) : False := by
  have o1 := hG.2.2 P hP.1
  have o2 := hG.2.2 P' hP'.1
  have all : ∀ q ∈ pl, sd q v = 0 → nd q (crs g (nrm P)) = 0 := fun q hq eq => by
    have a1 := hP.2.2 q hq eq
    have a2 := hP'.2.2 q hq eq
    rw [crs_neg, nd_neg] at a2
    have a3 := same_crs hs g q
    have b1 := Int.mul_nonpos_of_nonpos_of_nonneg a1 (show 0 ≤ P'.2.2.2.toInt by omega)
    have b2 := Int.mul_nonneg (show 0 ≤ nd q (crs g (nrm P')) by omega) (show 0 ≤ P.2.2.2.toInt by omega)
    have : nd q (crs g (nrm P)) * P'.2.2.2.toInt = 0 := by omega
    rcases Int.mul_eq_zero.mp this with z | z
    · exact z
    · omega
  obtain ⟨-, -, a, ha, b, hb, c, hc, hd, ea, eb, ec⟩ := hv
  exact hy (u_0 hd (all a ha ea) (all b hb eb) (all c hc ec))
