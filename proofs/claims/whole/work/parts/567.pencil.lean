/-! EDGES. Corners on one line; the planes around an edge. -/
theorem df_sw (v w : Q4) : df w v = neg3 (df v w) := by
  simp only [df, neg3, Prod.mk.injEq]
  refine ⟨by grind, by grind, by grind⟩
theorem nd_on {P : Pl} {v w : Q4} (e1 : sd P v = 0) (e2 : sd P w = 0) : nd P (df v w) = 0 := by
  rw [nd_df, e1, e2]; simp
theorem on_nd {P : Pl} {v w : Q4} (hv : 0 < v.2.2.2) (e1 : sd P v = 0) (h : nd P (df v w) = 0) : sd P w = 0 := by
  rw [nd_df, e1] at h
  have h : sd P w * v.2.2.2 = 0 := by omega
  rcases Int.mul_eq_zero.mp h with q | q
  · exact q
  · omega
theorem lineK {P Q : Pl} (r : Pl) {u : V3} (h1 : nd P u = 0) (h2 : nd Q u = 0) : nd r u * cu (crs (nrm P) (nrm Q)) (crs (nrm P) (nrm Q)) = cu (crs (nrm P) (nrm Q)) u * nd r (crs (nrm P) (nrm Q)) := v3_line (nrm P) (nrm Q) (nrm r) u h1 h2
theorem mid {pl : List Pl} {P Q : Pl} (hL : crs (nrm P) (nrm Q) ≠ (0, 0, 0)) {v w1 w2 : Q4} (hv : isC pl v) (h1 : inC pl w1) (h2 : inC pl w2) (eP : sd P v = 0) (eQ : sd Q v = 0) (eP1 : sd P w1 = 0) (eQ1 : sd Q w1 = 0) (eP2 : sd P w2 = 0) (eQ2 : sd Q w2 = 0) (c1 : 0 < cu (crs (nrm P) (nrm Q)) (df v w1)) (c2 : cu (crs (nrm P) (nrm Q)) (df v w2) < 0) : False := by
  have hvd := hv.1.1
  have hLp := cu_pos hL
  have all : ∀ q ∈ pl, sd q v = 0 → nd q (crs (nrm P) (nrm Q)) = 0 := fun q hq eq => by
    have k1 := lineK q (nd_on eP eP1) (nd_on eQ eQ1)
    have k2 := lineK q (nd_on eP eP2) (nd_on eQ eQ2)
    have a1 := Int.mul_nonpos_of_nonpos_of_nonneg (nd_dfv hq hvd eq h1) (Int.le_of_lt hLp)
    have a2 := Int.mul_nonpos_of_nonpos_of_nonneg (nd_dfv hq hvd eq h2) (Int.le_of_lt hLp)
    rcases (show nd q (crs (nrm P) (nrm Q)) < 0 ∨ nd q (crs (nrm P) (nrm Q)) = 0 ∨ 0 < nd q (crs (nrm P) (nrm Q)) by omega) with z | z | z
    · have := Int.mul_pos_of_neg_of_neg c2 z; omega
    · exact z
    · have := Int.mul_pos c1 z; omega
  obtain ⟨-, -, a, ha, b, hb, c, hc, hd, ea, eb, ec⟩ := hv
  exact hL (u_0 hd (all a ha ea) (all b hb eb) (all c hc ec))
theorem line_ne {P Q : Pl} (hL : crs (nrm P) (nrm Q) ≠ (0, 0, 0)) {a b : Q4} (ha : rdc a) (hb : rdc b) (hab : a ≠ b) (e1 : sd P a = 0) (e2 : sd Q a = 0) (e3 : sd P b = 0) (e4 : sd Q b = 0) : cu (crs (nrm P) (nrm Q)) (df a b) ≠ 0 := by
  intro z
  refine hab (df_0 ha hb (v3_all (fun c => ?_)))
  have k := v3_line (nrm P) (nrm Q) c (df a b) (nd_on e1 e3) (nd_on e2 e4)
  rw [z, Int.zero_mul] at k
  rcases Int.mul_eq_zero.mp k with q | q
  · exact q
  · have := cu_pos hL; omega
/-- three corners are never on one line -/
theorem line3 {pl : List Pl} {P Q : Pl} (hL : crs (nrm P) (nrm Q) ≠ (0, 0, 0)) {a b c : Q4} (ha : isC pl a) (hb : isC pl b) (hc : isC pl c) (ea : sd P a = 0) (ea' : sd Q a = 0) (eb : sd P b = 0) (eb' : sd Q b = 0) (ec : sd P c = 0) (ec' : sd Q c = 0) (hab : a ≠ b) (hac : a ≠ c) (hbc : b ≠ c) : False := by
  have x := line_ne hL ha.1 hb.1 hab ea ea' eb eb'
  have y := line_ne hL ha.1 hc.1 hac ea ea' ec ec'
  have z := line_ne hL hb.1 hc.1 hbc eb eb' ec ec'
  have x' : cu (crs (nrm P) (nrm Q)) (df b a) = - cu (crs (nrm P) (nrm Q)) (df a b) := by rw [df_sw, cu_neg]
  have y' : cu (crs (nrm P) (nrm Q)) (df c a) = - cu (crs (nrm P) (nrm Q)) (df a c) := by rw [df_sw, cu_neg]
  have z' : cu (crs (nrm P) (nrm Q)) (df c b) = - cu (crs (nrm P) (nrm Q)) (df b c) := by rw [df_sw, cu_neg]
  have A := isC_in ha
  have B := isC_in hb
  have C := isC_in hc
  rcases (show cu (crs (nrm P) (nrm Q)) (df a b) < 0 ∨ 0 < cu (crs (nrm P) (nrm Q)) (df a b) by omega) with p1 | p1 <;>
  rcases (show cu (crs (nrm P) (nrm Q)) (df a c) < 0 ∨ 0 < cu (crs (nrm P) (nrm Q)) (df a c) by omega) with p2 | p2 <;>
  rcases (show cu (crs (nrm P) (nrm Q)) (df b c) < 0 ∨ 0 < cu (crs (nrm P) (nrm Q)) (df b c) by omega) with p3 | p3
  · exact mid hL hb A C eb eb' ea ea' ec ec' (by omega) (by omega)
  · exact mid hL hc A B ec ec' ea ea' eb eb' (by omega) (by omega)
  · exact mid hL ha C B ea ea' ec ec' eb eb' (by omega) (by omega)
  · exact mid hL ha C B ea ea' ec ec' eb eb' (by omega) (by omega)
  · exact mid hL ha B C ea ea' eb eb' ec ec' (by omega) (by omega)
  · exact mid hL ha B C ea ea' eb eb' ec ec' (by omega) (by omega)
  · exact mid hL hc B A ec ec' eb eb' ea ea' (by omega) (by omega)
  · exact mid hL hb C A eb eb' ec ec' ea ea' (by omega) (by omega)
/-- half way -/
def hf (v w : Q4) : Q4 := (v.1 * w.2.2.2 + w.1 * v.2.2.2, v.2.1 * w.2.2.2 + w.2.1 * v.2.2.2, v.2.2.1 * w.2.2.2 + w.2.2.1 * v.2.2.2, 2 * (v.2.2.2 * w.2.2.2))
theorem sd_hf (q : Pl) (v w : Q4) : sd q (hf v w) = sd q v * w.2.2.2 + sd q w * v.2.2.2 := by
  simp only [sd, hf]; grind
theorem hf_in {pl : List Pl} {v w : Q4} (hv : inC pl v) (hw : inC pl w) : inC pl (hf v w) := by
  refine ⟨?_, fun q hq => ?_⟩
  · show 0 < 2 * (v.2.2.2 * w.2.2.2)
    have := Int.mul_pos hv.1 hw.1; omega
  · rw [sd_hf]
    have a := Int.mul_nonpos_of_nonpos_of_nonneg (hv.2 q hq) (Int.le_of_lt hw.1)
    have b := Int.mul_nonpos_of_nonpos_of_nonneg (hw.2 q hq) (Int.le_of_lt hv.1)
    omega
theorem hf_0 {pl : List Pl} {v w : Q4} {q : Pl} (hq : q ∈ pl) (hv : inC pl v) (hw : inC pl w) (h : sd q (hf v w) = 0) : sd q v = 0 ∧ sd q w = 0 := by
  rw [sd_hf] at h
  have a := Int.mul_nonpos_of_nonpos_of_nonneg (hv.2 q hq) (Int.le_of_lt hw.1)
  have b := Int.mul_nonpos_of_nonpos_of_nonneg (hw.2 q hq) (Int.le_of_lt hv.1)
  have a' : sd q v * w.2.2.2 = 0 := by omega
  have b' : sd q w * v.2.2.2 = 0 := by omega
  have := hv.1
  have := hw.1
  constructor
  · rcases Int.mul_eq_zero.mp a' with z | z
    · exact z
    · omega
  · rcases Int.mul_eq_zero.mp b' with z | z
    · exact z
    · omega
theorem hf_1 {q : Pl} {v w : Q4} (h1 : sd q v = 0) (h2 : sd q w = 0) : sd q (hf v w) = 0 := by
  rw [sd_hf, h1, h2]; simp
theorem cu_hf1 (c : V3) (v w : Q4) : cu c (df (hf v w) v) = - v.2.2.2 * cu c (df v w) := by
  simp only [cu, df, hf]; grind
theorem cu_hf2 (c : V3) (v w : Q4) : cu c (df (hf v w) w) = w.2.2.2 * cu c (df v w) := by
  simp only [cu, df, hf]; grind
theorem mx_ex2 {pl : List Pl} {v : Q4} {p : Pl} (hp : p ∈ pl) (ep : sd p v = 0) {g y : V3} (hy : cu g y = 0) (hq : ∀ q ∈ pl, sd q v = 0 → nd q y < 0) : ∃ P, Mx pl g v P := by
  have hm : ∀ q, q ∈ pl.filter (fun q => decide (sd q v = 0)) ↔ q ∈ pl ∧ sd q v = 0 := fun q => by simp
  obtain ⟨P, h1, h2⟩ := axis (S := pl.filter (fun q => decide (sd q v = 0))) (List.ne_nil_of_mem ((hm p).mpr ⟨hp, ep⟩)) g y hy (fun q h => hq q ((hm q).mp h).1 ((hm q).mp h).2)
  exact ⟨P, ((hm P).mp h1).1, ((hm P).mp h1).2, fun q a b => h2 q ((hm q).mpr ⟨a, b⟩)⟩
/-- around an edge -/
theorem pen_ex {pl : List Pl} (hG : Gd pl) {m : Q4} (hm : inC pl m) {p : Pl} (hp : p ∈ pl) (ep : sd p m = 0) {g : V3} (hg : g ≠ (0, 0, 0)) (hq : ∀ q ∈ pl, sd q m = 0 → nd q g = 0) : ∃ P, Mx pl g m P := by
  refine mx_ex2 hp ep (g := g) (y := lc (cu g g) (- cu g (org m)) (org m) g) ?_ ?_
  · rw [cu_lc]; grind
  · intro q h1 h2
    rw [nd_lc, hq q h1 h2, nd_org h2]
    have a := Int.mul_pos (cu_pos hg) (Int.mul_pos (hG.2.2 q h1) hm.1)
    rw [Int.mul_neg]
    omega
theorem crs_ne {g n : V3} (hg : g ≠ (0, 0, 0)) (hn : n ≠ (0, 0, 0)) (h : cu n g = 0) : crs g n ≠ (0, 0, 0) := by
  intro z
  refine hn (v3_all (fun c => ?_))
  have k := par_cu z c
  rw [h, Int.zero_mul] at k
  rcases Int.mul_eq_zero.mp k with q | q
  · rw [cu_comm]; exact q
  · exact absurd (cu_0 q) hg
/-- a plane that is the last around an edge shows -/
theorem pen3 {pl : List Pl} (hG : Gd pl) {vs : List Q4} (hvs : ∀ v, v ∈ vs ↔ isC pl v) {v w : Q4} (hv : v ∈ vs) (hw : w ∈ vs) (hvw : v ≠ w) {g : V3} {t : Int} (ht : t ≠ 0) (hg : ∀ c, cu c g = t * cu c (df v w)) {P : Pl} (hP : Mx pl g (hf v w) P) : 3 ≤ nOE vs P := by
  have hvc := (hvs v).mp hv
  have hwc := (hvs w).mp hw
  obtain ⟨ev, ew⟩ := hf_0 hP.1 (isC_in hvc) (isC_in hwc) hP.2.1
  have hm := hf_in (isC_in hvc) (isC_in hwc)
  have g0 : g ≠ (0, 0, 0) := fun z => by
    refine hvw (df_0 hvc.1 hwc.1 (v3_all (fun c => ?_)))
    have := hg c
    rw [z] at this
    have e : cu c (0, 0, 0) = 0 := by simp [cu]
    rw [e] at this
    rcases Int.mul_eq_zero.mp this.symm with q | q
    · exact absurd q ht
    · exact q
  have pg : cu (nrm P) g = 0 := by
    rw [hg, show cu (nrm P) (df v w) = 0 from nd_on ev ew, Int.mul_zero]
  have hy := crs_ne g0 (hG.2.1 P hP.1) pg
  obtain ⟨x, x1, x2, -, -, x5⟩ := mx_go hm hP hy
  have ex : sd P x = 0 := x2 P hP.2.1 (cu_crs1 g (nrm P))
  obtain ⟨z, z1, z2, z3⟩ := lpP hG.1 x1 hP.1 (hG.2.1 P hP.1) ex (crs g (nrm P))
  have z5 := ltV_le hm.1 x1.1 z1.1.1 x5 z3
  have yu : cu (crs g (nrm P)) (df v w) = 0 := by
    have a := hg (crs g (nrm P))
    rw [cu_comm, cu_crs0] at a
    rcases Int.mul_eq_zero.mp a.symm with q | q
    · exact absurd q ht
    · exact q
  unfold ltV at z5
  refine nOE_3 hv hw ((hvs z).mpr z1) hvw ?_ ?_ ev ew z2
  · intro e
    rw [← e, cu_hf1, yu] at z5
    omega
  · intro e
    rw [← e, cu_hf2, yu] at z5
    omega
theorem pen_p {g n n' : V3} (hg : g ≠ (0, 0, 0)) (h1 : cu n g = 0) (h2 : cu n' g = 0) (h : cu n' (crs g n) = 0) : crs n n' = (0, 0, 0) := by
  have e : cu (crs n n') g = 0 := by
    rw [cu_comm, ← h]
    simp only [cu, crs]; grind
  have k := v3_line n n' g g h1 h2
  rw [e, Int.zero_mul] at k
  rcases Int.mul_eq_zero.mp k with q | q
  · exact absurd (cu_0 q) hg
  · exact cu_0 q
theorem pen_par {pl : List Pl} {m : Q4} {g : V3} (hg : g ≠ (0, 0, 0)) (hq : ∀ q ∈ pl, sd q m = 0 → nd q g = 0) {P P' : Pl} (hP : Mx pl g m P) (hP' : Mx pl g m P') : crs (nrm P) (nrm P') = (0, 0, 0) := by
  have a1 := hP.2.2 P' hP'.1 hP'.2.1
  have a2 := hP'.2.2 P hP.1 hP.2.1
  rw [nd_cu, cu_anti] at a2
  refine pen_p hg (hq P hP.1 hP.2.1) (hq P' hP'.1 hP'.2.1) ?_
  rw [nd_cu] at a1
  omega
/-- a third -/
theorem third {vs : List Q4} (hn : vs.Nodup) {P : Pl} (h : 3 ≤ nOE vs P) (a b : Q4) : ∃ x ∈ vs, sd P x = 0 ∧ x ≠ a ∧ x ≠ b := by
  by_cases e : ∃ x ∈ vs, sd P x = 0 ∧ x ≠ a ∧ x ≠ b
  · exact e
  exfalso
  have hf : (vs.filter (fun v => decide (sd P v = 0))).Nodup := List.Pairwise.filter _ hn
  have := hf.length_le_of_subset (l₂ := [a, b]) (fun x hx => by
    rw [List.mem_filter] at hx
    have h2 : sd P x = 0 := of_decide_eq_true hx.2
    by_cases q1 : x = a
    · rw [q1]; simp
    · by_cases q2 : x = b
      · rw [q2]; simp
      · exact absurd ⟨x, hx.1, h2, q1, q2⟩ e)
  unfold nOE at h
  have this : _ ≤ 2 := this
  omega
theorem pen_side {pl : List Pl} (hG : Gd pl) {vs : List Q4} (hn : vs.Nodup) (hvs : ∀ v, v ∈ vs ↔ isC pl v) {v w : Q4} (hv : v ∈ vs) (hw : w ∈ vs) (hvw : v ≠ w) {P Q : Pl} (hP : P ∈ pl) (hQ : Q ∈ pl) (hL : crs (nrm P) (nrm Q) ≠ (0, 0, 0)) (e1 : sd P v = 0) (e2 : sd P w = 0) (e3 : sd Q v = 0) (e4 : sd Q w = 0) (h3 : 3 ≤ nOE vs P) : Mx pl (df v w) (hf v w) P ∨ Mx pl (neg3 (df v w)) (hf v w) P := by
  have hvc := (hvs v).mp hv
  have hwc := (hvs w).mp hw
  obtain ⟨x, x1, x2, x3, x4⟩ := third hn h3 v w
  have hxc := (hvs x).mp x1
  have hg : df v w ≠ (0, 0, 0) := fun z => hvw (df_0 hvc.1 hwc.1 z)
  have gp := cu_pos hg
  have np := cu_pos (hG.2.1 P hP)
  have gq : ∀ q ∈ pl, sd q (hf v w) = 0 → nd q (df v w) = 0 := fun q a b => by
    obtain ⟨c, d⟩ := hf_0 a (isC_in hvc) (isC_in hwc) b
    exact nd_on c d
  have key : ∀ q ∈ pl, sd q (hf v w) = 0 → nd q (df v x) * (cu (df v w) (df v w) * cu (nrm P) (nrm P)) = cu (crs (df v w) (nrm P)) (df v x) * nd q (crs (df v w) (nrm P)) ∧ nd q (df v x) ≤ 0 := fun q a b => by
    obtain ⟨c, d⟩ := hf_0 a (isC_in hvc) (isC_in hwc) b
    have k := v3_plane (nrm P) (df v w) (df v x) (nrm q) (nd_on e1 e2) (nd_on e1 x2)
    rw [show cu (nrm q) (df v w) = 0 from nd_on c d, Int.mul_zero, Int.add_zero] at k
    exact ⟨k, nd_dfv a hvc.1.1 c (isC_in hxc)⟩
  have pp := Int.mul_pos gp np
  have hne : cu (crs (df v w) (nrm P)) (df v x) ≠ 0 := by
    intro z
    have k := (key Q hQ (hf_1 e3 e4)).1
    rw [z, Int.zero_mul] at k
    rcases Int.mul_eq_zero.mp k with q | q
    · exact line3 hL hvc hwc hxc e1 e3 e2 e4 x2 (on_nd hvc.1.1 e3 q) hvw (fun e => x3 e.symm) (fun e => x4 e.symm)
    · omega
  rcases (show 0 < cu (crs (df v w) (nrm P)) (df v x) ∨ cu (crs (df v w) (nrm P)) (df v x) < 0 by omega) with s | s
  · left
    refine ⟨hP, hf_1 e1 e2, fun q a b => ?_⟩
    obtain ⟨k1, k2⟩ := key q a b
    have := Int.mul_nonpos_of_nonpos_of_nonneg k2 (Int.le_of_lt pp)
    rcases i_log 0 (nd q (crs (df v w) (nrm P))) with z | z
    · have := Int.mul_pos s z; omega
    · exact z
  · right
    refine ⟨hP, hf_1 e1 e2, fun q a b => ?_⟩
    rw [crs_neg, nd_neg]
    obtain ⟨k1, k2⟩ := key q a b
    have := Int.mul_nonpos_of_nonpos_of_nonneg k2 (Int.le_of_lt pp)
    rcases i_log (nd q (crs (df v w) (nrm P))) 0 with z | z
    · have := Int.mul_pos_of_neg_of_neg s z; omega
    · omega
/-- two planes that show go through an edge -/
theorem pen2 {pl : List Pl} (hG : Gd pl) {vs : List Q4} (hn : vs.Nodup) (hvs : ∀ v, v ∈ vs ↔ isC pl v) {v w : Q4} (hv : v ∈ vs) (hw : w ∈ vs) (hvw : v ≠ w) {P Q : Pl} (hP : P ∈ pl) (hQ : Q ∈ pl) (hL : crs (nrm P) (nrm Q) ≠ (0, 0, 0)) (e1 : sd P v = 0) (e2 : sd P w = 0) (e3 : sd Q v = 0) (e4 : sd Q w = 0) : ∃ i1 i2, i1 < pl.length ∧ i2 < pl.length ∧ i1 ≠ i2 ∧ (shw pl vs i1 ∧ sd (pl.getD i1 p0) v = 0 ∧ sd (pl.getD i1 p0) w = 0) ∧ (shw pl vs i2 ∧ sd (pl.getD i2 p0) v = 0 ∧ sd (pl.getD i2 p0) w = 0) ∧ ∀ p, p < pl.length → shw pl vs p → sd (pl.getD p p0) v = 0 → sd (pl.getD p p0) w = 0 → p = i1 ∨ p = i2 := by
  have hvc := (hvs v).mp hv
  have hwc := (hvs w).mp hw
  have hm := hf_in (isC_in hvc) (isC_in hwc)
  have hg : df v w ≠ (0, 0, 0) := fun z => hvw (df_0 hvc.1 hwc.1 z)
  have gq : ∀ q ∈ pl, sd q (hf v w) = 0 → nd q (df v w) = 0 := fun q a b => by
    obtain ⟨c, d⟩ := hf_0 a (isC_in hvc) (isC_in hwc) b
    exact nd_on c d
  have gq' : ∀ q ∈ pl, sd q (hf v w) = 0 → nd q (neg3 (df v w)) = 0 := fun q a b => by
    rw [nd_neg, gq q a b]; rfl
  obtain ⟨P1, hP1⟩ := pen_ex hG hm hP (hf_1 e1 e2) hg gq
  obtain ⟨P2, hP2⟩ := pen_ex hG hm hP (hf_1 e1 e2) (neg3_0 hg) gq'
  have t1 := pen3 hG hvs hv hw hvw (g := df v w) (t := 1) (by omega) (fun c => by omega) hP1
  have t2 := pen3 hG hvs hv hw hvw (g := neg3 (df v w)) (t := -1) (by omega) (fun c => by rw [cu_neg]; omega) hP2
  obtain ⟨i1, a1, a2, a3⟩ := shown_of hG hP1.1 t1
  obtain ⟨i2, b1, b2, b3⟩ := shown_of hG hP2.1 t2
  have o1 := hG.2.2 P1 hP1.1
  have o2 := hG.2.2 P2 hP2.1
  have oP := hG.2.2 P hP
  have oQ := hG.2.2 Q hQ
  have oi1 := hG.2.2 _ (pD_in a1)
  have oi2 := hG.2.2 _ (pD_in b1)
  obtain ⟨f1, f2⟩ := hf_0 hP1.1 (isC_in hvc) (isC_in hwc) hP1.2.1
  obtain ⟨f3, f4⟩ := hf_0 hP2.1 (isC_in hvc) (isC_in hwc) hP2.2.1
  refine ⟨i1, i2, a1, b1, ?_, ⟨a2, (same_0 oi1 o1 a3 v).mpr f1, (same_0 oi1 o1 a3 w).mpr f2⟩, ⟨b2, (same_0 oi2 o2 b3 v).mpr f3, (same_0 oi2 o2 b3 w).mpr f4⟩, ?_⟩
  · intro e
    rw [← e] at b3
    have hs : same P1 P2 := same_tr oi1 (same_sy a3) b3
    have all : ∀ q ∈ pl, sd q (hf v w) = 0 → same P1 q := fun q hq eq => by
      have c1 := hP1.2.2 q hq eq
      have c2 := hP2.2.2 q hq eq
      rw [crs_neg, nd_neg] at c2
      have c3 := same_crs hs (df v w) q
      have d1 := Int.mul_nonpos_of_nonpos_of_nonneg c1 (Int.le_of_lt o2)
      have d2 := Int.mul_nonneg (show 0 ≤ nd q (crs (df v w) (nrm P2)) by omega) (Int.le_of_lt o1)
      have d3 : nd q (crs (df v w) (nrm P1)) * P2.2.2.2.toInt = 0 := by omega
      have d4 : nd q (crs (df v w) (nrm P1)) = 0 := by
        rcases Int.mul_eq_zero.mp d3 with z | z
        · exact z
        · omega
      exact par_same hm.1 (pen_p hg (gq P1 hP1.1 hP1.2.1) (gq q hq eq) d4) hP1.2.1 eq
    have s1 := all P hP (hf_1 e1 e2)
    have s2 := all Q hQ (hf_1 e3 e4)
    exact hL (same_par oP oQ (same_tr o1 (same_sy s1) s2))
  · intro p hp hsp g1 g2
    have hR := pD_in hp
    have oR := hG.2.2 _ hR
    have fin : ∀ T ∈ pl, crs (nrm (pl.getD p p0)) (nrm T) ≠ (0, 0, 0) → sd T v = 0 → sd T w = 0 → p = i1 ∨ p = i2 := fun T hT hne k1 k2 => by
      rcases pen_side hG hn hvs hv hw hvw hR hT hne g1 g2 k1 k2 hsp.1 with mx | mx
      · left
        exact shw_u hsp a2 (same_sy (same_tr o1 a3 (par_same hm.1 (pen_par hg gq hP1 mx) hP1.2.1 mx.2.1)))
      · right
        exact shw_u hsp b2 (same_sy (same_tr o2 b3 (par_same hm.1 (pen_par (neg3_0 hg) gq' hP2 mx) hP2.2.1 mx.2.1)))
    by_cases q1 : crs (nrm (pl.getD p p0)) (nrm P) = (0, 0, 0)
    · by_cases q2 : crs (nrm (pl.getD p p0)) (nrm Q) = (0, 0, 0)
      · exfalso
        have s1 := par_same hvc.1.1 q1 g1 e1
        have s2 := par_same hvc.1.1 q2 g1 e3
        exact hL (same_par oP oQ (same_tr oR (same_sy s1) s2))
      · exact fin Q hQ q2 e3 e4
    · exact fin P hP q1 e1 e2
