theorem org_in {pl : List Pl} (hG : Gd pl) : inC pl (0, 0, 0, 1) ∧ ∀ p ∈ pl, sd p (0, 0, 0, 1) < 0 := by
  have key : ∀ p ∈ pl, sd p (0, 0, 0, 1) < 0 := fun p hp => by
    have := hG.2.2 p hp
    simp only [sd]
    omega
  exact ⟨⟨by show (0 : Int) < 1; omega, fun p hp => by have := key p hp; omega⟩, key⟩
/-- in each direction a corner lies beyond the middle -/
theorem beyond {pl : List Pl} (hG : Gd pl) {c : V3} (hc : c ≠ (0, 0, 0)) : ∃ w, isC pl w ∧ 0 < cw c w := by
  obtain ⟨h1, h2⟩ := org_in hG
  obtain ⟨k, hk, hin⟩ := go h1 c (fun p hp e => by have := h2 p hp; omega)
  obtain ⟨w, w1, w2⟩ := lpC hG.1 hG.2.1 hin c
  refine ⟨w, w1, ?_⟩
  unfold leV at w2
  have e1 : cw c (mv (0, 0, 0, 1) k 1 c) = cu c c := by simp only [cw, mv, cu]; grind
  have hp := cu_pos hc
  rw [e1] at w2
  have a1 := Int.mul_pos hp w1.1.1
  have a2 := hin.1
  rcases i_log 0 (cw c w) with q | q
  · exact q
  · have := Int.mul_nonpos_of_nonpos_of_nonneg q (show 0 ≤ (mv (0, 0, 0, 1) k 1 c).2.2.2 by omega)
    omega
theorem two_crn {pl : List Pl} (hG : Gd pl) {vs : List Q4} (hvs : ∀ v, v ∈ vs ↔ isC pl v) : 2 ≤ vs.length := by
  obtain ⟨a, a1, a2⟩ := beyond hG (c := (1, 0, 0)) (by simp)
  obtain ⟨b, b1, b2⟩ := beyond hG (c := (-1, 0, 0)) (by simp)
  simp only [cw] at a2 b2
  obtain ⟨i, hi, ei⟩ := vD_ex ((hvs a).mpr a1)
  obtain ⟨j, hj, ej⟩ := vD_ex ((hvs b).mpr b1)
  have : i ≠ j := fun e => by
    have : a = b := by rw [← ei, ← ej, e]
    rw [this] at a2
    omega
  omega
def sdF (pl : List Pl) (vs : List Q4) (g : V3) (p j : Nat) : Prop := shw pl vs p ∧ sd (pl.getD p p0) (vs.getD j q0) = 0 ∧ ¬ Tp pl vs g p j ∧ ¬ Tp pl vs (neg3 g) p j
theorem neg3_neg (g : V3) : neg3 (neg3 g) = g := by
  obtain ⟨a, b, c⟩ := g
  simp only [neg3, Prod.mk.injEq]
  omega
theorem cu_neg1 (c u : V3) : cu (neg3 c) u = - cu c u := by
  simp only [cu, neg3]; grind
theorem df_self (v : Q4) : df v v = (0, 0, 0) := by
  simp only [df, Prod.mk.injEq]; omega
/-- one plane that shows has v at its side, around g -/
theorem side1 {pl : List Pl} (hG : Gd pl) {vs : List Q4} (hvs : ∀ v, v ∈ vs ↔ isC pl v) {g : V3} (hg : inj g vs) {j : Nat} (hj : j < vs.length) {w1 w2 : Q4} (h1 : w1 ∈ vs) (h2 : w2 ∈ vs) (c1 : 0 < cu g (df (vs.getD j q0) w1)) (c2 : cu g (df (vs.getD j q0) w2) < 0) : ∃ i P, i < pl.length ∧ Mx pl g (vs.getD j q0) P ∧ crs g (nrm P) ≠ (0, 0, 0) ∧ same (pl.getD i p0) P ∧ sdF pl vs g i j := by
  have hv := vD_mem hj
  generalize hvv : vs.getD j q0 = v at *
  have hvc := (hvs v).mp hv
  have hg0 : g ≠ (0, 0, 0) := fun z => by
    rw [z] at c1
    simp only [cu] at c1
    omega
  obtain ⟨y, y1, y2⟩ := y0_ex hG hvc.1.1 (isC_in ((hvs w1).mp h1)) (isC_in ((hvs w2).mp h2)) c1 c2
  obtain ⟨P, hP⟩ := mx_ex hvc y1 y2
  have hy := mx_y hg0 y1 y2 hP
  obtain ⟨⟨a, a1, a2, a3⟩, ⟨b, b1, b2, b3⟩⟩ := mx_nt hG hvs hg hv hP hy
  have h3 : 3 ≤ nOE vs P := by
    refine nOE_3 hv a1 b1 ?_ ?_ ?_ hP.2.1 a2 b2
    · intro e; rw [← e, df_self] at a3; simp only [cu] at a3; omega
    · intro e; rw [← e, df_self] at b3; simp only [cu] at b3; omega
    · intro e; rw [e] at a3; omega
  obtain ⟨i, i1, i2, i3⟩ := shown_of hG hP.1 h3
  have s0 := same_0 (hG.2.2 _ (pD_in i1)) (hG.2.2 _ hP.1) i3
  refine ⟨i, P, i1, hP, hy, i3, i2, ?_, ?_, ?_⟩
  · rw [hvv]; exact (s0 v).mpr hP.2.1
  · intro t
    have := t.2 a a1 ((s0 a).mpr a2)
    rw [hvv, leV_df'] at this
    omega
  · intro t
    have := t.2 b b1 ((s0 b).mpr b2)
    rw [hvv, leV_neg, leV_df] at this
    omega
theorem sdF_w {pl : List Pl} {vs : List Q4} {g : V3} {p j : Nat} (h : sdF pl vs g p j) : (∃ w ∈ vs, sd (pl.getD p p0) w = 0 ∧ 0 < cu g (df (vs.getD j q0) w)) ∧ ∃ w ∈ vs, sd (pl.getD p p0) w = 0 ∧ cu g (df (vs.getD j q0) w) < 0 := by
  obtain ⟨h1, h2, h3, h4⟩ := h
  constructor
  · by_cases q : ∃ w ∈ vs, sd (pl.getD p p0) w = 0 ∧ 0 < cu g (df (vs.getD j q0) w)
    · exact q
    · refine absurd ⟨h2, fun w hw ew => ?_⟩ h3
      rw [leV_df']
      rcases i_log 0 (cu g (df (vs.getD j q0) w)) with z | z
      · exact absurd ⟨w, hw, ew, z⟩ q
      · exact z
  · by_cases q : ∃ w ∈ vs, sd (pl.getD p p0) w = 0 ∧ cu g (df (vs.getD j q0) w) < 0
    · exact q
    · refine absurd ⟨h2, fun w hw ew => ?_⟩ h4
      rw [leV_neg, leV_df]
      rcases i_log (cu g (df (vs.getD j q0) w)) 0 with z | z
      · exact absurd ⟨w, hw, ew, z⟩ q
      · exact z
theorem sdF_neg {pl : List Pl} {vs : List Q4} {g : V3} {p j : Nat} (h : sdF pl vs (neg3 g) p j) : sdF pl vs g p j := by
  obtain ⟨h1, h2, h3, h4⟩ := h
  rw [neg3_neg] at h4
  exact ⟨h1, h2, h4, h3⟩
theorem side2 {pl : List Pl} (hG : Gd pl) {vs : List Q4} (hvs : ∀ v, v ∈ vs ↔ isC pl v) {g : V3} (hg : inj g vs) {j : Nat} (hj : j < vs.length) {w1 w2 : Q4} (h1 : w1 ∈ vs) (h2 : w2 ∈ vs) (c1 : 0 < cu g (df (vs.getD j q0) w1)) (c2 : cu g (df (vs.getD j q0) w2) < 0) : sm pl.length (fun p => ib (sdF pl vs g p j)) = 2 := by
  have hv := vD_mem hj
  have hvc := (hvs _).mp hv
  have hg' := inj_neg hg
  obtain ⟨i1, P1, a1, a2, a3, a4, a5⟩ := side1 hG hvs hg hj h1 h2 c1 c2
  obtain ⟨i2, P2, b1, b2, b3, b4, b5⟩ := side1 hG hvs hg' hj h2 h1 (by rw [cu_neg1]; omega) (by rw [cu_neg1]; omega)
  have b5 := sdF_neg b5
  have o1 := hG.2.2 P1 a2.1
  have o2 := hG.2.2 P2 b2.1
  have hne : i1 ≠ i2 := fun e => by
    rw [← e] at b4
    exact mx_both hG hvc a2 b2 (same_tr (hG.2.2 _ (pD_in a1)) (same_sy a4) b4) a3
  have : sm pl.length (fun p => ib (sdF pl vs g p j)) = _ := sm_2 a1 b1 hne (fun p hp n1 n2 => ib_0 (fun hs => by
    obtain ⟨⟨x, x1, x2, x3⟩, ⟨y, y1, y2, y3⟩⟩ := sdF_w hs
    have hpl := pD_in hp
    rcases side_mx hG hvc hpl hs.2.1 (isC_in ((hvs x).mp x1)) (isC_in ((hvs y).mp y1)) x2 y2 x3 y3 with m | m
    · have pr := mx_par hG hvs hg hv a2 m a3
      have sa := par_same hvc.1.1 pr a2.2.1 m.2.1
      exact n1 (shw_u hs.1 a5.1 (same_sy (same_tr o1 a4 sa)))
    · have pr := mx_par hG hvs hg' hv b2 m b3
      have sa := par_same hvc.1.1 pr b2.2.1 m.2.1
      exact n2 (shw_u hs.1 b5.1 (same_sy (same_tr o2 b4 sa)))))
  rw [this, ib_1 a5, ib_1 b5]
/-- the last corner on a plane that shows -/
theorem top_ex {pl : List Pl} {vs : List Q4} (hd : ∀ v ∈ vs, 0 < v.2.2.2) (g : V3) {p : Nat} (h : shw pl vs p) : ∃ j, j < vs.length ∧ Tp pl vs g p j := by
  have hm : ∀ v, v ∈ vs.filter (fun v => decide (sd (pl.getD p p0) v = 0)) ↔ v ∈ vs ∧ sd (pl.getD p p0) v = 0 := fun v => by simp
  have hne : vs.filter (fun v => decide (sd (pl.getD p p0) v = 0)) ≠ [] := fun e => by
    have := h.1
    unfold nOn at this
    rw [e] at this
    simp at this
  obtain ⟨v, v1, v2⟩ := most g (fun v hv => hd v ((hm v).mp hv).1) hne
  obtain ⟨j, hj, e⟩ := vD_ex ((hm v).mp v1).1
  refine ⟨j, hj, ?_, fun w hw ew => ?_⟩
  · rw [e]; exact ((hm v).mp v1).2
  · rw [e]; exact v2 w ((hm w).mpr ⟨hw, ew⟩)
theorem flags {pl : List Pl} (hG : Gd pl) {vs : List Q4} (hn : vs.Nodup) (hvs : ∀ v, v ∈ vs ↔ isC pl v) : sm pl.length (fun p => sm vs.length (fun j => ib (shw pl vs p ∧ sd (pl.getD p p0) (vs.getD j q0) = 0))) + 4 = 2 * (vs.length + sm pl.length (fun p => ib (shw pl vs p))) := by
  obtain ⟨g, hg⟩ := order_ex vs (fun v h => ((hvs v).mp h).1)
  have hg' := inj_neg hg
  have hd : ∀ v ∈ vs, 0 < v.2.2.2 := fun v h => ((hvs v).mp h).1.1
  have h2 := two_crn hG hvs
  have hne : vs ≠ [] := fun e => by rw [e] at h2; simp at h2
  obtain ⟨v1, hv1, hm1⟩ := most g hd hne
  obtain ⟨v2, hv2, hm2⟩ := most (neg3 g) hd hne
  obtain ⟨j1, hj1, e1⟩ := vD_ex hv1
  obtain ⟨j2, hj2, e2⟩ := vD_ex hv2
  have hne12 : j1 ≠ j2 := by
    intro e
    have e12 : v1 = v2 := by rw [← e1, ← e2, e]
    have all : ∀ w ∈ vs, w = v1 := fun w hw => hg w hw v1 hv1 (hm1 w hw) ((leV_neg g w v1).mp (by rw [e12]; exact hm2 w hw))
    have := vD_inj hn (show 0 < vs.length by omega) (show 1 < vs.length by omega) (by rw [all _ (vD_mem (by omega)), all _ (vD_mem (i := 1) (by omega))])
    omega
  -- a flag is the last, the first, or at the side
  have tri : ∀ p, p < pl.length → sm vs.length (fun j => ib (shw pl vs p ∧ sd (pl.getD p p0) (vs.getD j q0) = 0)) = (ib (shw pl vs p) + ib (shw pl vs p)) + sm vs.length (fun j => ib (sdF pl vs g p j)) := by
    intro p hp
    by_cases hs : shw pl vs p
    · have t1 : sm vs.length (fun j => ib (Tp pl vs g p j)) = 1 := by
        obtain ⟨j, a, b⟩ := top_ex hd g hs
        exact sm_eq1 a b (fun i hi q => Tp_u hn hg hi a q b)
      have t2 : sm vs.length (fun j => ib (Tp pl vs (neg3 g) p j)) = 1 := by
        obtain ⟨j, a, b⟩ := top_ex hd (neg3 g) hs
        exact sm_eq1 a b (fun i hi q => Tp_u hn hg' hi a q b)
      have dis : ∀ j, j < vs.length → Tp pl vs g p j → ¬ Tp pl vs (neg3 g) p j := fun j hj a b => by
        have h3 := hs.1
        rw [nOn_E, nOE_sm] at h3
        have : sm vs.length (fun j => ib (sd (pl.getD p p0) (vs.getD j q0) = 0)) = 1 := sm_eq1 hj a.1 (fun i hi q => vD_inj hn hi hj (hg _ (vD_mem hi) _ (vD_mem hj) (a.2 _ (vD_mem hi) q) ((leV_neg g _ _).mp (b.2 _ (vD_mem hi) q))))
        omega
      have : sm vs.length (fun j => ib (shw pl vs p ∧ sd (pl.getD p p0) (vs.getD j q0) = 0)) = sm vs.length (fun j => (ib (Tp pl vs g p j) + ib (Tp pl vs (neg3 g) p j)) + ib (sdF pl vs g p j)) := sm_eq (fun j hj => by
        by_cases on : sd (pl.getD p p0) (vs.getD j q0) = 0
        · rw [ib_1 ⟨hs, on⟩]
          by_cases a : Tp pl vs g p j
          · rw [ib_1 a, ib_0 (dis j hj a), ib_0 (fun z => z.2.2.1 a)]
          · by_cases b : Tp pl vs (neg3 g) p j
            · rw [ib_0 a, ib_1 b, ib_0 (fun z => z.2.2.2 b)]
            · rw [ib_0 a, ib_0 b, ib_1 ⟨hs, on, a, b⟩]
        · rw [ib_0 (fun z => on z.2), ib_0 (fun z => on z.1), ib_0 (fun z => on z.1), ib_0 (fun z => on z.2.1)])
      rw [this, sm_add, sm_add, t1, t2, ib_1 hs]
    · rw [sm_0 (fun j _ => ib_0 (fun z => hs z.1)), ib_0 hs, sm_0 (fun j _ => ib_0 (fun z => hs z.1))]
  rw [sm_eq tri, sm_add, sm_add, sm_comm]
  have sides : sm vs.length (fun j => sm pl.length (fun p => ib (sdF pl vs g p j))) + 4 = 2 * vs.length := by
    have : sm vs.length (fun j => sm pl.length (fun p => ib (sdF pl vs g p j)) + (2 * ib (j = j1) + 2 * ib (j = j2))) = sm vs.length (fun _ => 2) := sm_eq (fun j hj => by
      have mem := vD_mem hj
      by_cases a1 : j = j1
      · rw [ib_1 a1, ib_0 (fun q => hne12 (by omega)), sm_0 (fun p _ => ib_0 (fun z => by
          obtain ⟨⟨x, x1, x2, x3⟩, -⟩ := sdF_w z
          rw [a1, e1] at x3
          have := hm1 x x1
          rw [leV_df'] at this
          omega))]
      · by_cases a2 : j = j2
        · rw [ib_0 a1, ib_1 a2, sm_0 (fun p _ => ib_0 (fun z => by
            obtain ⟨-, ⟨x, x1, x2, x3⟩⟩ := sdF_w z
            rw [a2, e2] at x3
            have := hm2 x x1
            rw [leV_neg, leV_df] at this
            omega))]
        · rw [ib_0 a1, ib_0 a2, side2 hG hvs hg hj hv1 hv2 ?_ ?_]
          · have q : ¬ leV g v1 (vs.getD j q0) := fun z => a1 (vD_inj hn hj hj1 (by rw [e1]; exact hg _ mem _ hv1 (hm1 _ mem) z))
            rw [leV_df'] at q
            omega
          · have q : ¬ leV g (vs.getD j q0) v2 := fun z => a2 (vD_inj hn hj hj2 (by rw [e2]; exact hg _ mem _ hv2 z ((leV_neg g _ _).mp (hm2 _ mem))))
            rw [leV_df] at q
            omega)
    rw [sm_add, sm_add, sm_k] at this
    have m2 : ∀ n f, sm n (fun j => 2 * f j) = 2 * sm n f := fun n f => by
      rw [sm_eq (g := fun j => f j + f j) (fun j _ => by omega), sm_add]; omega
    rw [m2, m2, sm_eq1 (P := fun j => j = j1) hj1 rfl (fun j _ q => q), sm_eq1 (P := fun j => j = j2) hj2 rfl (fun j _ q => q)] at this
    omega
  omega
