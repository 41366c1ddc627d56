/-! a plane that is hidden -/
/-- from a point beyond P three corners on P -/
theorem cut3 {pl pl' : List Pl} (hG : Gd pl) {vs : List Q4} (hvs : ∀ v, v ∈ vs ↔ isC pl v) {P : Pl} (hP : P ∈ pl) (hsub : ∀ q ∈ pl, q ∈ pl' ∨ q = P) {x : Q4} (hx : 0 < x.2.2.2) (hx' : ∀ q ∈ pl', sd q x ≤ 0) (hb : 0 < sd P x) : 3 ≤ nOE vs P := by
  have hPo := hG.2.2 P hP
  have hPn := hG.2.1 P hP
  -- the point of P ahead of x
  obtain ⟨y, hy⟩ : ∃ y : Q4, y = (P.2.2.2.toInt * x.1, P.2.2.2.toInt * x.2.1, P.2.2.2.toInt * x.2.2.1, sd P x + P.2.2.2.toInt * x.2.2.2) := ⟨_, rfl⟩
  have yP : sd P y = 0 := by rw [hy]; simp only [sd]; grind
  have yd : 0 < y.2.2.2 := by
    rw [hy]
    have := Int.mul_pos hPo hx
    show 0 < sd P x + P.2.2.2.toInt * x.2.2.2
    omega
  have yq : ∀ q : Pl, sd q y = P.2.2.2.toInt * sd q x - q.2.2.2.toInt * sd P x := fun q => by rw [hy]; simp only [sd]; grind
  have ylt : ∀ q ∈ pl, q ∈ pl' → sd q y < 0 := fun q h1 h2 => by
    rw [yq]
    have a := Int.mul_nonpos_of_nonneg_of_nonpos (Int.le_of_lt hPo) (hx' q h2)
    have b := Int.mul_pos (hG.2.2 q h1) hb
    omega
  have yin : inC pl y := ⟨yd, fun q hq => by
    rcases hsub q hq with z | z
    · have := ylt q hq z; omega
    · rw [z, yP]; omega⟩
  have ytight : ∀ q ∈ pl, sd q y = 0 → q = P := fun q hq e => by
    rcases hsub q hq with z | z
    · have := ylt q hq z; omega
    · exact z
  have far : ∀ c : V3, c ≠ (0, 0, 0) → nd P c = 0 → ∃ w ∈ vs, sd P w = 0 ∧ 0 < cu c (df y w) := fun c c0 cP => by
    obtain ⟨k, hk, k1, -⟩ := go2 yin c (fun q hq e => by rw [ytight q hq e, cP]; omega)
    have kP : sd P (mv y k 1 c) = 0 := by rw [sd_mv, yP, cP]; simp
    obtain ⟨w, w1, w2, w3⟩ := lpP hG.1 k1 hP hPn kP c
    exact ⟨w, (hvs w).mpr w1, w2, ltV_le yd k1.1 w1.1.1 (ltV_mv yd (by omega) (cu_pos c0)) w3⟩
  obtain ⟨a, a0, aP⟩ := perp hPn
  obtain ⟨w1, p1, p2, p3⟩ := far a a0 aP
  obtain ⟨w2, r1, r2, r3⟩ := far (neg3 a) (neg3_0 a0) (by rw [nd_neg]; have : nd P a = 0 := aP; rw [this]; rfl)
  rw [cu_neg1] at r3
  have h12 : w1 ≠ w2 := fun e => by rw [e] at p3; omega
  have c1 := (hvs w1).mp p1
  have c2 := (hvs w2).mp r1
  have d0 : df w1 w2 ≠ (0, 0, 0) := fun z => h12 (df_0 c1.1 c2.1 z)
  obtain ⟨c, hc⟩ : ∃ c, c = crs (df w1 w2) (nrm P) := ⟨_, rfl⟩
  have c0 : c ≠ (0, 0, 0) := by rw [hc]; exact crs_ne d0 hPn (nd_on p2 r2)
  have cP : nd P c = 0 := by rw [hc]; exact cu_crs1 (df w1 w2) (nrm P)
  have cd : cu c (df w1 w2) = 0 := by rw [hc, cu_comm]; exact cu_crs0 _ _
  have rel : cu c (df y w2) * w1.2.2.2 = cu c (df y w1) * w2.2.2.2 := by
    rw [cu_df] at cd ⊢
    rw [cu_df]
    have e : (cw c w2 * y.2.2.2 - cw c y * w2.2.2.2) * w1.2.2.2 - (cw c w1 * y.2.2.2 - cw c y * w1.2.2.2) * w2.2.2.2 = y.2.2.2 * (cw c w2 * w1.2.2.2 - cw c w1 * w2.2.2.2) := by grind
    rw [cd, Int.mul_zero] at e
    omega
  have g1 := c1.1.1
  have g2 := c2.1.1
  rcases i_log 0 (cu c (df y w1)) with s | s
  · obtain ⟨w3, t1, t2, t3⟩ := far (neg3 c) (neg3_0 c0) (by rw [nd_neg, cP]; rfl)
    rw [cu_neg1] at t3
    refine nOE_3 p1 r1 t1 h12 (fun e => ?_) (fun e => ?_) p2 r2 t2
    · rw [← e] at t3; omega
    · rw [← e] at t3
      have u1 := Int.mul_pos s g2
      have u2 := Int.mul_neg_of_neg_of_pos (show cu c (df y w2) < 0 by omega) g1
      omega
  · obtain ⟨w3, t1, t2, t3⟩ := far c c0 cP
    refine nOE_3 p1 r1 t1 h12 (fun e => ?_) (fun e => ?_) p2 r2 t2
    · rw [← e] at t3; omega
    · rw [← e] at t3
      have u1 := Int.mul_nonpos_of_nonpos_of_nonneg s (Int.le_of_lt g2)
      have u2 := Int.mul_pos t3 g1
      omega
/-- without a plane on which three corners aren't, the corners are the same -/
theorem hid_n {pl pl' : List Pl} (hG : Gd pl) {vs : List Q4} (hvs : ∀ v, v ∈ vs ↔ isC pl v) {P : Pl} (hP : P ∈ pl) (hsub : ∀ q ∈ pl, q ∈ pl' ∨ q = P) (hsup : ∀ q ∈ pl', q ∈ pl) (h3 : ¬ 3 ≤ nOE vs P) (v : Q4) : isC pl' v ↔ isC pl v := by
  constructor
  · rintro ⟨h1, h2, p, hp, q, hq, r, hr, hd, ep, eq, er⟩
    refine ⟨h1, fun s hs => ?_, p, hsup p hp, q, hsup q hq, r, hsup r hr, hd, ep, eq, er⟩
    rcases hsub s hs with z | z
    · exact h2 s z
    · subst z
      rcases i_log 0 (sd s v) with y | y
      · exact absurd (cut3 hG hvs hP hsub h1.1 h2 y) h3
      · exact y
  · rintro ⟨h1, h2, h4⟩
    have hin : inC pl' v := ⟨h1.1, fun q hq => h2 q (hsup q hq)⟩
    by_cases hc : isC pl' v
    · exact hc
    exfalso
    -- P and two others
    have key : ∀ a ∈ pl', ∀ b ∈ pl', dt3 a b P ≠ 0 → sd a v = 0 → sd b v = 0 → False := fun a ha b hb hd ea eb => by
      have zero : ∀ q ∈ pl', sd q v = 0 → nd q (crs (nrm a) (nrm b)) = 0 := fun q hq eq => by
        by_cases z : nd q (crs (nrm a) (nrm b)) = 0
        · exact z
        · exact absurd ⟨h1, hin.2, a, ha, b, hb, q, hq, by rw [dt3_c]; exact z, ea, eb, eq⟩ hc
      rw [dt3_c] at hd
      have go' : ∀ u : V3, 0 < nd P u → (∀ q ∈ pl', sd q v = 0 → nd q u = 0) → False := fun u hu hz => by
        obtain ⟨k, hk, k1⟩ := go hin u (fun q hq e => by rw [hz q hq e]; omega)
        have hPv := h2 P hP
        by_cases e : sd P v = 0
        · exact h3 (cut3 hG hvs hP hsub k1.1 k1.2 (by rw [sd_mv, e]; omega))
        · -- P isn't at hand: then the three are of pl'
          obtain ⟨p, hp, q, hq, r, hr, hd', ep, eq, er⟩ := h4
          have inn : ∀ s ∈ pl, sd s v = 0 → s ∈ pl' := fun s hs es => by
            rcases hsub s hs with z | z
            · exact z
            · rw [z] at es; exact absurd es e
          exact hc ⟨h1, hin.2, p, inn p hp ep, q, inn q hq eq, r, inn r hr er, hd', ep, eq, er⟩
      rcases (show 0 < nd P (crs (nrm a) (nrm b)) ∨ nd P (crs (nrm a) (nrm b)) < 0 by omega) with s | s
      · exact go' _ s zero
      · exact go' (neg3 (crs (nrm a) (nrm b))) (by rw [nd_neg]; omega) (fun q hq e => by rw [nd_neg, zero q hq e]; rfl)
    obtain ⟨p, hp, q, hq, r, hr, hd, ep, eq, er⟩ := h4
    have d2 : dt3 q r p ≠ 0 := by rw [dt3_rot]; exact hd
    have d3 : dt3 r p q ≠ 0 := by rw [dt3_rot]; exact d2
    rcases hsub p hp with p' | p'
    · rcases hsub q hq with q' | q'
      · rcases hsub r hr with r' | r'
        · exact hc ⟨h1, hin.2, p, p', q, q', r, r', hd, ep, eq, er⟩
        · subst r'
          exact key p p' q q' hd ep eq
      · rcases hsub r hr with r' | r'
        · subst q'
          exact key r r' p p' d3 er ep
        · rw [q', r', dt3_23] at hd
          exact hd rfl
    · rcases hsub q hq with q' | q'
      · rcases hsub r hr with r' | r'
        · subst p'
          exact key q q' r r' d2 eq er
        · rw [p', r', dt3_13] at hd
          exact hd rfl
      · rw [p', q', dt3_12] at hd
        exact hd rfl
theorem same_dt {p q : Pl} (h : same p q) (a b : Pl) : dt3 a b p * q.2.2.2.toInt = dt3 a b q * p.2.2.2.toInt := by
  rw [dt3_c, dt3_c]; exact same_nd h _
/-- without a plane of which another is the same -/
theorem hid_s {pl pl' : List Pl} (hG : Gd pl) {P T : Pl} (hP : P ∈ pl) (hT : T ∈ pl') (hTP : same T P) (hsub : ∀ q ∈ pl, q ∈ pl' ∨ q = P) (hsup : ∀ q ∈ pl', q ∈ pl) (v : Q4) : isC pl' v ↔ isC pl v := by
  have oP := hG.2.2 P hP
  have oT := hG.2.2 T (hsup T hT)
  have rep : ∀ q ∈ pl, ∃ q' ∈ pl', same q' q ∧ 0 < q'.2.2.2.toInt ∧ 0 < q.2.2.2.toInt := fun q hq => by
    rcases hsub q hq with z | z
    · exact ⟨q, z, same_rf q, hG.2.2 q hq, hG.2.2 q hq⟩
    · exact ⟨T, hT, by rw [z]; exact hTP, oT, hG.2.2 q hq⟩
  have nz : ∀ {q' q : Pl}, same q' q → 0 < q'.2.2.2.toInt → 0 < q.2.2.2.toInt → ∀ a b, dt3 a b q ≠ 0 → dt3 a b q' ≠ 0 := fun {q' q} s o o' a b h z => by
    have e := same_dt s a b
    rw [z, Int.zero_mul] at e
    rcases Int.mul_eq_zero.mp e.symm with y | y
    · exact h y
    · omega
  constructor
  · rintro ⟨h1, h2, p, hp, q, hq, r, hr, hd, ep, eq, er⟩
    refine ⟨h1, fun s hs => ?_, p, hsup p hp, q, hsup q hq, r, hsup r hr, hd, ep, eq, er⟩
    rcases hsub s hs with z | z
    · exact h2 s z
    · rw [z]
      have e := same_sd hTP v
      have a := Int.mul_nonpos_of_nonpos_of_nonneg (h2 T hT) (Int.le_of_lt oP)
      rcases i_log 0 (sd P v) with y | y
      · have := Int.mul_pos y oT; omega
      · exact y
  · rintro ⟨h1, h2, p, hp, q, hq, r, hr, hd, ep, eq, er⟩
    obtain ⟨p', p1, p2, p3, p4⟩ := rep p hp
    obtain ⟨q', q1, q2, q3, q4⟩ := rep q hq
    obtain ⟨r', r1, r2, r3, r4⟩ := rep r hr
    refine ⟨h1, fun s hs => h2 s (hsup s hs), p', p1, q', q1, r', r1, ?_, (same_0 p3 p4 p2 v).mpr ep, (same_0 q3 q4 q2 v).mpr eq, (same_0 r3 r4 r2 v).mpr er⟩
    have a := nz r2 r3 r4 p q hd
    have b := nz q2 q3 q4 r' p (by rw [dt3_rot, dt3_rot]; exact a)
    have c := nz p2 p3 p4 q' r' (by rw [dt3_rot, dt3_rot]; exact b)
    rw [← dt3_rot]
    exact c
theorem er_mem {pl : List Pl} {p : Nat} (hp : p < pl.length) (q : Pl) : q ∈ pl.eraseIdx p ↔ ∃ i, i < pl.length ∧ i ≠ p ∧ pl.getD i p0 = q := by
  constructor
  · intro h
    obtain ⟨i, hi, e⟩ := pD_ex h
    rw [er_len hp] at hi
    rw [gD_er hp] at e
    by_cases c : i < p
    · rw [if_pos c] at e
      exact ⟨i, by omega, by omega, e⟩
    · rw [if_neg c] at e
      exact ⟨i + 1, by omega, by omega, e⟩
  · rintro ⟨i, h1, h2, h3⟩
    by_cases c : i < p
    · have : (pl.eraseIdx p).getD i p0 = q := by rw [gD_er hp, if_pos c]; exact h3
      rw [← this]
      exact pD_in (by rw [er_len hp]; omega)
    · have : (pl.eraseIdx p).getD (i - 1) p0 = q := by
        rw [gD_er hp, if_neg (by omega), show i - 1 + 1 = i by omega]; exact h3
      rw [← this]
      exact pD_in (by rw [er_len hp]; omega)
/-- a hidden plane may go -/
theorem hidden {pl : List Pl} (hG : Gd pl) {vs : List Q4} (h : IsCrn pl vs) {p : Nat} (hp : p < pl.length) (hs : ¬ shw pl vs p) : IsCrn (pl.eraseIdx p) vs := by
  refine ⟨h.1, fun v => ?_⟩
  rw [h.2 v]
  have hsub : ∀ q ∈ pl, q ∈ pl.eraseIdx p ∨ q = pl.getD p p0 := fun q hq => by
    obtain ⟨i, hi, e⟩ := pD_ex hq
    by_cases c : i = p
    · right; rw [← e, c]
    · left; exact (er_mem hp q).mpr ⟨i, hi, c, e⟩
  have hsup : ∀ q ∈ pl.eraseIdx p, q ∈ pl := fun q hq => by
    obtain ⟨i, hi, -, e⟩ := (er_mem hp q).mp hq
    rw [← e]; exact pD_in hi
  by_cases h3 : 3 ≤ nOE vs (pl.getD p p0)
  · have : ∃ q, q < p ∧ same (pl.getD q p0) (pl.getD p p0) := by
      by_cases e : ∃ q, q < p ∧ same (pl.getD q p0) (pl.getD p p0)
      · exact e
      · exact absurd ⟨h3, fun q hq hsame => e ⟨q, hq, hsame⟩⟩ hs
    obtain ⟨q, q1, q2⟩ := this
    exact (hid_s hG (pD_in hp) ((er_mem hp _).mpr ⟨q, by omega, by omega, rfl⟩) q2 hsub hsup v).symm
  · exact (hid_n hG h.2 (pD_in hp) hsub hsup h3 v).symm
theorem box_in {pl : List Pl} (ok : okL pl) {j : Nat} (hj : j < 6) : ∃ o : Int32, (1 ≤ o.toInt ∧ o.toInt ≤ 60) ∧ ((bxs.getD j (0, 0, 0)).1, (bxs.getD j (0, 0, 0)).2.1, (bxs.getD j (0, 0, 0)).2.2, o) ∈ pl := by
  have hm := pD_in (pl := pl) (i := j) (by have := ok.1; omega)
  have e := ok.2.2.2 j hj
  refine ⟨(pl.getD j p0).2.2.2, (ok.2.2.1 _ hm).2.2.2.2, ?_⟩
  rw [← e]
  exact hm
theorem okL_Gd {pl : List Pl} (ok : okL pl) : Gd pl := by
  refine ⟨fun u hu => ?_, fun p hp z => ?_, fun p hp => ?_⟩
  · obtain ⟨o0, -, b0⟩ := box_in ok (j := 0) (by omega)
    obtain ⟨o1, -, b1⟩ := box_in ok (j := 1) (by omega)
    obtain ⟨o2, -, b2⟩ := box_in ok (j := 2) (by omega)
    obtain ⟨o3, -, b3⟩ := box_in ok (j := 3) (by omega)
    obtain ⟨o4, -, b4⟩ := box_in ok (j := 4) (by omega)
    obtain ⟨o5, -, b5⟩ := box_in ok (j := 5) (by omega)
    have t1 : (1 : Int32).toInt = 1 := by decide
    have t2 : (-1 : Int32).toInt = -1 := by decide
    have t0 : (0 : Int32).toInt = 0 := by decide
    obtain ⟨x, y, z⟩ := u
    rcases (show 0 < x ∨ x < 0 ∨ 0 < y ∨ y < 0 ∨ 0 < z ∨ z < 0 by
      by_cases h1 : x = 0
      · by_cases h2 : y = 0
        · by_cases h3 : z = 0
          · exact absurd (by rw [h1, h2, h3]) hu
          · omega
        · omega
      · omega) with h | h | h | h | h | h
    · exact ⟨_, b0, by simp only [nd, bxs, List.getD_cons_zero, t1, t0]; omega⟩
    · exact ⟨_, b1, by simp only [nd, bxs, List.getD_cons_zero, List.getD_cons_succ, t2, t0]; omega⟩
    · exact ⟨_, b2, by simp only [nd, bxs, List.getD_cons_zero, List.getD_cons_succ, t1, t0]; omega⟩
    · exact ⟨_, b3, by simp only [nd, bxs, List.getD_cons_zero, List.getD_cons_succ, t2, t0]; omega⟩
    · exact ⟨_, b4, by simp only [nd, bxs, List.getD_cons_zero, List.getD_cons_succ, t1, t0]; omega⟩
    · exact ⟨_, b5, by simp only [nd, bxs, List.getD_cons_zero, List.getD_cons_succ, t2, t0]; omega⟩
  · have := (ok.2.2.1 p hp).2.2.2.1
    simp only [nrm, Prod.mk.injEq] at z
    exact this ⟨Int32.toInt_inj.mp z.1, Int32.toInt_inj.mp z.2.1, Int32.toInt_inj.mp z.2.2⟩
  · have := (ok.2.2.1 p hp).2.2.2.2.1
    omega
