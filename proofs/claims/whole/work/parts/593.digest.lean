/-! digest -/
theorem b_oi {x : Int32} {v : Int} {B : Nat} (h : bI x v B) : x = Int32.ofInt v := by rw [← h.1, Int32.ofInt_toInt]
def gq (c : Nat) (v : Q4) : Nat := Nat.gcd (cq c v).natAbs v.2.2.2.natAbs
def cf (x : Int64) (v : Q4) (c : Nat) : Int64 := (31 * ((31 * x) + (Int32.toInt64 (Int32.ofInt (cq c v) / Int32.ofNat (gq c v))))) + (Int32.toInt64 (Int32.ofInt v.2.2.2 / Int32.ofNat (gq c v)))
theorem gq_b {c : Nat} {v : Q4} (h : bQ v) (hc : c ≤ 2) : 0 < gq c v ∧ gq c v < 1000000 := by
  have h1 : (cq c v).natAbs ≤ 9720 := by
    rcases (show c = 0 ∨ c = 1 ∨ c = 2 by omega) with rfl | rfl | rfl
    · exact h.2.1
    · exact h.2.2.1
    · exact h.2.2.2
  have h2 : v.2.2.2.natAbs ≤ 162 := by have := h.1; omega
  have g0 := gcd_pos2 (v := cq c v) (w := v.2.2.2) (by have := h.1; omega)
  have g1 := gcd_bd h1 h2
  unfold gq
  exact ⟨g0, by omega⟩
theorem ac17_s {I : Nat → Int32} {A : Nat → Nat → Int32} {L : Nat → Int64} {vs : List Q4} (h : cX I A vs) (k5 : Int64 → Int32 → Option Int64) {j c : Nat} (hj : j < vs.length) (hc : c ≤ 2) (n : Nat) (x : Int64) : f_X4_addCornersTo_p17 38 I A L k5 (n + 1) x (Int32.ofNat j) (Int32.ofNat c) = f_X4_addCornersTo_p17 38 I A L k5 n (cf x (vs.getD j q0) c) (Int32.ofNat j) (Int32.ofNat (c + 1)) := by
  obtain ⟨hr, h60, hb⟩ := h
  obtain ⟨o, o1, o2⟩ := crd_x (I := I) (L := L) hr.2 hb h60 hj hc
  have d2 := dd_x hr.2 hb hj
  obtain ⟨g0, g1⟩ := gq_b (hb _ (vD_mem hj)) hc
  have eg : f_X6_commonDivisor I A L o (A 42 j) = some (Int32.ofNat (gq c (vs.getD j q0))) := x_gcd I A L o2 d2 (by omega) (by omega)
  have em : (if (1 : Int32) < Int32.ofNat (gq c (vs.getD j q0)) then Int32.ofNat (gq c (vs.getD j q0)) else 1) = Int32.ofNat (gq c (vs.getD j q0)) := by
    by_cases z : 1 < gq c (vs.getD j q0)
    · rw [if_pos (show (1 : Int32) < _ from (o_ltn (a := 1) (by omega) (by omega)).mpr z)]
    · rw [if_neg (show ¬ (1 : Int32) < _ from fun q => z ((o_ltn (a := 1) (by omega) (by omega)).mp q)), show gq c (vs.getD j q0) = 1 by omega]
      rfl
  rw [f_X4_addCornersTo_p17_e, if_neg (show ¬ (3 : Int32) ≤ Int32.ofNat c from o_nle (a := 3) (by omega) (by omega) (by omega)), o1, bd_some, o_ck (show j < 60 by omega) (by omega), i_tnn (by omega)]
  rw [show A (38 + 4) j = A 42 j from rfl, eg, bd_some, g_lt_eq, em, o_dv (by omega) (by omega), g_lt_eq, o_ck (show j < 60 by omega) (by omega), o_dv (by omega) (by omega), g_lt_eq, i_1, b_oi o2, b_oi d2]
  rfl
theorem dg176_s {I : Nat → Int32} {A : Nat → Nat → Int32} {L : Nat → Int64} {pl : List Pl} {vs : List Q4} (hm : ∀ j, j < vs.length → okE pl (A 65) j (vs.getD j q0)) (hb : ∀ v ∈ vs, bQ v) (h60 : vs.length ≤ 60) (k : Int64 → Int32 → (Nat → Int32) → (Nat → Nat → Int32) → (Nat → Int64) → Option (Int64 × gS)) {j c : Nat} (hj : j < vs.length) (hc : c ≤ 2) (n : Nat) (x : Int64) : f_X7_digest_p176 k (n + 1) x (Int32.ofNat j) (Int32.ofNat c) I A L = f_X7_digest_p176 k n (cf x (vs.getD j q0) c) (Int32.ofNat j) (Int32.ofNat (c + 1)) I A L := by
  have o2 := crd_m hm hb hj hc
  have d2 := dd_m hm hb hj
  obtain ⟨g0, g1⟩ := gq_b (hb _ (vD_mem hj)) hc
  have eg : f_X7_common I A L (A 65 (5 * j + c)) (A 65 (5 * j + 3)) = some (Int32.ofNat (gq c (vs.getD j q0))) := m_gcd I A L o2 d2 (by omega) (by omega)
  rw [f_X7_digest_p176_e, if_neg (show ¬ (3 : Int32) ≤ Int32.ofNat c from o_nle (a := 3) (by omega) (by omega) (by omega)), m_5, m_53, o_ck (show 5 * j + c < 320 by omega) (by omega), o_ck (show 5 * j + 3 < 320 by omega) (by omega), i_tnn (by omega), i_tnn (by omega), eg, bd_some, o_ck (show 5 * j + c < 320 by omega) (by omega), o_dv (by omega) (by omega), g_lt_eq, o_ck (show 5 * j + 3 < 320 by omega) (by omega), o_dv (by omega) (by omega), g_lt_eq, i_1, b_oi o2, b_oi d2]
  rfl
theorem crs_l {I : Nat → Int32} {A : Nat → Nat → Int32} {L : Nat → Int64} {pl : List Pl} {vs : List Q4} (h : cX I A vs) {I2 : Nat → Int32} {A2 : Nat → Nat → Int32} (hm : crM (I2 955) (A2 65) pl vs) : ∀ (n j : Nat) (x : Int64), j ≤ vs.length → vs.length - j < n → ∃ y, f_X4_addCornersTo_p5 38 I A L n x (Int32.ofNat j) = some y ∧ f_X7_digest_p165 n x (Int32.ofNat j) I2 A2 L = some (y, I2, A2, L) := by
  obtain ⟨hr, h60, hb⟩ := id h
  intro n
  induction n with
  | zero => intro j x h1 h2; omega
  | succ n ih =>
    intro j x j1 j2
    rw [f_X4_addCornersTo_p5_e, f_X7_digest_p165_e, show I (16 * 38 + 7) = Int32.ofNat vs.length from hr.1, hm.1]
    by_cases e : j = vs.length
    · rw [if_pos (by rw [e]; exact o_le (by omega) (by omega) (by omega)), if_pos (by rw [e]; exact o_le (by omega) (by omega) (by omega))]
      exact ⟨x, rfl, rfl⟩
    · have hj : j < vs.length := by omega
      rw [if_neg (o_nle (by omega) (by omega) hj), if_neg (o_nle (by omega) (by omega) hj)]
      have sx : ∀ k5, f_X4_addCornersTo_p17 38 I A L k5 (4092 + 4) x (Int32.ofNat j) (Int32.ofNat 0) = k5 (cf (cf (cf x (vs.getD j q0) 0) (vs.getD j q0) 1) (vs.getD j q0) 2) (Int32.ofNat (j + 1)) := fun k5 => by
        rw [ac17_s h k5 hj (by omega) (4092 + 3) x, ac17_s h k5 hj (by omega) (4092 + 2), ac17_s h k5 hj (by omega) (4092 + 1), f_X4_addCornersTo_p17_e, if_pos (by decide), i_1]
      have sm : ∀ k, f_X7_digest_p176 k (4092 + 4) x (Int32.ofNat j) (Int32.ofNat 0) I2 A2 L = k (cf (cf (cf x (vs.getD j q0) 0) (vs.getD j q0) 1) (vs.getD j q0) 2) (Int32.ofNat (j + 1)) I2 A2 L := fun k => by
        rw [dg176_s hm.2 hb h60 k hj (by omega) (4092 + 3) x, dg176_s hm.2 hb h60 k hj (by omega) (4092 + 2), dg176_s hm.2 hb h60 k hj (by omega) (4092 + 1), f_X7_digest_p176_e, if_pos (by decide), i_1]
      have sx' : f_X4_addCornersTo_p17 38 I A L (f_X4_addCornersTo_p5 38 I A L n) 4096 x (Int32.ofNat j) 0 = _ := sx (f_X4_addCornersTo_p5 38 I A L n)
      have sm' : f_X7_digest_p176 (f_X7_digest_p165 n) 4096 x (Int32.ofNat j) 0 I2 A2 L = _ := sm (f_X7_digest_p165 n)
      rw [sx', sm']
      exact ih (j + 1) _ (by omega) (by omega)
/-! of planes -/
noncomputable def pv (pl : List Pl) (vs : List Q4) (p c : Nat) : Int32 := if c < 4 then clm (pl.getD p p0) c else Int32.ofNat (ib (shw pl vs p))
noncomputable def pf (pl : List Pl) (vs : List Q4) (p : Nat) (x : Int64) (c : Nat) : Int64 := (31 * x) + (Int32.toInt64 (pv pl vs p c))
theorem cry_1 {I : Nat → Int32} {A : Nat → Nat → Int32} {L : Nat → Int64} (h : I 7 = 1) : f_X6_crystal I A L = some (I, A, L) := by
  unfold f_X6_crystal
  rw [if_neg (by rw [h]; decide)]
theorem ofP_v {I : Nat → Int32} {A : Nat → Nat → Int32} {L : Nat → Int64} {pl : List Pl} {vs : List Q4} (hl : pl.length ≤ 32) (h7 : I 7 = 1) (hx : rpX (I 20) (A 2) (A 3) (A 4) (A 5) pl) (h : So I A pl vs) {p c : Nat} (hp : p < pl.length) (hc : c ≤ 4) : f_X6_ofPlane (Int32.ofNat p) (Int32.ofNat c) I A L = some (pv pl vs p c, I, A, L) := by
  unfold pv
  by_cases c4 : c < 4
  · rw [if_pos c4]; exact ofP_c hl hx hp c4
  · rw [if_neg c4]
    have e : c = 4 := by omega
    subst e
    obtain ⟨d, d1, d2⟩ := isSh_s (L := L) hl h hp
    rw [ofP4, cry_1 h7, b1_some, d1, bd_some]
    rcases d2 with ⟨rfl, d2⟩ | ⟨rfl, d2⟩
    · rw [if_neg (by decide), ib_1 d2]; rfl
    · rw [if_pos rfl, ib_0 d2]; rfl
theorem dp56_s {I : Nat → Int32} {A : Nat → Nat → Int32} {L : Nat → Int64} {pl : List Pl} {vs : List Q4} (hl : pl.length ≤ 32) (h7 : I 7 = 1) (hx : rpX (I 20) (A 2) (A 3) (A 4) (A 5) pl) (h : So I A pl vs) (k : Int64 → Int32 → (Nat → Int32) → (Nat → Nat → Int32) → (Nat → Int64) → Option (Int64 × gS)) {p c : Nat} (hp : p < pl.length) (hc : c ≤ 4) (n : Nat) (x : Int64) : f_X6_digest_p56 k (n + 1) x (Int32.ofNat p) (Int32.ofNat c) I A L = f_X6_digest_p56 k n (pf pl vs p x c) (Int32.ofNat p) (Int32.ofNat (c + 1)) I A L := by
  rw [f_X6_digest_p56_e, if_neg (show ¬ (4 : Int32) < Int32.ofNat c from fun q => by have := (o_ltn (a := 4) (by omega) (by omega)).mp q; omega), ofP_v hl h7 hx h hp hc, b2_some, g_lt_eq, i_1]
  rfl
theorem dp50_s {I : Nat → Int32} {A : Nat → Nat → Int32} {L : Nat → Int64} {pl : List Pl} {vs : List Q4} (hl : pl.length ≤ 32) (h : Mo I A pl vs) (k : Int64 → Int32 → (Nat → Int32) → (Nat → Nat → Int32) → (Nat → Int64) → Option (Int64 × gS)) {p c : Nat} (hp : p < pl.length) (hc : c < 4) (n : Nat) (x : Int64) : f_X7_digest_p50 k (n + 1) x (Int32.ofNat p) (Int32.ofNat c) I A L = f_X7_digest_p50 k n (pf pl vs p x c) (Int32.ofNat p) (Int32.ofNat (c + 1)) I A L := by
  have ep : pv pl vs p c = clm (pl.getD p p0) c := by unfold pv; rw [if_pos hc]
  rw [f_X7_digest_p50_e, if_neg (show ¬ (4 : Int32) ≤ Int32.ofNat c from o_nle (a := 4) (by omega) (by omega) hc), get_s h.1 hl hp hc, bd_some, g_lt_eq, i_1, ← ep]
  rfl
theorem dp50_e {I : Nat → Int32} {A : Nat → Nat → Int32} {L : Nat → Int64} {pl : List Pl} {vs : List Q4} (hl : pl.length ≤ 32) (h : Mo I A pl vs) (k : Int64 → Int32 → (Nat → Int32) → (Nat → Nat → Int32) → (Nat → Int64) → Option (Int64 × gS)) {p : Nat} (hp : p < pl.length) (n : Nat) (x : Int64) : f_X7_digest_p50 k (n + 1) x (Int32.ofNat p) (Int32.ofNat 4) I A L = k (pf pl vs p x 4) (Int32.ofNat (p + 1)) I A L := by
  have ep : pv pl vs p 4 = Int32.ofNat (ib (shw pl vs p)) := rfl
  rw [f_X7_digest_p50_e, if_pos (by decide), o_ck (show p < 32 by omega) (by omega), i_tnn (by omega), i_1, g_lt_eq, g_lt_eq]
  unfold pf
  rcases h.2.2 p hp with ⟨a, b⟩ | ⟨a, b⟩
  · rw [if_neg (by rw [a]; decide), ep, ib_1 b]; rfl
  · rw [if_pos a, ep, ib_0 b]; rfl
/-- what comes behind the planes -/
def tlX (y : Int64) (I : Nat → Int32) (A : Nat → Nat → Int32) (L : Nat → Int64) : Option (Int64 × gS) := (Option.bind (f_X4_showing 38 I A L) (fun v2 => g_lt ((31 * y) + (Int32.toInt64 v2)) (fun v3 => g_lt ((31 * v3) + (Int32.toInt64 (I 615))) (fun v4 => Option.bind (f_X4_edges 38 I A L) (fun v6 => g_lt ((31 * v4) + (Int32.toInt64 v6)) (fun v7 => g_lt ((31 * v7) + (Int32.toInt64 (I 11))) (fun v8 => g_lt ((31 * v8) + (Int32.toInt64 (I 12))) (fun v9 => Option.bind (f_X4_addCornersTo 38 I A L v9) (fun v11 => some (v11, I, A, L))))))))))
def tlM (y : Int64) (I : Nat → Int32) (A : Nat → Nat → Int32) (L : Nat → Int64) : Option (Int64 × gS) := (Option.bind (f_X7_showing I A L) (fun v2 => g_lt ((31 * y) + (Int32.toInt64 v2)) (fun v3 => g_lt ((31 * v3) + (Int32.toInt64 (I 955))) (fun v4 => Option.bind (f_X7_edges I A L) (fun v6 => g_lt ((31 * v4) + (Int32.toInt64 v6)) (fun v7 => g_lt ((31 * v7) + (L 952)) (fun v8 => g_lt ((31 * v8) + (L 953)) (fun v9 => f_X7_digest_p165 4096 v9 0 I A L))))))))
theorem dpl_l {I : Nat → Int32} {A : Nat → Nat → Int32} {L : Nat → Int64} {pl : List Pl} {vs : List Q4} (hl : pl.length ≤ 32) (h7 : I 7 = 1) (hx : rpX (I 20) (A 2) (A 3) (A 4) (A 5) pl) (h : So I A pl vs) {I2 : Nat → Int32} {A2 : Nat → Nat → Int32} (hm : Mo I2 A2 pl vs) : ∀ (n p : Nat) (x : Int64), p ≤ pl.length → pl.length - p < n → ∃ y, f_X6_digest_p41 n x (Int32.ofNat p) I A L = tlX y I A L ∧ f_X7_digest_p37 n x (Int32.ofNat p) I2 A2 L = tlM y I2 A2 L := by
  intro n
  induction n with
  | zero => intro p x h1 h2; omega
  | succ n ih =>
    intro p x p1 p2
    rw [f_X6_digest_p41_e, f_X7_digest_p37_e, hx.1, m_c0, show A2 60 (Int32.toNatClampNeg 0) = Int32.ofNat pl.length from hm.1.1]
    by_cases e : p = pl.length
    · rw [if_pos (by rw [e]; exact o_le (by omega) (by omega) (by omega)), if_pos (by rw [e]; exact o_le (by omega) (by omega) (by omega))]
      exact ⟨x, rfl, rfl⟩
    · have hp : p < pl.length := by omega
      rw [if_neg (o_nle (by omega) (by omega) hp), if_neg (o_nle (by omega) (by omega) hp)]
      have sx : ∀ k, f_X6_digest_p56 k (4090 + 6) x (Int32.ofNat p) (Int32.ofNat 0) I A L = k (pf pl vs p (pf pl vs p (pf pl vs p (pf pl vs p (pf pl vs p x 0) 1) 2) 3) 4) (Int32.ofNat (p + 1)) I A L := fun k => by
        rw [dp56_s hl h7 hx h k hp (by omega) (4090 + 5), dp56_s hl h7 hx h k hp (by omega) (4090 + 4), dp56_s hl h7 hx h k hp (by omega) (4090 + 3), dp56_s hl h7 hx h k hp (by omega) (4090 + 2), dp56_s hl h7 hx h k hp (by omega) (4090 + 1), f_X6_digest_p56_e, if_pos (by decide), i_1]
      have sm : ∀ k, f_X7_digest_p50 k (4090 + 6) x (Int32.ofNat p) (Int32.ofNat 0) I2 A2 L = k (pf pl vs p (pf pl vs p (pf pl vs p (pf pl vs p (pf pl vs p x 0) 1) 2) 3) 4) (Int32.ofNat (p + 1)) I2 A2 L := fun k => by
        rw [dp50_s hl hm k hp (by omega) (4090 + 5), dp50_s hl hm k hp (by omega) (4090 + 4), dp50_s hl hm k hp (by omega) (4090 + 3), dp50_s hl hm k hp (by omega) (4090 + 2), dp50_e hl hm k hp (4090 + 1)]
      have sx' : f_X6_digest_p56 (f_X6_digest_p41 n) 4096 x (Int32.ofNat p) 0 I A L = _ := sx (f_X6_digest_p41 n)
      have sm' : f_X7_digest_p50 (f_X7_digest_p37 n) 4096 x (Int32.ofNat p) 0 I2 A2 L = _ := sm (f_X7_digest_p37 n)
      rw [sx', sm']
      exact ih (p + 1) _ (by omega) (by omega)
theorem tld_l {I : Nat → Int32} {A : Nat → Nat → Int32} {L : Nat → Int64} (hI : Inv I A L) : ∀ (n t : Nat) (x : Int64), t ≤ 6 → 6 - t < n → ∃ y, f_X6_digest_p12 n x (Int32.ofNat t) I A L = f_X6_digest_p41 4096 y 0 I A L ∧ f_X7_digest_p6 n x (Int32.ofNat t) I A L = g_b1 (f_X7_lays I A L) (fun I2 A3 L4 => f_X7_digest_p37 4096 y 0 I2 A3 L4) := by
  intro n
  induction n with
  | zero => intro t x h1 h2; omega
  | succ n ih =>
    intro t x t1 t2
    rw [f_X6_digest_p12_e, f_X7_digest_p6_e]
    by_cases e : t = 6
    · rw [if_pos (by rw [e]; decide), if_pos (by rw [e]; decide)]
      exact ⟨x, rfl, rfl⟩
    · rw [if_neg (show ¬ (5 : Int32) < Int32.ofNat t from fun q => by have := (o_ltn (a := 5) (by omega) (by omega)).mp q; omega), if_neg (show ¬ (6 : Int32) ≤ Int32.ofNat t from o_nle (a := 6) (by omega) (by omega) (by omega))]
      obtain ⟨v, v1, v2⟩ := inv_told hI (a := Int32.ofNat t) ⟨o_le (a := 0) (by omega) (by omega) (by omega), o_le (b := 5) (by omega) (by omega) (by omega)⟩
      rw [v1, bd_some, v2, bd_some, g_lt_eq, g_lt_eq, i_1]
      exact ih (t + 1) _ (by omega) (by omega)
theorem st_digest : gStep_digest Inv := by
  intro I A L hI
  obtain ⟨I1, A1, pl, vs, a1, a2, ok, a4, a5, h7, a7, a8, a9, -⟩ := inv_crystal hI
  obtain ⟨I2, A2, b1, b2, b3, b4⟩ := m_lay (L := L) ok a7.1 (I := I1) a5
  have hl := ok.2.1
  have h60 := a7.2.1
  have hb := So_bQ ok a7
  have hc : cX I1 A1 vs := ⟨a7.2.2.1, h60, hb⟩
  obtain ⟨y1, t1, t2⟩ := tld_l a2 4096 0 2179 (by omega) (by omega)
  obtain ⟨y2, u1, u2⟩ := dpl_l (L := L) hl h7 a4 a7 b2 4096 0 y1 (by omega) (by omega)
  have fr : vFr (I1 11) (I1 12) (L 952) (L 953) := by
    obtain ⟨pl', past, h1, h2, h3, h4, h5, h6', h7'⟩ := id a2
    exact h5
  obtain ⟨y3, c1, c2⟩ := crs_l (L := L) hc b2.2.1 4096 0 ((31 * ((31 * ((31 * ((31 * ((31 * y2) + (Int32.toInt64 (Int32.ofNat (nF pl vs))))) + (Int32.toInt64 (Int32.ofNat vs.length)))) + (Int32.toInt64 (Int32.ofNat (vs.length + nF pl vs - 2))))) + (L 952))) + (L 953)) (by omega) (by omega)
  have t1' : f_X6_digest_p12 4096 2179 0 I1 A1 L = _ := t1
  have t2' : f_X7_digest_p6 4096 2179 0 I1 A1 L = _ := t2
  have u1' : f_X6_digest_p41 4096 y1 0 I1 A1 L = _ := u1
  have u2' : f_X7_digest_p37 4096 y1 0 I2 A2 L = _ := u2
  have c1' : f_X4_addCornersTo 38 I1 A1 L ((31 * ((31 * ((31 * ((31 * ((31 * y2) + (Int32.toInt64 (Int32.ofNat (nF pl vs))))) + (Int32.toInt64 (Int32.ofNat vs.length)))) + (Int32.toInt64 (Int32.ofNat (vs.length + nF pl vs - 2))))) + (L 952))) + (L 953)) = some y3 := c1
  refine ⟨y3, I1, A1, L, I2, A2, L, ?_, ?_, inv_lay a2 b3 b4⟩
  · unfold f_X6_digest
    rw [a1, b1_some, t1', u1']
    unfold tlX
    rw [showing_x hl a7, bd_some, g_lt_eq, g_lt_eq, edges_x ok a7, bd_some, g_lt_eq, g_lt_eq, g_lt_eq, a7.2.2.1.1, fr.1, fr.2, c1', bd_some]
  · unfold f_X7_digest
    rw [t2', b1, b1_some, u2']
    unfold tlM
    rw [showing_m hl b2, bd_some, g_lt_eq, g_lt_eq, edges_m ok a7.1 h60 b2, bd_some, g_lt_eq, g_lt_eq, g_lt_eq, b2.2.1.1]
    exact c2
