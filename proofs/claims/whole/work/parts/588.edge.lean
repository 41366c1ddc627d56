/-! edge -/
theorem bt_ext {x y : Int32} (h : ∀ q, q < 32 → bt x q = bt y q) : x = y := by
  apply Int32.toBitVec_inj.mp
  apply BitVec.eq_of_getLsbD_eq
  intro i hi
  exact h i hi
theorem bt_2 (x : Int32) {p q : Nat} (hp : p < 32) (hq : q < 32) : (x &&& ((1 <<< (Int32.ofNat p &&& 31)) ||| (1 <<< (Int32.ofNat q &&& 31)))) = ((1 <<< (Int32.ofNat p &&& 31)) ||| (1 <<< (Int32.ofNat q &&& 31))) ↔ bt x p = true ∧ bt x q = true := by
  constructor
  · intro h
    have k : ∀ i, i < 32 → (bt x i && (decide (i = p) || decide (i = q))) = (decide (i = p) || decide (i = q)) := fun i hi => by
      have := congrArg (fun z => bt z i) h
      simp only [bt_and, bt_or, bt_one p hp i hi, bt_one q hq i hi] at this
      exact this
    have k1 := k p hp
    have k2 := k q hq
    simp at k1 k2
    exact ⟨k1, k2⟩
  · rintro ⟨h1, h2⟩
    apply bt_ext
    intro i hi
    rw [bt_and, bt_or, bt_one p hp i hi, bt_one q hq i hi]
    by_cases e1 : i = p
    · rw [e1, h1]; rfl
    · by_cases e2 : i = q
      · rw [e2, h2]; simp
      · simp [e1, e2]
theorem cBx_l {I : Nat → Int32} {A : Nat → Nat → Int32} {L : Nat → Int64} {pl : List Pl} {vs : List Q4} (hl : pl.length ≤ 32) (h : So I A pl vs) {p q : Nat} (hp : p < pl.length) (hq : q < pl.length) : ∀ (n j : Nat), j ≤ vs.length → vs.length - j < n → f_X4_cornersOnBoth_p14 38 I A L n ((1 <<< (Int32.ofNat p &&& 31)) ||| (1 <<< (Int32.ofNat q &&& 31))) (Int32.ofNat (sm j (fun i => ib (sd (pl.getD p p0) (vs.getD i q0) = 0 ∧ sd (pl.getD q p0) (vs.getD i q0) = 0)))) (Int32.ofNat j) = some (Int32.ofNat (nB pl vs p q)) := by
  have h60 := h.2.1
  intro n
  induction n with
  | zero => intro j h1 h2; omega
  | succ n ih =>
    intro j h1 h2
    rw [f_X4_cornersOnBoth_p14_e, show I (16 * 38 + 7) = Int32.ofNat vs.length from h.2.2.1.1]
    by_cases e : j = vs.length
    · rw [if_pos (by rw [e]; exact o_le (by omega) (by omega) (by omega)), e, nB_sm]
    · have hj : j < vs.length := by omega
      rw [if_neg (o_nle (by omega) (by omega) hj), o_ck (by omega) (by omega), i_tnn (by omega), show A (38 + 5) j = onB pl (vs.getD j q0) pl.length from h.2.2.2.1 j hj, i_1, i_1]
      have t := ih (j + 1) (by omega) (by omega)
      rw [sm_s] at t
      have k := bt_2 (onB pl (vs.getD j q0) pl.length) (show p < 32 by omega) (show q < 32 by omega)
      rw [onB_bt _ _ hl hp, onB_bt _ _ hl hq] at k
      by_cases z : sd (pl.getD p p0) (vs.getD j q0) = 0 ∧ sd (pl.getD q p0) (vs.getD j q0) = 0
      · rw [if_pos (k.mpr z)]
        rw [ib_1 z] at t
        exact t
      · rw [if_neg (fun y => z (k.mp y))]
        rw [ib_0 z] at t
        exact t
theorem cBx_s {I : Nat → Int32} {A : Nat → Nat → Int32} {L : Nat → Int64} {pl : List Pl} {vs : List Q4} (hl : pl.length ≤ 32) (h : So I A pl vs) {p q : Nat} (hp : p < pl.length) (hq : q < pl.length) : f_X4_cornersOnBoth 38 I A L (Int32.ofNat p) (Int32.ofNat q) = some (Int32.ofNat (nB pl vs p q)) := by
  unfold f_X4_cornersOnBoth
  rw [g_lt_eq]
  exact cBx_l hl h hp hq 4096 0 (by omega) (by have := h.2.1; omega)
/-- the way of an edge, over what both divide by -/
def wyN (w : V3) : Nat := Nat.gcd (Nat.gcd w.1.natAbs w.2.1.natAbs) w.2.2.natAbs
theorem wyN_0 {w : V3} (h : w ≠ (0, 0, 0)) : 0 < wyN w := by
  unfold wyN
  rcases Nat.eq_zero_or_pos (Nat.gcd (Nat.gcd w.1.natAbs w.2.1.natAbs) w.2.2.natAbs) with e | e
  · exfalso
    have h1 := Nat.eq_zero_of_gcd_eq_zero_left e
    have h2 := Nat.eq_zero_of_gcd_eq_zero_right e
    have h3 := Nat.eq_zero_of_gcd_eq_zero_left h1
    have h4 := Nat.eq_zero_of_gcd_eq_zero_right h1
    have e1 : w.1 = 0 := by omega
    have e2 : w.2.1 = 0 := by omega
    have e3 : w.2.2 = 0 := by omega
    exact h (Prod.ext e1 (Prod.ext e2 e3))
  · exact e
theorem way_b {x y z : Int32} {w : V3} {B : Nat} (h1 : bI x w.1 B) (h2 : bI y w.2.1 B) (h3 : bI z w.2.2 B) (hB : B ≤ 1000) (hw : w ≠ (0, 0, 0)) {c : Nat} (hc : c = 1 ∨ c = 2 ∨ c = 3) (b : Nat) (I : Nat → Int32) (A : Nat → Nat → Int32) (L : Nat → Int64) (I' : Nat → Int32) (A' : Nat → Nat → Int32) (L' : Nat → Int64) : ∃ r, Option.bind (f_X6_commonDivisor I A L x y) (fun v5 => Option.bind (f_X6_commonDivisor I A L v5 z) (fun v7 => if 0 < v7 then (if x = 0 then (if y = 0 then (f_X2_wayBetween_p130 b I A L (Int32.ofNat c - 1) x y z v7 z) else (f_X2_wayBetween_p130 b I A L (Int32.ofNat c - 1) x y z v7 y)) else (f_X2_wayBetween_p130 b I A L (Int32.ofNat c - 1) x y z v7 x)) else (some 0))) = some r ∧
    Option.bind (f_X7_common I' A' L' x y) (fun v41 => Option.bind (f_X7_common I' A' L' v41 z) (fun v43 => if x = 0 then (if y = 0 then (f_X7_edge_p204 (Int32.ofNat c) x y z v43 z I' A' L') else (f_X7_edge_p204 (Int32.ofNat c) x y z v43 y I' A' L')) else (f_X7_edge_p204 (Int32.ofNat c) x y z v43 x I' A' L'))) = some (r, I', A', L') := by
  have g1 := gcd_bd h1.2 h2.2
  have g2 := gcd_bd g1 h3.2
  have n0 := wyN_0 hw
  have n1 : wyN w < 2147483648 := by unfold wyN; omega
  have k1 : bI (Int32.ofNat (Nat.gcd w.1.natAbs w.2.1.natAbs)) ((Nat.gcd w.1.natAbs w.2.1.natAbs : Nat) : Int) (Nat.gcd w.1.natAbs w.2.1.natAbs) := b_n (by omega)
  have eN : Nat.gcd (((Nat.gcd w.1.natAbs w.2.1.natAbs : Nat) : Int)).natAbs w.2.2.natAbs = wyN w := rfl
  rw [x_gcd I A L h1 h2 (by omega) (by omega), bd_some, x_gcd I A L k1 h3 (by omega) (by omega), bd_some, m_gcd I' A' L' h1 h2 (by omega) (by omega), bd_some, m_gcd I' A' L' k1 h3 (by omega) (by omega), bd_some, eN, if_pos (show (0 : Int32) < Int32.ofNat (wyN w) from (o_ltn (a := 0) (by omega) n1).mpr n0)]
  have dv0 : ¬ Int32.ofNat (wyN w) = 0 := o_ne0 n1 (by omega)
  have dv1 : ¬ -(Int32.ofNat (wyN w)) = 0 := fun q => by
    have k := b_neg (b_n n1) n1
    have := (b_eq k b_0).mp q
    omega
  have p145 : ∀ s : Int32, ¬ s = 0 → ∃ r, f_X2_wayBetween_p145 b I A L (Int32.ofNat c - 1) x y z s = some r ∧ f_X7_edge_p215 (Int32.ofNat c) x y z s I' A' L' = some (r, I', A', L') := fun s hs => by
    unfold f_X2_wayBetween_p145 f_X7_edge_p215 g_dv
    rw [if_neg hs, if_neg hs, if_neg hs, if_neg hs, if_neg hs, if_neg hs]
    rcases hc with rfl | rfl | rfl
    · exact ⟨x / s, rfl, rfl⟩
    · exact ⟨y / s, rfl, rfl⟩
    · exact ⟨z / s, rfl, rfl⟩
  have p130 : ∀ s : Int32, ¬ s = 0 → ∃ r, f_X2_wayBetween_p130 b I A L (Int32.ofNat c - 1) x y z (Int32.ofNat (wyN w)) s = some r ∧ f_X7_edge_p204 (Int32.ofNat c) x y z (Int32.ofNat (wyN w)) s I' A' L' = some (r, I', A', L') := fun s hs => by
    unfold f_X2_wayBetween_p130 f_X7_edge_p204
    have hs' : ¬ s.toInt = 0 := fun q => hs (i_eq.mpr q)
    by_cases q : s ≤ 0
    · have q1 := i_le.mp q
      have q1 : s.toInt ≤ 0 := q1
      rw [if_pos q, if_neg (show ¬ (0 : Int32) ≤ s from fun y => by have := i_le.mp y; have : 0 ≤ s.toInt := this; omega)]
      exact p145 _ dv1
    · rw [if_neg q, if_pos (show (0 : Int32) ≤ s from Int32.le_of_lt (i_nle q))]
      exact p145 _ dv0
  by_cases ex : x = 0
  · rw [if_pos ex, if_pos ex]
    by_cases ey : y = 0
    · rw [if_pos ey, if_pos ey]
      refine p130 z (fun ez => hw ?_)
      have q1 := (b_eq h1 b_0).mp ex
      have q2 := (b_eq h2 b_0).mp ey
      have q3 := (b_eq h3 b_0).mp ez
      exact Prod.ext q1 (Prod.ext q2 q3)
    · rw [if_neg ey, if_neg ey]
      exact p130 y ey
  · rw [if_neg ex, if_neg ex]
    exact p130 x ex
theorem st_edge : gStep_edge Inv := by
  intro a b w I A L hI
  have bx : f_X6_edge_p30 I A L = some (-100, va_up I 13 (I 13 + 1), A, L) := by unfold f_X6_edge_p30; rw [rf_bad]; rfl
  have bm : f_X7_edge_p30 (va_up I 13 (I 13 + 1)) A L = some (-100, va_up I 13 (I 13 + 1), va_up A 63 (upd (A 63) 0 (A 63 0 + 1)), L) := by unfold f_X7_edge_p30; rw [rm_b]; rfl
  obtain ⟨pl', past, ⟨ok', hx, hm⟩, hst, h3, h4, h5, h6, h7⟩ := id hI
  have hl' := ok'.2.1
  by_cases hp : 0 ≤ a ∧ a < Int32.ofNat pl'.length
  · by_cases hq : 0 ≤ b ∧ b < Int32.ofNat pl'.length
    · by_cases hab : a = b
      · refine ⟨-100, va_up I 13 (I 13 + 1), A, L, _, _, _, ?_, ?_, inv_bad hI⟩
        · unfold f_X6_edge
          rw [x_plane I A L _ hx.1, if_pos hp, bd_some, if_neg (by decide), x_plane I A L _ hx.1, if_pos hq, bd_some, if_neg (by decide), if_pos hab, bx]
        · unfold f_X7_edge
          rw [m_plane _ A L _ hm.1 ok'.1 hl', if_pos hp, bd_some, if_neg (by decide), m_plane _ A L _ hm.1 ok'.1 hl', if_pos hq, bd_some, if_neg (by decide), if_pos hab, bm]
      · by_cases hw : 0 ≤ w ∧ w ≤ 4
        · obtain ⟨p, hp', rfl⟩ := pl_nat (by omega) hp
          obtain ⟨q, hq', rfl⟩ := pl_nat (by omega) hq
          obtain ⟨c, hc, rfl⟩ := rng_n (n := 4) (by omega) hw
          obtain ⟨I1, A1, pl, vs, a1, a2, ok, a4, a5, a6, a7, I2, A2, b1, b2, b3, b4, b5⟩ := both hI
          have hl := ok.2.1
          have h60 := a5.2.1
          have el : pl.length = pl'.length := by
            have x1 := a4.1
            rw [a6, hx.1] at x1
            have := (b_eq (b_n (n := pl'.length) (by omega)) (b_n (n := pl.length) (by omega))).mp x1
            omega
          rw [← el] at hp' hq'
          have hpq : q ≠ p := fun e => hab (by rw [e])
          have hab' : ¬ Int32.ofNat p = Int32.ofNat q := hab
          have ex : f_X6_edge (Int32.ofNat p) (Int32.ofNat q) (Int32.ofNat c) I A L = Option.bind (f_X4_cornersOnBoth 38 I1 A1 L (Int32.ofNat p) (Int32.ofNat q)) (fun v10 => if Int32.ofNat c = 4 then (some (v10, I1, A1, L)) else (if v10 < 2 then (some (0, I1, A1, L)) else (Option.bind (f_X4_isShown 38 I1 A1 L (Int32.ofNat p)) (fun v12 => if v12 = 0 then (some (0, I1, A1, L)) else (Option.bind (f_X4_isShown 38 I1 A1 L (Int32.ofNat q)) (fun v14 => if v14 = 0 then (some (0, I1, A1, L)) else (if Int32.ofNat c = 0 then (some (1, I1, A1, L)) else (Option.bind (f_X2_wayBetween 1 I1 A1 L (Int32.ofNat p) (Int32.ofNat q) (Int32.ofNat c - 1)) (fun v16 => some (v16, I1, A1, L)))))))))) := by
            unfold f_X6_edge
            rw [x_plane I A L _ hx.1, if_pos hp, bd_some, if_neg (by decide), x_plane I A L _ hx.1, if_pos hq, bd_some, if_neg (by decide), if_neg hab', if_neg (Int32.not_lt.mpr hw.1), if_pos hw.2, a1, b1_some]
          rw [cBx_s hl a5 hp' hq', bd_some] at ex
          have em : f_X7_edge (Int32.ofNat p) (Int32.ofNat q) (Int32.ofNat c) I1 A1 L = if Int32.ofNat c = 4 then (Option.bind (f_X7_cornersOnBoth I2 A2 L (Int32.ofNat p) (Int32.ofNat q)) (fun v45 => some (v45, I2, A2, L))) else (if Int32.ofNat c = 0 then (f_X7_edge_p66 (Int32.ofNat p) (Int32.ofNat q) I2 A2 L) else (Option.bind (f_X7_isEdge I2 A2 L (Int32.ofNat p) (Int32.ofNat q)) (fun v12 => if v12 = 0 then (f_X7_edge_p66 (Int32.ofNat p) (Int32.ofNat q) I2 A2 L) else (Option.bind (f_X7_get I2 A2 L (Int32.ofNat p) 1) (fun v14 => Option.bind (f_X7_get I2 A2 L (Int32.ofNat q) 2) (fun v16 => Option.bind (f_X7_get I2 A2 L (Int32.ofNat p) 2) (fun v18 => Option.bind (f_X7_get I2 A2 L (Int32.ofNat q) 1) (fun v20 => g_lt ((v14 * v16) - (v18 * v20)) (fun v21 => Option.bind (f_X7_get I2 A2 L (Int32.ofNat p) 2) (fun v23 => Option.bind (f_X7_get I2 A2 L (Int32.ofNat q) 0) (fun v25 => Option.bind (f_X7_get I2 A2 L (Int32.ofNat p) 0) (fun v27 => Option.bind (f_X7_get I2 A2 L (Int32.ofNat q) 2) (fun v29 => g_lt ((v23 * v25) - (v27 * v29)) (fun v30 => Option.bind (f_X7_get I2 A2 L (Int32.ofNat p) 0) (fun v32 => Option.bind (f_X7_get I2 A2 L (Int32.ofNat q) 1) (fun v34 => Option.bind (f_X7_get I2 A2 L (Int32.ofNat p) 1) (fun v36 => Option.bind (f_X7_get I2 A2 L (Int32.ofNat q) 0) (fun v38 => g_lt ((v32 * v34) - (v36 * v38)) (fun v39 => Option.bind (f_X7_common I2 A2 L v21 v30) (fun v41 => Option.bind (f_X7_common I2 A2 L v41 v39) (fun v43 => if v21 = 0 then (if v30 = 0 then (f_X7_edge_p204 (Int32.ofNat c) v21 v30 v39 v43 v39 I2 A2 L) else (f_X7_edge_p204 (Int32.ofNat c) v21 v30 v39 v43 v30 I2 A2 L)) else (f_X7_edge_p204 (Int32.ofNat c) v21 v30 v39 v43 v21 I2 A2 L)))))))))))))))))))))) := by
            unfold f_X7_edge
            rw [m_plane _ A1 L _ a7.1 ok.1 hl, if_pos (by rw [el]; exact hp), bd_some, if_neg (by decide), m_plane _ A1 L _ a7.1 ok.1 hl, if_pos (by rw [el]; exact hq), bd_some, if_neg (by decide), if_neg hab', m_in, if_pos hw, bd_some, if_neg (by decide), b1, b1_some]
          by_cases c4 : c = 4
          · rw [if_pos (by rw [c4]; rfl)] at ex em
            refine ⟨_, I1, A1, L, I2, A2, L, ex, ?_, b3⟩
            rw [em, cBoth_s hl h60 b2.2.1 hp' hq', bd_some]
          · have k4 := b_eq (b_n (n := c) (by omega)) (show bI 4 4 4 from b_n (n := 4) (by omega))
            rw [if_neg (fun z => c4 (by have := k4.mp z; omega))] at ex em
            obtain ⟨e, e1, e2⟩ := isEdge_s (I := I2) (L := L) hl h60 b2 hp' hq'
            have m66 : f_X7_edge_p66 (Int32.ofNat p) (Int32.ofNat q) I2 A2 L = some (e, I2, A2, L) := by
              unfold f_X7_edge_p66
              rw [e1, bd_some]
              rcases e2 with ⟨rfl, -⟩ | ⟨rfl, -⟩ <;> rfl
            have hn := nB_le pl vs p q
            have k2 := b_lt (b_n (n := nB pl vs p q) (by omega)) (show bI 2 2 2 from b_n (n := 2) (by omega))
            obtain ⟨s, s1, s2⟩ := isSh_s (L := L) hl a5 hp'
            obtain ⟨t, t1, t2⟩ := isSh_s (L := L) hl a5 hq'
            rw [s1, bd_some, t1, bd_some] at ex
            rcases e2 with ⟨rfl, e2⟩ | ⟨rfl, e2⟩
            · -- an edge
              have s0 : s = 1 := by
                rcases s2 with ⟨z, -⟩ | ⟨-, z⟩
                · exact z
                · exact absurd e2.1 z
              have t0 : t = 1 := by
                rcases t2 with ⟨z, -⟩ | ⟨-, z⟩
                · exact z
                · exact absurd e2.2.1 z
              rw [if_neg (fun z => by have := k2.mp z; omega), s0, t0, if_neg (by decide), if_neg (by decide)] at ex
              by_cases c0 : c = 0
              · rw [if_pos (by rw [c0]; rfl)] at ex em
                exact ⟨_, I1, A1, L, I2, A2, L, ex, by rw [em, m66], b3⟩
              · have k0 := b_eq (b_n (n := c) (by omega)) b_0
                rw [if_neg (fun z => c0 (by have := k0.mp z; omega))] at ex em
                rw [e1, bd_some, if_neg (by decide)] at em
                have hP : pl.getD p p0 = (A1 2 p, A1 3 p, A1 4 p, A1 5 p) := a4.2 p hp'
                have hQ : pl.getD q p0 = (A1 2 q, A1 3 q, A1 4 q, A1 5 q) := a4.2 q hq'
                have oP := okP_b (ok.2.2.1 _ (gD_mem hp'))
                have oQ := okP_b (ok.2.2.1 _ (gD_mem hq'))
                have g0 : ∀ p, p < pl.length → f_X7_get I2 A2 L (Int32.ofNat p) 0 = some (A1 2 p) := fun p hp => by rw [show A1 2 p = clm (pl.getD p p0) 0 from by rw [a4.2 p hp]; rfl]; exact get_s (c := 0) b2.1 hl hp (by omega)
                have g1 : ∀ p, p < pl.length → f_X7_get I2 A2 L (Int32.ofNat p) 1 = some (A1 3 p) := fun p hp => by rw [show A1 3 p = clm (pl.getD p p0) 1 from by rw [a4.2 p hp]; rfl]; exact get_s (c := 1) b2.1 hl hp (by omega)
                have g2 : ∀ p, p < pl.length → f_X7_get I2 A2 L (Int32.ofNat p) 2 = some (A1 4 p) := fun p hp => by rw [show A1 4 p = clm (pl.getD p p0) 2 from by rw [a4.2 p hp]; rfl]; exact get_s (c := 2) b2.1 hl hp (by omega)
                rw [g0 p hp', g0 q hq', g1 p hp', g1 q hq', g2 p hp', g2 q hq'] at em
                simp only [bd_some, g_lt_eq] at em
                have wx : f_X2_wayBetween 1 I1 A1 L (Int32.ofNat p) (Int32.ofNat q) (Int32.ofNat c - 1) = Option.bind (f_X6_commonDivisor I1 A1 L (A1 3 p * A1 4 q - A1 4 p * A1 3 q) (A1 4 p * A1 2 q - A1 2 p * A1 4 q)) (fun v5 => Option.bind (f_X6_commonDivisor I1 A1 L v5 (A1 2 p * A1 3 q - A1 3 p * A1 2 q)) (fun v7 => if 0 < v7 then (if (A1 3 p * A1 4 q - A1 4 p * A1 3 q) = 0 then (if (A1 4 p * A1 2 q - A1 2 p * A1 4 q) = 0 then (f_X2_wayBetween_p130 1 I1 A1 L (Int32.ofNat c - 1) (A1 3 p * A1 4 q - A1 4 p * A1 3 q) (A1 4 p * A1 2 q - A1 2 p * A1 4 q) (A1 2 p * A1 3 q - A1 3 p * A1 2 q) v7 (A1 2 p * A1 3 q - A1 3 p * A1 2 q)) else (f_X2_wayBetween_p130 1 I1 A1 L (Int32.ofNat c - 1) (A1 3 p * A1 4 q - A1 4 p * A1 3 q) (A1 4 p * A1 2 q - A1 2 p * A1 4 q) (A1 2 p * A1 3 q - A1 3 p * A1 2 q) v7 (A1 4 p * A1 2 q - A1 2 p * A1 4 q))) else (f_X2_wayBetween_p130 1 I1 A1 L (Int32.ofNat c - 1) (A1 3 p * A1 4 q - A1 4 p * A1 3 q) (A1 4 p * A1 2 q - A1 2 p * A1 4 q) (A1 2 p * A1 3 q - A1 3 p * A1 2 q) v7 (A1 3 p * A1 4 q - A1 4 p * A1 3 q))) else (some 0))) := by
                  unfold f_X2_wayBetween
                  simp only [g_lt_eq, o_ck (show p < 32 by omega) (show 32 < 2147483648 by omega), o_ck (show q < 32 by omega) (show 32 < 2147483648 by omega), i_tnn (show p < 2147483648 by omega), i_tnn (show q < 2147483648 by omega)]
                rw [hP] at oP
                rw [hQ] at oQ
                obtain ⟨p1, p2, p3, -⟩ := oP
                obtain ⟨q1, q2, q3, -⟩ := oQ
                obtain ⟨u, u1, -, u2, u3⟩ := nB_w (srt_nd a5.1.1) e2.2.2 q0
                have hW := shw_np e2.1 e2.2.1 hpq ((a5.1.2 u).mp u1).1.1 u2 u3
                rw [hP, hQ] at hW
                obtain ⟨r, r1, r2⟩ := way_b (w := crs (nrm (A1 2 p, A1 3 p, A1 4 p, A1 5 p)) (nrm (A1 2 q, A1 3 q, A1 4 q, A1 5 q))) (b_sub (b_mul p2 q3 (by decide)) (b_mul p3 q2 (by decide)) (by decide)) (b_sub (b_mul p3 q1 (by decide)) (b_mul p1 q3 (by decide)) (by decide)) (b_sub (b_mul p1 q2 (by decide)) (b_mul p2 q1 (by decide)) (by decide)) (by decide) hW (c := c) (by omega) 1 I1 A1 L I2 A2 L
                refine ⟨r, I1, A1, L, I2, A2, L, ?_, ?_, b3⟩
                · rw [ex, wx, r1, bd_some]
                · rw [em, r2]
            · -- none
              have x0 : f_X6_edge (Int32.ofNat p) (Int32.ofNat q) (Int32.ofNat c) I A L = some (0, I1, A1, L) := by
                rw [ex]
                by_cases y : nB pl vs p q < 2
                · rw [if_pos (k2.mpr (by omega))]
                · rw [if_neg (fun z => y (by have := k2.mp z; omega))]
                  rcases s2 with ⟨rfl, s2⟩ | ⟨rfl, s2⟩
                  · rw [if_neg (by decide)]
                    rcases t2 with ⟨rfl, t2⟩ | ⟨rfl, t2⟩
                    · exact absurd ⟨s2, t2, by omega⟩ e2
                    · rw [if_pos rfl]
                  · rw [if_pos rfl]
              refine ⟨0, I1, A1, L, I2, A2, L, x0, ?_, b3⟩
              rw [em, e1, bd_some, if_pos rfl, m66]
              by_cases y : Int32.ofNat c = 0
              · rw [if_pos y]
              · rw [if_neg y]
        · refine ⟨-100, va_up I 13 (I 13 + 1), A, L, _, _, _, ?_, ?_, inv_bad hI⟩
          · unfold f_X6_edge
            rw [x_plane I A L _ hx.1, if_pos hp, bd_some, if_neg (by decide), x_plane I A L _ hx.1, if_pos hq, bd_some, if_neg (by decide), if_neg hab]
            by_cases h1 : w < 0
            · rw [if_pos h1, bx]
            · rw [if_neg h1, if_neg (fun q => hw ⟨i_nlt h1, q⟩), bx]
          · unfold f_X7_edge
            rw [m_plane _ A L _ hm.1 ok'.1 hl', if_pos hp, bd_some, if_neg (by decide), m_plane _ A L _ hm.1 ok'.1 hl', if_pos hq, bd_some, if_neg (by decide), if_neg hab, m_in, if_neg hw, bd_some, if_pos rfl, bm]
    · refine ⟨-100, va_up I 13 (I 13 + 1), A, L, _, _, _, ?_, ?_, inv_bad hI⟩
      · unfold f_X6_edge
        rw [x_plane I A L _ hx.1, if_pos hp, bd_some, if_neg (by decide), x_plane I A L _ hx.1, if_neg hq, bd_some, if_pos rfl, bx]
      · unfold f_X7_edge
        rw [m_plane _ A L _ hm.1 ok'.1 hl', if_pos hp, bd_some, if_neg (by decide), m_plane _ A L _ hm.1 ok'.1 hl', if_neg hq, bd_some, if_pos rfl, bm]
  · refine ⟨-100, va_up I 13 (I 13 + 1), A, L, _, _, _, ?_, ?_, inv_bad hI⟩
    · unfold f_X6_edge
      rw [x_plane I A L _ hx.1, if_neg hp, bd_some, if_pos rfl, bx]
    · unfold f_X7_edge
      rw [m_plane _ A L _ hm.1 ok'.1 hl', if_neg hp, bd_some, if_pos rfl, bm]
