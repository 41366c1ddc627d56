/-! corner, meets -/
theorem So_bQ {I : Nat → Int32} {A : Nat → Nat → Int32} {pl : List Pl} {vs : List Q4} (ok : okL pl) (h : So I A pl vs) : ∀ v ∈ vs, bQ v := fun v hv => isC_bQ (okL_Bx ok) ((h.1.2 v).mp hv)
def cq (c : Nat) (v : Q4) : Int := if c = 0 then v.1 else if c = 1 then v.2.1 else v.2.2.1
theorem crd_x {I : Nat → Int32} {A : Nat → Nat → Int32} {L : Nat → Int64} {vs : List Q4} (hr : ∀ j, j < vs.length → vs.getD j q0 = rw4 A 38 j) (hb : ∀ v ∈ vs, bQ v) (h60 : vs.length ≤ 60) {j c : Nat} (hj : j < vs.length) (hc : c ≤ 2) : ∃ o, f_X4_coordinate 38 I A L (Int32.ofNat j) (Int32.ofNat c) = some o ∧ bI o (cq c (vs.getD j q0)) 9720 := by
  obtain ⟨b1, b2, b3, b4⟩ := bP_row (hr j hj) (hb _ (vD_mem hj))
  unfold f_X4_coordinate
  rw [o_ck (by omega) (by omega), o_ck (by omega) (by omega), o_ck (by omega) (by omega), i_tnn (by omega)]
  rcases (show c = 0 ∨ c = 1 ∨ c = 2 by omega) with rfl | rfl | rfl
  · exact ⟨_, rfl, b1⟩
  · exact ⟨_, rfl, b2⟩
  · exact ⟨_, rfl, b3⟩
theorem crd_m {A : Nat → Nat → Int32} {pl : List Pl} {vs : List Q4} (hc : ∀ j, j < vs.length → okE pl (A 65) j (vs.getD j q0)) (hb : ∀ v ∈ vs, bQ v) {j c : Nat} (hj : j < vs.length) (h2 : c ≤ 2) : bI (A 65 (5 * j + c)) (cq c (vs.getD j q0)) 9720 := by
  obtain ⟨b1, b2, b3, b4⟩ := bP_M (hc j hj) (hb _ (vD_mem hj))
  rcases (show c = 0 ∨ c = 1 ∨ c = 2 by omega) with rfl | rfl | rfl
  · exact b1
  · exact b2
  · exact b3
theorem dd_x {A : Nat → Nat → Int32} {vs : List Q4} (hr : ∀ j, j < vs.length → vs.getD j q0 = rw4 A 38 j) (hb : ∀ v ∈ vs, bQ v) {j : Nat} (hj : j < vs.length) : bI (A 42 j) (vs.getD j q0).2.2.2 162 := (bP_row (hr j hj) (hb _ (vD_mem hj))).2.2.2
theorem dd_m {A : Nat → Nat → Int32} {pl : List Pl} {vs : List Q4} (hc : ∀ j, j < vs.length → okE pl (A 65) j (vs.getD j q0)) (hb : ∀ v ∈ vs, bQ v) {j : Nat} (hj : j < vs.length) : bI (A 65 (5 * j + 3)) (vs.getD j q0).2.2.2 162 := (bP_M (hc j hj) (hb _ (vD_mem hj))).2.2.2
theorem b_uni {x y : Int32} {v : Int} {B C : Nat} (h : bI x v B) (k : bI y v C) : x = y := (b_eq h k).mpr rfl
/-- the fraction, in lowest terms -/
def frX (I : Nat → Int32) (a b : Int32) : Nat → Int32 := va_up (va_up I 11 a) 12 b
def frL (L : Nat → Int64) (a b : Int32) : Nat → Int64 := va_up (va_up L 952 (Int32.toInt64 a)) 953 (Int32.toInt64 b)
theorem inv_frac {I : Nat → Int32} {A : Nat → Nat → Int32} {L : Nat → Int64} (h : Inv I A L) (a b : Int32) : Inv (frX I a b) A (frL L a b) := by
  obtain ⟨pl, past, h1, h2, h3, h4, h5, h6, h7⟩ := h
  unfold frX frL
  refine ⟨pl, past, ?_, ?_, ?_, ?_, ?_, ?_, ?_⟩ <;> simp only [va_up, Nat.reduceEqDiff, if_true, if_false, reduceIte] <;> first | assumption | skip
  · exact ⟨rfl, rfl⟩
theorem gcd_pos2 {v w : Int} (hw : w ≠ 0) : 0 < Nat.gcd v.natAbs w.natAbs := Nat.gcd_pos_of_pos_right _ (by omega)
theorem frac_x {x y : Int32} {v w : Int} {B C : Nat} (h : bI x v B) (k : bI y w C) (hw : w ≠ 0) (hB : B < 1000000000) (hC : C < 1000000000) (I : Nat → Int32) (A : Nat → Nat → Int32) (L : Nat → Int64) : f_X6_setFraction x y I A L = some (frX I (x / Int32.ofNat (Nat.gcd v.natAbs w.natAbs)) (y / Int32.ofNat (Nat.gcd v.natAbs w.natAbs)), A, L) := by
  have g0 := gcd_pos2 (v := v) hw
  have g1 := gcd_bd h.2 k.2
  unfold f_X6_setFraction
  rw [x_gcd I A L h k (by omega) (by omega), bd_some, if_neg (show ¬ Int32.ofNat (Nat.gcd v.natAbs w.natAbs) ≤ 0 from o_nle (b := 0) (by omega) (by omega) g0), o_dv (by omega) (by omega), g_lt_eq, o_dv (by omega) (by omega), g_lt_eq]
  rfl
theorem frac_m {x y : Int32} {v w : Int} {B C : Nat} (h : bI x v B) (k : bI y w C) (hw : w ≠ 0) (hB : B < 1000000000) (hC : C < 1000000000) (I : Nat → Int32) (A : Nat → Nat → Int32) (L : Nat → Int64) : f_X7_fraction x y I A L = some (I, A, frL L (x / Int32.ofNat (Nat.gcd v.natAbs w.natAbs)) (y / Int32.ofNat (Nat.gcd v.natAbs w.natAbs))) := by
  have g0 := gcd_pos2 (v := v) hw
  have g1 := gcd_bd h.2 k.2
  unfold f_X7_fraction
  rw [m_gcd I A L h k (by omega) (by omega), bd_some, o_dv (by omega) (by omega), g_lt_eq, o_dv (by omega) (by omega), g_lt_eq]
  rfl
theorem frac_b {x y : Int32} {v w : Int} {B C : Nat} (h : bI x v B) (k : bI y w C) (hw : w ≠ 0) (hB : B < 1000000000) (hC : C < 1000000000) : ∃ a b, (∀ I A L, f_X6_setFraction x y I A L = some (frX I a b, A, L)) ∧ ∀ I A L, f_X7_fraction x y I A L = some (I, A, frL L a b) := ⟨_, _, fun I A L => frac_x h k hw hB hC I A L, fun I A L => frac_m h k hw hB hC I A L⟩
/-- a number that is not below 0 -/
theorem nn_nat {a : Int32} (h : ¬ a < 0) : ∃ j, j < 2147483648 ∧ a = Int32.ofNat j := by
  have h1 := i_le.mp (i_nlt h)
  have h1 : 0 ≤ a.toInt := h1
  have h2 := Int32.toInt_lt a
  refine ⟨a.toInt.toNat, by omega, ?_⟩
  rw [i_eq, i_nat (by omega)]
  omega
theorem o_ltn {a b : Nat} (ha : a < 2147483648) (hb : b < 2147483648) : Int32.ofNat a < Int32.ofNat b ↔ a < b := by
  rw [b_lt (b_n ha) (b_n hb)]; omega
theorem st_corner : gStep_corner Inv := by
  intro a w I A L hI
  have bx : f_X6_corner_p13 I A L = some (-2, va_up I 13 (I 13 + 1), A, L) := by unfold f_X6_corner_p13; rw [rf_bad]; rfl
  have bm : f_X7_corner_p13 (va_up I 13 (I 13 + 1)) A L = some (-2, va_up I 13 (I 13 + 1), va_up A 63 (upd (A 63) 0 (A 63 0 + 1)), L) := by unfold f_X7_corner_p13; rw [rm_bad]; rfl
  by_cases ha : a < 0
  · refine ⟨-2, va_up I 13 (I 13 + 1), A, L, _, _, _, ?_, ?_, inv_bad hI⟩
    · unfold f_X6_corner; rw [if_pos ha, bx]
    · unfold f_X7_corner; rw [if_pos ha, bm]
  · by_cases hw : 0 ≤ w ∧ w ≤ 2
    · obtain ⟨j, hj, rfl⟩ := nn_nat ha
      obtain ⟨c, hc, rfl⟩ := rng_n (n := 2) (by omega) hw
      obtain ⟨I1, A1, pl, vs, a1, a2, ok, a4, a5, a6, a7, a8, a9, -⟩ := inv_crystal hI
      have h60 := a7.2.1
      have hb := So_bQ ok a7
      have ex : f_X6_corner (Int32.ofNat j) (Int32.ofNat c) I A L = if Int32.ofNat j < I1 615 then (Option.bind (f_X4_coordinate 38 I1 A1 L (Int32.ofNat j) (Int32.ofNat c)) (fun v6 => g_ck (Int32.ofNat j) 60 (g_b1 (f_X6_setFraction v6 (A1 42 (Int32.toNatClampNeg (Int32.ofNat j))) I1 A1 L) (fun I8 A9 L10 => some (1, I8, A9, L10))))) else (g_b2 (f_X6_refuseNo I1 A1 L) (fun v15 I12 A13 L14 => some (v15, I12, A13, L14))) := by
        unfold f_X6_corner
        rw [if_neg ha, if_neg (Int32.not_lt.mpr hw.1), if_pos hw.2, a1, b1_some]
      have em : ∀ I1', f_X7_corner (Int32.ofNat j) (Int32.ofNat c) I1' A1 L = g_b1 (f_X7_lays I1' A1 L) (fun I4 A5 L6 => if Int32.ofNat j < (I4 955) then (g_ck ((5 * Int32.ofNat j) + Int32.ofNat c) 320 (g_ck ((5 * Int32.ofNat j) + 3) 320 (g_b1 (f_X7_fraction (A5 65 (Int32.toNatClampNeg ((5 * Int32.ofNat j) + Int32.ofNat c))) (A5 65 (Int32.toNatClampNeg ((5 * Int32.ofNat j) + 3))) I4 A5 L6) (fun I8 A9 L10 => some (1, I8, A9, L10))))) else (g_b2 (f_X7_refuses (-3) I4 A5 L6) (fun v15 I12 A13 L14 => some (v15, I12, A13, L14)))) := fun I1' => by
        unfold f_X7_corner
        rw [if_neg ha, m_in, if_pos hw, bd_some, if_neg (by decide)]
      by_cases hjl : j < vs.length
      · obtain ⟨o, o1, o2⟩ := crd_x (I := I1) (L := L) a7.2.2.1.2 hb h60 hjl hc
        have d2 := dd_x a7.2.2.1.2 hb hjl
        have dp := (hb _ (vD_mem hjl)).1.1
        obtain ⟨ga, gb, fx, fm⟩ := frac_b o2 d2 (by omega) (by omega) (by omega)
        obtain ⟨I2, A2, b1, b2, b3, b4⟩ := m_lay (L := L) ok a7.1 (I := frX I1 ga gb) a5
        have e1 : A2 65 (5 * j + c) = o := b_uni (crd_m b2.2.1.2 hb hjl hc) o2
        have e2 : A2 65 (5 * j + 3) = A1 42 j := b_uni (dd_m b2.2.1.2 hb hjl) d2
        refine ⟨1, frX I1 ga gb, A1, L, I2, A2, frL L ga gb, ?_, ?_, inv_lay (inv_frac a2 ga gb) b3 b4⟩
        · rw [ex, a7.2.2.1.1, if_pos ((o_ltn hj (by omega)).mpr hjl), o1, bd_some, o_ck (by omega) (by omega), i_tnn (by omega), fx, b1_some]
        · rw [em, b1, b1_some, b2.2.1.1, if_pos ((o_ltn hj (by omega)).mpr hjl), m_5, m_53, o_ck (by omega) (by omega), o_ck (by omega) (by omega), i_tnn (by omega), i_tnn (by omega), e1, e2, fm, b1_some]
      · obtain ⟨I2, A2, b1, b2, b3, b4⟩ := m_lay (L := L) ok a7.1 (I := va_up I1 14 (I1 14 + 1)) a5
        refine ⟨-3, va_up I1 14 (I1 14 + 1), A1, L, I2, va_up A2 63 (upd (A2 63) 1 (A2 63 1 + 1)), L, ?_, ?_, ?_⟩
        · rw [ex, a7.2.2.1.1, if_neg (fun q => hjl ((o_ltn hj (by omega)).mp q)), rf_no]; rfl
        · rw [em, b1, b1_some, b2.2.1.1, if_neg (fun q => hjl ((o_ltn hj (by omega)).mp q)), rm_no]; rfl
        · refine inv_lay (inv_no a2) b3 (fun r r1 r2 => ?_)
          rw [b4 63 (by omega) (by omega)]
          by_cases e : r = 63
          · rw [e, us, us]
          · rw [un _ _ e, un _ _ e, b4 r r1 r2]
    · refine ⟨-2, va_up I 13 (I 13 + 1), A, L, _, _, _, ?_, ?_, inv_bad hI⟩
      · unfold f_X6_corner
        rw [if_neg ha]
        by_cases h1 : w < 0
        · rw [if_pos h1, bx]
        · rw [if_neg h1, if_neg (fun q => hw ⟨i_nlt h1, q⟩), bx]
      · unfold f_X7_corner; rw [if_neg ha, m_in, if_neg hw, bd_some, if_pos rfl, bm]
/-! meets -/
noncomputable def oN (pl : List Pl) (v : Q4) : Nat := sm pl.length (fun p => ib (sd (pl.getD p p0) v = 0))
theorem bc_on (I : Nat → Int32) (A : Nat → Nat → Int32) (L : Nat → Int64) {pl : List Pl} (hl : pl.length ≤ 32) (v : Q4) : f_J6_bitCount_0f7a4 I A L (onB pl v pl.length) = some (Int32.ofNat (oN pl v)) := by
  rw [bc_n]
  congr 2
  unfold oN
  rw [← sm_cut hl]
  refine sm_eq (fun i hi => ib_c ?_)
  rw [onB_mk, bt_mk _ _ hl i hi]
  simp only [Bool.and_eq_true, decide_eq_true_eq]
theorem me39_l {I : Nat → Int32} {A : Nat → Nat → Int32} {L : Nat → Int64} {pl : List Pl} {vs : List Q4} (hl : pl.length ≤ 32) (h60 : vs.length ≤ 60) (h : Mo I A pl vs) {j : Nat} (hj : j < vs.length) {w : Int32} : ∀ (n p : Nat), p ≤ pl.length → pl.length - p < n → f_X7_meets_p39 n (Int32.ofNat j) w (Int32.ofNat (sm p (fun i => ib (sd (pl.getD i p0) (vs.getD j q0) = 0)))) (Int32.ofNat p) I A L = some (if w = 0 then Int32.ofNat (oN pl (vs.getD j q0)) else onB pl (vs.getD j q0) pl.length, I, A, L) := by
  intro n
  induction n with
  | zero => intro p h1 h2; omega
  | succ n ih =>
    intro p h1 h2
    rw [f_X7_meets_p39_e, m_c0, show A 60 (Int32.toNatClampNeg 0) = Int32.ofNat pl.length from h.1.1]
    by_cases e : p = pl.length
    · rw [if_pos (by rw [e]; exact o_le (by omega) (by omega) (by omega)), e, m_54, o_ck (by omega) (by omega), i_tnn (by omega), (h.2.1.2 j hj).2]
      by_cases z : w = 0
      · rw [if_pos z, if_pos z]; rfl
      · rw [if_neg z, if_neg z]
    · have hp : p < pl.length := by omega
      rw [if_neg (o_nle (by omega) (by omega) hp)]
      obtain ⟨c, d1, d2⟩ := isOn_s (I := I) (L := L) hl (show j < 60 by omega) (h.2.1.2 j hj) hp
      rw [d1, bd_some, i_1, i_1, x_p0]
      have t := ih (p + 1) (by omega) (by omega)
      rw [sm_s] at t
      rcases d2 with ⟨rfl, d2⟩ | ⟨rfl, d2⟩
      · rw [if_neg (by decide)]
        rw [ib_1 d2] at t
        exact t
      · rw [if_pos rfl]
        rw [ib_0 d2] at t
        exact t
theorem st_meets : gStep_meets Inv := by
  intro a w I A L hI
  have bx : f_X6_meets_p13 I A L = some (-2, va_up I 13 (I 13 + 1), A, L) := by unfold f_X6_meets_p13; rw [rf_bad]; rfl
  have bm : f_X7_meets_p13 (va_up I 13 (I 13 + 1)) A L = some (-2, va_up I 13 (I 13 + 1), va_up A 63 (upd (A 63) 0 (A 63 0 + 1)), L) := by unfold f_X7_meets_p13; rw [rm_bad]; rfl
  by_cases ha : a < 0
  · refine ⟨-2, va_up I 13 (I 13 + 1), A, L, _, _, _, ?_, ?_, inv_bad hI⟩
    · unfold f_X6_meets; rw [if_pos ha, bx]
    · unfold f_X7_meets; rw [if_pos ha, bm]
  · by_cases hw : 0 ≤ w ∧ w ≤ 1
    · obtain ⟨j, hj, rfl⟩ := nn_nat ha
      obtain ⟨I1, A1, pl, vs, a1, a2, ok, a4, a5, a6, a7, I2, A2, b1, b2, b3, b4, b5⟩ := both hI
      have h60 := a5.2.1
      have hl := ok.2.1
      have ex : f_X6_meets (Int32.ofNat j) w I A L = if Int32.ofNat j < I1 615 then (if w = 0 then (g_ck (Int32.ofNat j) 60 (Option.bind (f_J6_bitCount_0f7a4 I1 A1 L (A1 43 (Int32.toNatClampNeg (Int32.ofNat j)))) (fun v6 => some (v6, I1, A1, L)))) else (g_ck (Int32.ofNat j) 60 (some ((A1 43 (Int32.toNatClampNeg (Int32.ofNat j))), I1, A1, L)))) else (some ((-1), I1, A1, L)) := by
        unfold f_X6_meets
        rw [if_neg ha, if_neg (Int32.not_lt.mpr hw.1), if_pos hw.2, a1, b1_some]
      have em : f_X7_meets (Int32.ofNat j) w I1 A1 L = if Int32.ofNat j < I2 955 then (f_X7_meets_p39 4096 (Int32.ofNat j) w 0 0 I2 A2 L) else (some ((-1), I2, A2, L)) := by
        unfold f_X7_meets
        rw [if_neg ha, m_in, if_pos hw, bd_some, if_neg (by decide), b1, b1_some]
      by_cases hjl : j < vs.length
      · have tm : f_X7_meets_p39 4096 (Int32.ofNat j) w 0 0 I2 A2 L = _ := me39_l (L := L) hl h60 b2 hjl (w := w) 4096 0 (by omega) (by omega)
        refine ⟨if w = 0 then Int32.ofNat (oN pl (vs.getD j q0)) else onB pl (vs.getD j q0) pl.length, I1, A1, L, I2, A2, L, ?_, ?_, b3⟩
        · rw [ex, a5.2.2.1.1, if_pos ((o_ltn hj (by omega)).mpr hjl), o_ck (by omega) (by omega), o_ck (by omega) (by omega), i_tnn (by omega), a5.2.2.2.1 j hjl, bc_on _ _ _ hl, bd_some]
          by_cases z : w = 0
          · rw [if_pos z, if_pos z]
          · rw [if_neg z, if_neg z]
        · rw [em, b2.2.1.1, if_pos ((o_ltn hj (by omega)).mpr hjl), tm]
      · refine ⟨-1, I1, A1, L, I2, A2, L, ?_, ?_, b3⟩
        · rw [ex, a5.2.2.1.1, if_neg (fun q => hjl ((o_ltn hj (by omega)).mp q))]
        · rw [em, b2.2.1.1, if_neg (fun q => hjl ((o_ltn hj (by omega)).mp q))]
    · refine ⟨-2, va_up I 13 (I 13 + 1), A, L, _, _, _, ?_, ?_, inv_bad hI⟩
      · unfold f_X6_meets
        rw [if_neg ha]
        by_cases h1 : w < 0
        · rw [if_pos h1, bx]
        · rw [if_neg h1, if_neg (fun q => hw ⟨i_nlt h1, q⟩), bx]
      · unfold f_X7_meets; rw [if_neg ha, m_in, if_neg hw, bd_some, if_pos rfl, bm]
