/-! of -/
theorem rng_n {a : Int32} {n : Nat} (hn : n < 1000000) (h : 0 ≤ a ∧ a ≤ Int32.ofNat n) : ∃ k, k ≤ n ∧ a = Int32.ofNat k := by
  have h1 := i_le.mp h.1
  have h2 := i_le.mp h.2
  rw [i_nat (by omega)] at h2
  have h1 : 0 ≤ a.toInt := h1
  refine ⟨a.toInt.toNat, by omega, ?_⟩
  rw [i_eq, i_nat (by omega)]
  omega
/-- both lay the crystal -/
theorem both {I : Nat → Int32} {A : Nat → Nat → Int32} {L : Nat → Int64} (hI : Inv I A L) : ∃ I1 A1 pl vs, f_X6_crystal I A L = some (I1, A1, L) ∧ Inv I1 A1 L ∧ okL pl ∧ rpX (I1 20) (A1 2) (A1 3) (A1 4) (A1 5) pl ∧ So I1 A1 pl vs ∧ I1 20 = I 20 ∧ rpM (A1 60) 0 pl ∧ ∃ I2 A2, f_X7_lays I1 A1 L = some (I2, A2, L) ∧ Mo I2 A2 pl vs ∧ Inv I2 A2 L ∧ (∀ i, i ≠ 955 → I2 i = I1 i) ∧ ∀ r, r ≠ 65 → r ≠ 66 → A2 r = A1 r := by
  obtain ⟨I1, A1, pl, vs, a1, a2, a3, a4, a5, a6, a7, a8, a9, -⟩ := inv_crystal hI
  obtain ⟨I2, A2, b1, b2, b3, b4⟩ := m_lay (L := L) a3 a7.1 (I := I1) a5
  exact ⟨I1, A1, pl, vs, a1, a2, a3, a4, a7, a8, a5, I2, A2, b1, b2, inv_lay a2 b3 b4, b3, b4⟩
theorem ofP0 (p : Int32) (I : Nat → Int32) (A : Nat → Nat → Int32) (L : Nat → Int64) : f_X6_ofPlane p (Int32.ofNat 0) I A L = g_ck p 32 (some (A 2 (Int32.toNatClampNeg p), I, A, L)) := rfl
theorem ofP1 (p : Int32) (I : Nat → Int32) (A : Nat → Nat → Int32) (L : Nat → Int64) : f_X6_ofPlane p (Int32.ofNat 1) I A L = g_ck p 32 (some (A 3 (Int32.toNatClampNeg p), I, A, L)) := rfl
theorem ofP2 (p : Int32) (I : Nat → Int32) (A : Nat → Nat → Int32) (L : Nat → Int64) : f_X6_ofPlane p (Int32.ofNat 2) I A L = g_ck p 32 (some (A 4 (Int32.toNatClampNeg p), I, A, L)) := rfl
theorem ofP3 (p : Int32) (I : Nat → Int32) (A : Nat → Nat → Int32) (L : Nat → Int64) : f_X6_ofPlane p (Int32.ofNat 3) I A L = g_ck p 32 (some (A 5 (Int32.toNatClampNeg p), I, A, L)) := rfl
theorem ofP4 (p : Int32) (I : Nat → Int32) (A : Nat → Nat → Int32) (L : Nat → Int64) : f_X6_ofPlane p (Int32.ofNat 4) I A L = g_b1 (f_X6_crystal I A L) (fun I7 A8 L9 => Option.bind (f_X4_isShown 38 I7 A8 L9 p) (fun v11 => if v11 = 0 then (some (0, I7, A8, L9)) else (some (1, I7, A8, L9)))) := rfl
theorem ofP5 (p : Int32) (I : Nat → Int32) (A : Nat → Nat → Int32) (L : Nat → Int64) : f_X6_ofPlane p (Int32.ofNat 5) I A L = g_b1 (f_X6_crystal I A L) (fun I14 A15 L16 => g_ck p 32 (some ((A15 44 (Int32.toNatClampNeg p)), I14, A15, L16))) := rfl
theorem ofP6 (p : Int32) (I : Nat → Int32) (A : Nat → Nat → Int32) (L : Nat → Int64) : f_X6_ofPlane p (Int32.ofNat 6) I A L = g_b1 (f_X6_crystal I A L) (fun I18 A19 L20 => Option.bind (f_X4_edgesOn 38 I18 A19 L20 p) (fun v22 => some (v22, I18, A19, L20))) := rfl
/-- a number of a plane, as the class tells it -/
theorem ofP_c {I : Nat → Int32} {A : Nat → Nat → Int32} {L : Nat → Int64} {pl : List Pl} (hl : pl.length ≤ 32) (hx : rpX (I 20) (A 2) (A 3) (A 4) (A 5) pl) {j c : Nat} (hj : j < pl.length) (hc : c < 4) : f_X6_ofPlane (Int32.ofNat j) (Int32.ofNat c) I A L = some (clm (pl.getD j p0) c, I, A, L) := by
  have hq : pl.getD j p0 = (A 2 j, A 3 j, A 4 j, A 5 j) := hx.2 j hj
  rw [hq]
  rcases (show c = 0 ∨ c = 1 ∨ c = 2 ∨ c = 3 by omega) with rfl | rfl | rfl | rfl
  · rw [ofP0, o_ck (by omega) (by omega), i_tnn (by omega)]; rfl
  · rw [ofP1, o_ck (by omega) (by omega), i_tnn (by omega)]; rfl
  · rw [ofP2, o_ck (by omega) (by omega), i_tnn (by omega)]; rfl
  · rw [ofP3, o_ck (by omega) (by omega), i_tnn (by omega)]; rfl
theorem st_of : gStep_of Inv := by
  intro p w I A L hI
  have bx : f_X6_of_p18 I A L = some (-100, va_up I 13 (I 13 + 1), A, L) := by unfold f_X6_of_p18; rw [rf_bad]; rfl
  have bm : f_X7_of_p18 (va_up I 13 (I 13 + 1)) A L = some (-100, va_up I 13 (I 13 + 1), va_up A 63 (upd (A 63) 0 (A 63 0 + 1)), L) := by unfold f_X7_of_p18; rw [rm_b]; rfl
  obtain ⟨pl, past, ⟨ok, hx, hm⟩, hst, h3, h4, h5, h6, h7⟩ := id hI
  have hl := ok.2.1
  have hl6 := ok.1
  by_cases hp : 0 ≤ p ∧ p < Int32.ofNat pl.length
  · by_cases hw : 0 ≤ w ∧ w ≤ 6
    · obtain ⟨j, hj, rfl⟩ := pl_nat (by omega) hp
      obtain ⟨c, hc, rfl⟩ := rng_n (n := 6) (by omega) hw
      have ex : f_X6_of (Int32.ofNat j) (Int32.ofNat c) I A L = g_b2 (f_X6_ofPlane (Int32.ofNat j) (Int32.ofNat c) I A L) (fun v7 I4 A5 L6 => some (v7, I4, A5, L6)) := by
        unfold f_X6_of
        rw [x_plane I A L _ hx.1, if_pos hp, bd_some, if_neg (by decide), if_neg (Int32.not_lt.mpr hw.1), if_pos hw.2]
      rw [ex]
      have em : ∀ (I1 : Nat → Int32) (A1 : Nat → Nat → Int32), A1 60 0 = Int32.ofNat pl.length → f_X7_of (Int32.ofNat j) (Int32.ofNat c) I1 A1 L = if 4 ≤ Int32.ofNat c then (g_b1 (f_X7_lays I1 A1 L) (fun I6 A7 L8 => if Int32.ofNat c = 4 then (g_ck (Int32.ofNat j) 32 (if (A7 66 (Int32.toNatClampNeg (Int32.ofNat j))) = 0 then (some (0, I6, A7, L8)) else (some (1, I6, A7, L8)))) else (if Int32.ofNat c = 5 then (Option.bind (f_X7_cornersOn I6 A7 L8 (Int32.ofNat j)) (fun v12 => some (v12, I6, A7, L8))) else (Option.bind (f_X7_edgesOf I6 A7 L8 (Int32.ofNat j)) (fun v10 => some (v10, I6, A7, L8)))))) else (Option.bind (f_X7_get I1 A1 L (Int32.ofNat j) (Int32.ofNat c)) (fun v14 => some (v14, I1, A1, L))) := fun I1 A1 e => by
        unfold f_X7_of
        rw [m_plane I1 A1 L _ e hl6 hl, if_pos hp, bd_some, if_neg (by decide), m_in, if_pos hw, bd_some, if_neg (by decide)]
      by_cases c4 : c < 4
      · -- numbers
        have gx := ofP_c (L := L) hl hx hj c4
        refine ⟨clm (pl.getD j p0) c, I, A, L, I, A, L, by rw [gx]; rfl, ?_, hI⟩
        rw [em I A hm.1, if_neg (show ¬ (4 : Int32) ≤ Int32.ofNat c from o_nle (a := 4) (by omega) (by omega) c4), get_s hm hl hj c4, bd_some]
      · obtain ⟨I1, A1, pl', vs, a1, a2, a3, a4, a5, a6, a7, I2, A2, b1, b2, b3, b4, b5⟩ := both hI
        have e' : pl'.length = pl.length := by
          have x1 := a4.1
          rw [a6, hx.1] at x1
          have := (b_eq (b_n (n := pl.length) (by omega)) (b_n (n := pl'.length) (by have := a3.2.1; omega))).mp x1
          omega
        have hj' : j < pl'.length := by omega
        have hl' := a3.2.1
        have em' := em I1 A1 (by rw [a7.1, e'])
        rw [if_pos (show (4 : Int32) ≤ Int32.ofNat c from o_le (a := 4) (by omega) (by omega) (by omega)), b1, b1_some] at em'
        rcases (show c = 4 ∨ c = 5 ∨ c = 6 by omega) with rfl | rfl | rfl
        · obtain ⟨d, d1, d2⟩ := isSh_s (L := L) hl' a5 hj'
          rw [if_pos (show Int32.ofNat 4 = 4 from rfl), o_ck (by omega) (by omega), i_tnn (by omega)] at em'
          rcases d2 with ⟨rfl, d2⟩ | ⟨rfl, d2⟩
          · refine ⟨1, I1, A1, L, I2, A2, L, ?_, ?_, b3⟩
            · rw [ofP4, a1, b1_some, d1, bd_some, if_neg (by decide)]
              rfl
            · rcases b2.2.2 j hj' with ⟨x, y⟩ | ⟨x, y⟩
              · rw [em', if_neg (by rw [x]; decide)]
              · exact absurd d2 y
          · refine ⟨0, I1, A1, L, I2, A2, L, ?_, ?_, b3⟩
            · rw [ofP4, a1, b1_some, d1, bd_some, if_pos rfl]
              rfl
            · rcases b2.2.2 j hj' with ⟨x, y⟩ | ⟨x, y⟩
              · exact absurd y d2
              · rw [em', if_pos x]
        · refine ⟨Int32.ofNat (nOn pl' vs j), I1, A1, L, I2, A2, L, ?_, ?_, b3⟩
          · rw [ofP5, a1, b1_some, o_ck (by omega) (by omega), i_tnn (by omega), a5.2.2.2.2.1 j hj']
            rfl
          · rw [em', if_neg (by decide), if_pos (show Int32.ofNat 5 = 5 from rfl), cOn_s hl' a5.2.1 b2.2.1 hj', bd_some]
        · refine ⟨Int32.ofNat (eN pl' vs j), I1, A1, L, I2, A2, L, ?_, ?_, b3⟩
          · rw [ofP6, a1, b1_some, eOn_x hl' a5 hj', bd_some]
            rfl
          · rw [em', if_neg (by decide), if_neg (by decide), eOf_s a3 a5.1 a5.2.1 b2 hj', bd_some]
    · refine ⟨-100, va_up I 13 (I 13 + 1), A, L, _, _, _, ?_, ?_, inv_bad hI⟩
      · unfold f_X6_of
        rw [x_plane I A L _ hx.1, if_pos hp, bd_some, if_neg (by decide)]
        by_cases h1 : w < 0
        · rw [if_pos h1]; exact bx
        · rw [if_neg h1, if_neg (fun q => hw ⟨i_nlt h1, q⟩)]; exact bx
      · unfold f_X7_of
        rw [m_plane _ A L _ hm.1 hl6 hl, if_pos hp, bd_some, if_neg (by decide), m_in, if_neg hw, bd_some, if_pos rfl]
        exact bm
  · refine ⟨-100, va_up I 13 (I 13 + 1), A, L, _, _, _, ?_, ?_, inv_bad hI⟩
    · unfold f_X6_of
      rw [x_plane I A L _ hx.1, if_neg hp, bd_some, if_pos rfl]
      exact bx
    · unfold f_X7_of
      rw [m_plane _ A L _ hm.1 hl6 hl, if_neg hp, bd_some, if_pos rfl]
      exact bm
