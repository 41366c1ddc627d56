theorem bd_some {α β : Type} (x : α) (f : α → Option β) : (some x).bind f = f x := rfl
theorem i_nlt {a b : Int32} (h : ¬ a < b) : b ≤ a := Int32.not_lt.mp h
theorem i_nle {a b : Int32} (h : ¬ a ≤ b) : b < a := Int32.not_le.mp h
theorem i_z05 {a : Int32} (h0 : 0 ≤ a) (h5 : a ≤ 5) : a = 0 ∨ a = 1 ∨ a = 2 ∨ a = 3 ∨ a = 4 ∨ a = 5 := by
  rw [i_le] at h0 h5
  have h0 : 0 ≤ a.toInt := h0
  have h5 : a.toInt ≤ 5 := h5
  simp only [i_eq]
  show a.toInt = 0 ∨ a.toInt = 1 ∨ a.toInt = 2 ∨ a.toInt = 3 ∨ a.toInt = 4 ∨ a.toInt = 5
  omega
theorem i_z01 {a : Int32} (h0 : 0 ≤ a) (h5 : a ≤ 1) : a = 0 ∨ a = 1 := by
  rw [i_le] at h0 h5
  have h0 : 0 ≤ a.toInt := h0
  have h5 : a.toInt ≤ 1 := h5
  simp only [i_eq]
  show a.toInt = 0 ∨ a.toInt = 1
  omega
/-! told -/
theorem told_X (a : Int32) (I : Nat → Int32) (A : Nat → Nat → Int32) (L : Nat → Int64) (h : 0 ≤ a ∧ a ≤ 5) : f_X6_told a I A L = (f_X6_howMany I A L a).bind (fun v => some (v, I, A, L)) := by
  unfold f_X6_told
  rw [if_neg (Int32.not_lt.mpr h.1), if_pos h.2]
theorem told_Xb (a : Int32) (I : Nat → Int32) (A : Nat → Nat → Int32) (L : Nat → Int64) (h : ¬ (0 ≤ a ∧ a ≤ 5)) : f_X6_told a I A L = some (-2, va_up I 13 (I 13 + 1), A, L) := by
  unfold f_X6_told f_X6_told_p9
  rw [rf_bad]
  by_cases h1 : a < 0
  · rw [if_pos h1]; rfl
  · rw [if_neg h1, if_neg (fun q => h ⟨i_nlt h1, q⟩)]; rfl
theorem inv_told {I : Nat → Int32} {A : Nat → Nat → Int32} {L : Nat → Int64} (hI : Inv I A L) {a : Int32} (h : 0 ≤ a ∧ a ≤ 5) : ∃ x, f_X6_howMany I A L a = some x ∧ f_X7_toldOf I A L a = some x := by
  obtain ⟨pl, past, ⟨k1, k2, k3⟩, h2, h3, ⟨e1, e2, e3⟩, h5, h6, h7⟩ := hI
  rcases i_z05 h.1 h.2 with rfl | rfl | rfl | rfl | rfl | rfl
  · exact ⟨I 13, rfl, by show g_ck 0 3 (some (A 63 0)) = _; rw [e1]; rfl⟩
  · exact ⟨I 14, rfl, by show g_ck 1 3 (some (A 63 1)) = _; rw [e2]; rfl⟩
  · exact ⟨I 15, rfl, by show g_ck 2 3 (some (A 63 2)) = _; rw [e3]; rfl⟩
  · exact ⟨I 913, rfl, by show some (I 950) = _; rw [h3.1]⟩
  · exact ⟨I 20, rfl, by show some (A 60 0) = _; rw [k2.1, k3.1]⟩
  · exact ⟨I 178, rfl, by show some (I 946) = _; rw [h2.2.1, h2.2.2.1]⟩
theorem st_told : gStep_told Inv := by
  intro a I A L hI
  by_cases h : 0 ≤ a ∧ a ≤ 5
  · obtain ⟨x, e1, e2⟩ := inv_told hI h
    refine ⟨x, I, A, L, I, A, L, ?_, ?_, hI⟩
    · rw [told_X a I A L h, e1]; rfl
    · unfold f_X7_told
      rw [m_in, if_pos h]
      show (f_X7_toldOf I A L a).bind _ = _
      rw [e2]; rfl
  · refine ⟨_, _, _, _, _, _, _, told_Xb a I A L h, ?_, inv_bad hI⟩
    unfold f_X7_told
    rw [m_in, if_neg h, bd_some, if_pos rfl, rm_bad]; rfl
/-! clear -/
theorem st_clear : gStep_clear Inv := by
  intro I A L hI
  refine ⟨I 913, va_up I 913 0, A, L, va_up (va_up I 913 0) 950 0, A, L, rfl, ?_, ?_⟩
  · unfold f_X7_clear g_lt
    obtain ⟨pl, past, h1, h2, h3, h4, h5, h6, h7⟩ := hI
    show some (I 950, _, _, _) = _
    rw [h3.1]
  · obtain ⟨pl, past, h1, h2, h3, h4, h5, h6, h7⟩ := hI
    refine ⟨pl, past, ?_, ?_, ?_, ?_, ?_, ?_, ?_⟩ <;> simp only [va_up, Nat.reduceEqDiff, if_true, if_false, reduceIte] <;> first | assumption | skip
    exact ⟨rfl, 0, by omega, rfl, fun j hj => absurd hj (by omega)⟩
/-! part -/
theorem st_part : gStep_part Inv := by
  intro a I A L hI
  have h5 : vFr (I 11) (I 12) (L 952) (L 953) := by
    obtain ⟨pl, past, h1, h2, h3, h4, h5, h6, h7⟩ := hI
    exact h5
  by_cases h : 0 ≤ a ∧ a ≤ 1
  · rcases i_z01 h.1 h.2 with rfl | rfl
    · exact ⟨L 952, I, A, L, I, A, L, by show some (Int32.toInt64 (I 11), _, _, _) = _; rw [h5.1], rfl, hI⟩
    · exact ⟨L 953, I, A, L, I, A, L, by show some (Int32.toInt64 (I 12), _, _, _) = _; rw [h5.2], rfl, hI⟩
  · refine ⟨-1000000, va_up I 13 (I 13 + 1), A, L, _, _, _, ?_, ?_, inv_bad hI⟩
    · unfold f_X6_part f_X6_part_p9
      rw [rf_bad]
      by_cases h1 : a < 0
      · rw [if_pos h1]; rfl
      · rw [if_neg h1, if_neg (fun q => h ⟨i_nlt h1, q⟩)]; rfl
    · unfold f_X7_part
      rw [if_neg (fun q => h (by rw [q]; decide)), if_neg (fun q => h (by rw [q]; decide)), rm_b]
      rfl
/-! type -/
theorem nar_byte {a : Int32} (h0 : 0 ≤ a) (h1 : a ≤ 127) : vp_nar .byte (Int8.toInt32 (Int32.toInt8 a)) = a := by
  rw [i_le] at h0 h1
  have h0 : 0 ≤ a.toInt := h0
  have h1 : a.toInt ≤ 127 := h1
  have e : Int8.toInt32 (Int32.toInt8 a) = a := by
    rw [i_eq, Int8.toInt_toInt32, Int32.toInt_toInt8]
    exact Int.bmod_eq_of_le (by omega) (by omega)
  rw [e]
  show (Int8.toInt32 (Int32.toInt8 a)) = a
  exact e
theorem st_type : gStep_type Inv := by
  intro a I A L hI
  by_cases h : 0 ≤ a ∧ a ≤ 127
  · obtain ⟨pl, past, h1, h2, ⟨g1, k, g2, g3, g4⟩, h4, h5, h6, h7⟩ := hI
    by_cases hk : k = 120
    · have hI : Inv I A L := ⟨pl, past, h1, h2, ⟨g1, k, g2, g3, g4⟩, h4, h5, h6, h7⟩
      refine ⟨-4, va_up I 15 (I 15 + 1), A, L, _, _, _, ?_, ?_, inv_full hI⟩
      · unfold f_X6_type
        rw [if_neg (Int32.not_lt.mpr h.1), if_pos h.2, if_neg (by rw [g3, hk]; decide), rf_full]
        rfl
      · unfold f_X7_type
        rw [m_in, if_pos h]
        show (if va_up I 15 (I 15 + 1) 950 = 120 then _ else _) = _
        rw [if_pos (by show I 950 = 120; rw [← g1, g3, hk]; rfl), rm_full]
        rfl
    · have hlt : k < 120 := by omega
      have e1 : I 913 < 120 := by rw [g3, i_lt, i_nat (by omega)]; show (k : Int) < 120; omega
      have e2 : (0 : Int32) ≤ I 913 ∧ (I 913).toNatClampNeg < 120 := by
        rw [g3, i_tnn (by omega), i_le, i_nat (by omega)]
        exact ⟨Int.natCast_nonneg k, hlt⟩
      refine ⟨I 913 + 1, va_up I 913 (I 913 + 1), va_up A 58 (upd (A 58) (I 913).toNatClampNeg a), L, va_up (va_up I 913 (I 913 + 1)) 950 (I 950 + 1), va_up (va_up A 58 (upd (A 58) (I 913).toNatClampNeg a)) 64 (upd (A 64) (I 950).toNatClampNeg a), L, ?_, ?_, ?_⟩
      · unfold f_X6_type
        rw [if_neg (Int32.not_lt.mpr h.1), if_pos h.2, if_pos e1, nar_byte h.1 h.2]
        unfold g_ck g_lt
        rw [if_pos e2]
        rfl
      · unfold f_X7_type
        rw [m_in, if_pos h]
        show (if I 950 = 120 then _ else _) = _
        rw [if_neg (by rw [← g1]; intro q; rw [q] at e1; exact absurd e1 (by decide))]
        unfold g_ck g_lt
        show (if 0 ≤ I 950 ∧ (I 950).toNatClampNeg < 120 then _ else _) = _
        rw [if_pos (by rw [← g1]; exact e2)]
        show some (I 950 + 1, _, _, _) = _
        rw [g1]
        rfl
      · refine ⟨pl, past, ?_, ?_, ?_, ?_, ?_, ?_, ?_⟩ <;> simp only [va_up, Nat.reduceEqDiff, if_true, if_false, reduceIte] <;> first | assumption | skip
        refine ⟨by rw [g1], k + 1, by omega, by rw [g3, i_1], fun j hj => ?_⟩
        rw [← g1, g3, i_tnn (by omega)]
        unfold upd
        by_cases e : j = k
        · rw [if_pos e, if_pos e]
          exact ⟨rfl, h.1, h.2⟩
        · rw [if_neg e, if_neg e]
          exact g4 j (by omega)
  · refine ⟨-2, va_up I 13 (I 13 + 1), A, L, _, _, _, ?_, ?_, inv_bad hI⟩
    · unfold f_X6_type f_X6_type_p10
      rw [rf_bad]
      by_cases h1 : a < 0
      · rw [if_pos h1]; rfl
      · rw [if_neg h1, if_neg (fun q => h ⟨i_nlt h1, q⟩)]; rfl
    · unfold f_X7_type
      rw [m_in, if_neg h, bd_some, if_pos rfl, rm_bad]; rfl
