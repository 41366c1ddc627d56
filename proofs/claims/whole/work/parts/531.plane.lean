theorem quad {a b c d a' b' c' d' : Int32} (h1 : a = a') (h2 : b = b') (h3 : c = c') (h4 : d = d') : (a, b, c, d) = (a', b', c', d') := by rw [h1, h2, h3, h4]
theorem gD_app {pl : List Pl} {q : Pl} {j : Nat} (h : j < pl.length) : (pl ++ [q]).getD j p0 = pl.getD j p0 := by
  rw [List.getD_eq_getElem?_getD, List.getElem?_append_left h, List.getD_eq_getElem?_getD]
theorem gD_last {pl : List Pl} {q : Pl} : (pl ++ [q]).getD pl.length p0 = q := by
  rw [List.getD_eq_getElem?_getD, List.getElem?_append_right (by omega)]; simp
theorem okL_app {pl : List Pl} {q : Pl} (h : okL pl) (hq : okP q) (hl : pl.length < 32) : okL (pl ++ [q]) := by
  obtain ⟨h1, h2, h3, h4⟩ := h
  refine ⟨by rw [List.length_append]; omega, by rw [List.length_append]; show pl.length + 1 ≤ 32; omega, fun p hp => ?_, fun j hj => ?_⟩
  · rcases List.mem_append.mp hp with hp | hp
    · exact h3 p hp
    · rw [List.mem_singleton] at hp
      rw [hp]; exact hq
  · rw [gD_app (by omega)]
    exact h4 j hj
/-- Planes.put on the planes of cell b -/
theorem put_s {b : Nat} {I : Nat → Int32} {A : Nat → Nat → Int32} {L : Nat → Int64} {pl : List Pl} {h k l o : Int32} (hp : rpX (I (16 * b + 4)) (A (b + 1)) (A (b + 2)) (A (b + 3)) (A (b + 4)) pl) (hl : pl.length < 32) : ∃ A', f_X2_put b h k l o I A L = some (va_up I (16 * b + 4) (Int32.ofNat (pl.length + 1)), A', L) ∧ rpX (Int32.ofNat (pl.length + 1)) (A' (b + 1)) (A' (b + 2)) (A' (b + 3)) (A' (b + 4)) (pl ++ [(h, k, l, o)]) ∧ ∀ r, (r ≤ b ∨ b + 4 < r) → A' r = A r := by
  obtain ⟨h1, h2⟩ := hp
  refine ⟨g_putA b h k l o (Int32.ofNat pl.length) A, ?_, ⟨?_, fun j hj => ?_⟩, fun r hr => ?_⟩
  · rw [put_at h1 (o_nle (a := 32) (by omega) (by omega) hl) ⟨by rw [i_le, i_nat (by omega)]; exact Int.natCast_nonneg _, by rw [i_tnn (by omega)]; exact hl⟩, i_1]
  · rw [List.length_append]; rfl
  · unfold g_putA
    simp only [us, un _ _ (show b + 1 ≠ b + 4 by omega), un _ _ (show b + 1 ≠ b + 3 by omega), un _ _ (show b + 1 ≠ b + 2 by omega), un _ _ (show b + 2 ≠ b + 4 by omega), un _ _ (show b + 2 ≠ b + 3 by omega), un _ _ (show b + 3 ≠ b + 4 by omega), un _ _ (show b + 2 ≠ b + 1 by omega), un _ _ (show b + 3 ≠ b + 1 by omega), un _ _ (show b + 3 ≠ b + 2 by omega), un _ _ (show b + 4 ≠ b + 1 by omega), un _ _ (show b + 4 ≠ b + 2 by omega), un _ _ (show b + 4 ≠ b + 3 by omega), i_tnn (show pl.length < 2147483648 by omega)]
    by_cases e : j = pl.length
    · subst e
      rw [gD_last, ds, ds, ds, ds]
    · rw [List.length_append] at hj
      have hj : j < pl.length + 1 := hj
      rw [gD_app (by omega), dn _ _ e, dn _ _ e, dn _ _ e, dn _ _ e]
      exact h2 j (by omega)
  · unfold g_putA
    rw [un _ _ (by omega), un _ _ (by omega), un _ _ (by omega), un _ _ (by omega)]
/-- the reference's comes -/
theorem comes_s {I : Nat → Int32} {A : Nat → Nat → Int32} {L : Nat → Int64} {pl : List Pl} {h k l o : Int32} (hp : rpM (A 60) 0 pl) (hl : pl.length < 32) : ∃ s', f_X7_comes h k l o I A L = some (I, va_up A 60 s', L) ∧ rpM s' 0 (pl ++ [(h, k, l, o)]) ∧ s' 0 = Int32.ofNat (pl.length + 1) := by
  obtain ⟨h1, h2⟩ := hp
  have z : (Int32.toNatClampNeg 0) = 0 := rfl
  have c0 : ∀ {τ : Type} (F : Option τ), g_ck 0 129 F = F := fun F => o_ck (j := 0) (by omega) (by omega)
  have v1 : (1 : Int32) + 4 * Int32.ofNat pl.length = Int32.ofNat (4 * pl.length + 1) := by
    rw [Int32.add_comm]
    exact o_lin 4 pl.length 1
  have a1 : ∀ (c : Nat), Int32.ofNat (4 * pl.length + 1) + Int32.ofNat c = Int32.ofNat (4 * pl.length + 1 + c) := fun c => by rw [← Int32.ofNat_add]
  have v2 : Int32.ofNat (4 * pl.length + 1) + 1 = Int32.ofNat (4 * pl.length + 2) := a1 1
  have v3 : Int32.ofNat (4 * pl.length + 1) + 2 = Int32.ofNat (4 * pl.length + 3) := a1 2
  have v4 : Int32.ofNat (4 * pl.length + 1) + 3 = Int32.ofNat (4 * pl.length + 4) := a1 3
  refine ⟨upd (upd (upd (upd (upd (A 60) (4 * pl.length + 1) h) (4 * pl.length + 2) k) (4 * pl.length + 3) l) (4 * pl.length + 4) o) 0 (Int32.ofNat (pl.length + 1)), ?_, ⟨?_, fun j hj => ?_⟩, ds _ _ _⟩
  · unfold f_X7_comes
    rw [c0, z, h1, v1, g_lt_eq, v2, v3, v4, o_ck (by omega) (by omega), g_lt_eq, o_ck (by omega) (by omega), g_lt_eq, o_ck (by omega) (by omega), g_lt_eq, o_ck (by omega) (by omega), g_lt_eq, c0, c0, g_lt_eq]
    simp only [us, uu, i_tnn (show 4 * pl.length + 1 < 2147483648 by omega), i_tnn (show 4 * pl.length + 2 < 2147483648 by omega), i_tnn (show 4 * pl.length + 3 < 2147483648 by omega), i_tnn (show 4 * pl.length + 4 < 2147483648 by omega)]
    rw [dn _ _ (by omega), dn _ _ (by omega), dn _ _ (by omega), dn _ _ (by omega), h1, i_1]
  · rw [ds, List.length_append]; rfl
  · rw [List.length_append] at hj
    have hj : j < pl.length + 1 := hj
    by_cases e : j = pl.length
    · subst e
      rw [gD_last]
      refine quad ?_ ?_ ?_ ?_
      · rw [dn _ _ (by omega), dn _ _ (by omega), dn _ _ (by omega), dn _ _ (by omega), show 0 + 1 + 4 * pl.length = 4 * pl.length + 1 by omega, ds]
      · rw [dn _ _ (by omega), dn _ _ (by omega), dn _ _ (by omega), show 0 + 2 + 4 * pl.length = 4 * pl.length + 2 by omega, ds]
      · rw [dn _ _ (by omega), dn _ _ (by omega), show 0 + 3 + 4 * pl.length = 4 * pl.length + 3 by omega, ds]
      · rw [dn _ _ (by omega), show 0 + 4 + 4 * pl.length = 4 * pl.length + 4 by omega, ds]
    · rw [gD_app (by omega), h2 j (by omega)]
      refine quad ?_ ?_ ?_ ?_ <;> rw [dn _ _ (by omega), dn _ _ (by omega), dn _ _ (by omega), dn _ _ (by omega), dn _ _ (by omega)]
theorem m_c0 {τ : Type} (F : Option τ) : g_ck 0 129 F = F := o_ck (j := 0) (by omega) (by omega)
theorem o_pred {n : Nat} : Int32.ofNat (n + 1) - 1 = Int32.ofNat n := by
  show Int32.ofNat (n + 1) - Int32.ofNat 1 = _
  rw [Int32.ofNat_add, Int32.add_sub_cancel]
/-- BAD alike -/
theorem bad2 {I : Nat → Int32} {A : Nat → Nat → Int32} {L : Nat → Int64} (hI : Inv I A L) {F G : Option (Int32 × gS)} {a : Int32} (h1 : F = some (a, va_up I 13 (I 13 + 1), A, L)) (h2 : G = some (a, va_up I 13 (I 13 + 1), va_up A 63 (upd (A 63) 0 (A 63 0 + 1)), L)) : ∃ (I2 : Nat → Int32) (A2 : Nat → Nat → Int32) (L2 : Nat → Int64), F = some (a, va_up I 13 (I 13 + 1), A, L) ∧ G = some (a, I2, A2, L2) ∧ Inv I2 A2 L2 := ⟨_, _, _, h1, h2, inv_bad hI⟩
theorem st_plane : gStep_plane Inv := by
  intro h k l o I A L hI
  have bx : f_X6_plane_p17 I A L = some (-2, va_up I 13 (I 13 + 1), A, L) := by unfold f_X6_plane_p17; rw [rf_bad]; rfl
  have bm : f_X7_plane_p20 (va_up I 13 (I 13 + 1)) A L = some (-2, va_up I 13 (I 13 + 1), va_up A 63 (upd (A 63) 0 (A 63 0 + 1)), L) := by unfold f_X7_plane_p20; rw [rm_bad]; rfl
  by_cases hs : sgn h k l
  · by_cases ho : 1 ≤ o ∧ o ≤ 60
    · obtain ⟨pl, past, ⟨ok, hx, hm⟩, hst, h3, h4, h5, h6, h7⟩ := id hI
      obtain ⟨sx, sm, so⟩ := vSt_split hst
      by_cases hfull : pl.length = 32
      · refine ⟨-4, va_up I 15 (I 15 + 1), A, L, _, _, _, ?_, ?_, inv_full hI⟩
        · unfold f_X6_plane
          rw [x_sign1 I A L hs, bd_some, if_neg (by decide), x_off, if_pos ho, bd_some, if_neg (by decide), if_neg (by rw [hx.1, hfull]; decide), rf_full]
          rfl
        · unfold f_X7_plane
          rw [m_sign1 _ _ _ hs, bd_some, if_neg (by decide), m_in, if_pos ho, bd_some, if_neg (by decide), m_c0]
          rw [if_pos (by show A 60 0 = 32; rw [hm.1, hfull]; rfl), rm_full]
          rfl
      · have hlt : pl.length < 32 := by have := ok.2.1; omega
        obtain ⟨I1, A1, e1, x1, x7, x8, xI, xA⟩ := leave_s (L := L) sx hx (by omega)
        have hx1 : rpX (I1 (16 * 1 + 4)) (A1 (1 + 1)) (A1 (1 + 2)) (A1 (1 + 3)) (A1 (1 + 4)) pl := by
          show rpX (I1 20) (A1 2) (A1 3) (A1 4) (A1 5) pl
          rw [xI 20 (by omega) (by omega) (by omega) (by omega) (by omega), xA 2 (by omega), xA 3 (by omega), xA 4 (by omega), xA 5 (by omega)]
          exact hx
        obtain ⟨A2, e2, r2, f2⟩ := put_s (h := h) (k := k) (l := l) (o := o) (L := L) hx1 hlt
        have eI2 : ∀ i, i ≠ 20 → va_up I1 (16 * 1 + 4) (Int32.ofNat (pl.length + 1)) i = I1 i := fun i hi => un _ _ (by omega)
        have m60 : A2 60 = A 60 := by rw [f2 60 (by omega), xA 60 (by omega)]
        have m61 : A2 61 = A 61 := by rw [f2 61 (by omega), xA 61 (by omega)]
        obtain ⟨kk, r61, r62, hm1, e3⟩ := m_leave (I := va_up I1 (16 * 1 + 4) (Int32.ofNat (pl.length + 1))) (A := A2) (L := L) (pl := pl) (past := past) (by rw [eI2 946 (by omega), xI 946 (by omega) (by omega) (by omega) (by omega) (by omega), m61]; exact sm) (by rw [m60]; exact hm) (by omega) (fun I10 A11 L12 => g_b1 (f_X7_comes h k l o I10 A11 L12) (fun I14 A15 L16 => g_ck 0 129 (some (((A15 60 (Int32.toNatClampNeg 0)) - 1), I14, A15, L16))))
        obtain ⟨s', e4, r4, z4⟩ := comes_s (I := va_up (va_up I1 (16 * 1 + 4) (Int32.ofNat (pl.length + 1))) 946 kk) (A := va_up (va_up A2 62 r62) 61 r61) (L := L) (pl := pl) (h := h) (k := k) (l := l) (o := o) (by rw [un _ _ (by omega), un _ _ (by omega), m60]; exact hm) hlt
        refine ⟨Int32.ofNat pl.length, va_up I1 (16 * 1 + 4) (Int32.ofNat (pl.length + 1)), A2, L, va_up (va_up I1 (16 * 1 + 4) (Int32.ofNat (pl.length + 1))) 946 kk, va_up (va_up (va_up A2 62 r62) 61 r61) 60 s', L, ?_, ?_, ?_⟩
        · unfold f_X6_plane
          rw [x_sign1 I A L hs, bd_some, if_neg (by decide), x_off, if_pos ho, bd_some, if_neg (by decide), if_pos (by rw [hx.1, i_lt, i_nat (by omega)]; show (pl.length : Int) < 32; omega), e1, b1_some, e2, b1_some]
          rw [show va_up I1 (16 * 1 + 4) (Int32.ofNat (pl.length + 1)) 20 = Int32.ofNat (pl.length + 1) from us _ _ _, o_pred]
        · unfold f_X7_plane
          rw [m_sign1 _ _ _ hs, bd_some, if_neg (by decide), m_in, if_pos ho, bd_some, if_neg (by decide), m_c0]
          rw [if_neg (by show ¬ A2 60 0 = 32; rw [m60, hm.1, i_eq, i_nat (by omega)]; show ¬ (pl.length : Int) = 32; omega), e3, e4, b1_some, m_c0]
          rw [show (va_up (va_up (va_up A2 62 r62) 61 r61) 60 s') 60 (Int32.toNatClampNeg 0) = Int32.ofNat (pl.length + 1) from by rw [us]; exact z4, o_pred]
        · refine inv_change (I := I) (A := A) (pl := pl) (past := past) h3 h4 h5 (psh_ok so ok) ?_ ?_ ?_ ?_ ?_ hm1 ⟨okL_app ok (okP_of hs ho) hlt, r2, r4⟩
          · rw [eI2 177 (by omega), eI2 178 (by omega), rgX_up (I := I1) (A := A1) (fun i a b => eI2 i (by omega)) (fun r a b => f2 r (by omega))]
            exact x1
          · rw [eI2 7 (by omega)]; exact x7
          · rw [eI2 8 (by omega)]; exact x8
          · intro i a1 a2 a3 a4 a5 a6
            rw [eI2 i a1, xI i a2 a3 a4 a5 a6]
          · intro r hr
            rw [f2 r (by omega), xA r (by omega)]
    · obtain ⟨I2, A2, L2, e1, e2, e3⟩ := bad2 hI (F := f_X6_plane h k l o I A L) (G := f_X7_plane h k l o (va_up I 13 (I 13 + 1)) A L) (a := -2) (by unfold f_X6_plane; rw [x_sign1 I A L hs, bd_some, if_neg (by decide), x_off, if_neg ho, bd_some, if_pos rfl, bx]) (by unfold f_X7_plane; rw [m_sign1 _ _ _ hs, bd_some, if_neg (by decide), m_in, if_neg ho, bd_some, if_pos rfl, bm])
      exact ⟨-2, _, _, _, I2, A2, L2, e1, e2, e3⟩
  · obtain ⟨I2, A2, L2, e1, e2, e3⟩ := bad2 hI (F := f_X6_plane h k l o I A L) (G := f_X7_plane h k l o (va_up I 13 (I 13 + 1)) A L) (a := -2) (by unfold f_X6_plane; rw [x_sign0 I A L hs, bd_some, if_pos rfl, bx]) (by unfold f_X7_plane; rw [m_sign0 _ _ _ hs, bd_some, if_pos rfl, bm])
    exact ⟨-2, _, _, _, I2, A2, L2, e1, e2, e3⟩
