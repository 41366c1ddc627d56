def bx0 : List Pl := [(1, 0, 0, 20), (-1, 0, 0, 20), (0, 1, 0, 20), (0, -1, 0, 20), (0, 0, 1, 20), (0, 0, -1, 20)]
theorem bx0_ok : okL bx0 := by
  refine ⟨by decide, by decide, fun p hp => ?_, fun j hj => ?_⟩
  · have : p = (1, 0, 0, 20) ∨ p = (-1, 0, 0, 20) ∨ p = (0, 1, 0, 20) ∨ p = (0, -1, 0, 20) ∨ p = (0, 0, 1, 20) ∨ p = (0, 0, -1, 20) := by simpa [bx0] using hp
    rcases this with rfl | rfl | rfl | rfl | rfl | rfl <;> (unfold okP; decide)
  · rcases (show j = 0 ∨ j = 1 ∨ j = 2 ∨ j = 3 ∨ j = 4 ∨ j = 5 by omega) with rfl | rfl | rfl | rfl | rfl | rfl <;> rfl
theorem box_s {b : Nat} (I : Nat → Int32) (A : Nat → Nat → Int32) (L : Nat → Int64) : ∃ I' A', f_X2_becomeBox b I A L = some (I', A', L) ∧ rpX (I' (16 * b + 4)) (A' (b + 1)) (A' (b + 2)) (A' (b + 3)) (A' (b + 4)) bx0 ∧ (∀ i, i ≠ 16 * b + 4 → I' i = I i) ∧ ∀ r, (r ≤ b ∨ b + 4 < r) → A' r = A r := by
  unfold f_X2_becomeBox
  rw [g_lt_eq]
  obtain ⟨A1, e1, r1, o1⟩ := put_s (b := b) (I := va_up I (16 * b + 4) 0) (A := A) (L := L) (pl := []) (h := 1) (k := 0) (l := 0) (o := 20) ⟨us _ _ _, fun j hj => absurd hj (by simp)⟩ (by decide)
  obtain ⟨A2, e2, r2, o2⟩ := put_s (b := b) (I := va_up (va_up I (16 * b + 4) 0) (16 * b + 4) (Int32.ofNat 1)) (A := A1) (L := L) (pl := [(1, 0, 0, 20)]) (h := -1) (k := 0) (l := 0) (o := 20) (by rw [us]; exact r1) (by decide)
  obtain ⟨A3, e3, r3, o3⟩ := put_s (b := b) (I := va_up (va_up (va_up I (16 * b + 4) 0) (16 * b + 4) (Int32.ofNat 1)) (16 * b + 4) (Int32.ofNat 2)) (A := A2) (L := L) (pl := [(1, 0, 0, 20), (-1, 0, 0, 20)]) (h := 0) (k := 1) (l := 0) (o := 20) (by rw [us]; exact r2) (by decide)
  obtain ⟨A4, e4, r4, o4⟩ := put_s (b := b) (I := va_up (va_up (va_up (va_up I (16 * b + 4) 0) (16 * b + 4) (Int32.ofNat 1)) (16 * b + 4) (Int32.ofNat 2)) (16 * b + 4) (Int32.ofNat 3)) (A := A3) (L := L) (pl := [(1, 0, 0, 20), (-1, 0, 0, 20), (0, 1, 0, 20)]) (h := 0) (k := -1) (l := 0) (o := 20) (by rw [us]; exact r3) (by decide)
  obtain ⟨A5, e5, r5, o5⟩ := put_s (b := b) (I := va_up (va_up (va_up (va_up (va_up I (16 * b + 4) 0) (16 * b + 4) (Int32.ofNat 1)) (16 * b + 4) (Int32.ofNat 2)) (16 * b + 4) (Int32.ofNat 3)) (16 * b + 4) (Int32.ofNat 4)) (A := A4) (L := L) (pl := [(1, 0, 0, 20), (-1, 0, 0, 20), (0, 1, 0, 20), (0, -1, 0, 20)]) (h := 0) (k := 0) (l := 1) (o := 20) (by rw [us]; exact r4) (by decide)
  obtain ⟨A6, e6, r6, o6⟩ := put_s (b := b) (I := va_up (va_up (va_up (va_up (va_up (va_up I (16 * b + 4) 0) (16 * b + 4) (Int32.ofNat 1)) (16 * b + 4) (Int32.ofNat 2)) (16 * b + 4) (Int32.ofNat 3)) (16 * b + 4) (Int32.ofNat 4)) (16 * b + 4) (Int32.ofNat 5)) (A := A5) (L := L) (pl := [(1, 0, 0, 20), (-1, 0, 0, 20), (0, 1, 0, 20), (0, -1, 0, 20), (0, 0, 1, 20)]) (h := 0) (k := 0) (l := -1) (o := 20) (by rw [us]; exact r5) (by decide)
  refine ⟨va_up (va_up (va_up (va_up (va_up (va_up (va_up I (16 * b + 4) 0) (16 * b + 4) (Int32.ofNat 1)) (16 * b + 4) (Int32.ofNat 2)) (16 * b + 4) (Int32.ofNat 3)) (16 * b + 4) (Int32.ofNat 4)) (16 * b + 4) (Int32.ofNat 5)) (16 * b + 4) (Int32.ofNat 6), A6, ?_, by rw [us]; exact r6, fun i hi => ?_, fun r hr => ?_⟩
  · rw [e1, b1_some]
    show g_b1 (f_X2_put b (-1) 0 0 20 (va_up (va_up I (16 * b + 4) 0) (16 * b + 4) (Int32.ofNat 1)) A1 L) _ = _
    rw [e2, b1_some]
    show g_b1 (f_X2_put b 0 1 0 20 (va_up (va_up (va_up I (16 * b + 4) 0) (16 * b + 4) (Int32.ofNat 1)) (16 * b + 4) (Int32.ofNat 2)) A2 L) _ = _
    rw [e3, b1_some]
    show g_b1 (f_X2_put b 0 (-1) 0 20 (va_up (va_up (va_up (va_up I (16 * b + 4) 0) (16 * b + 4) (Int32.ofNat 1)) (16 * b + 4) (Int32.ofNat 2)) (16 * b + 4) (Int32.ofNat 3)) A3 L) _ = _
    rw [e4, b1_some]
    show g_b1 (f_X2_put b 0 0 1 20 (va_up (va_up (va_up (va_up (va_up I (16 * b + 4) 0) (16 * b + 4) (Int32.ofNat 1)) (16 * b + 4) (Int32.ofNat 2)) (16 * b + 4) (Int32.ofNat 3)) (16 * b + 4) (Int32.ofNat 4)) A4 L) _ = _
    rw [e5, b1_some]
    show g_b1 (f_X2_put b 0 0 (-1) 20 (va_up (va_up (va_up (va_up (va_up (va_up I (16 * b + 4) 0) (16 * b + 4) (Int32.ofNat 1)) (16 * b + 4) (Int32.ofNat 2)) (16 * b + 4) (Int32.ofNat 3)) (16 * b + 4) (Int32.ofNat 4)) (16 * b + 4) (Int32.ofNat 5)) A5 L) _ = _
    rw [e6, b1_some]
    rfl
  · rw [un _ _ hi, un _ _ hi, un _ _ hi, un _ _ hi, un _ _ hi, un _ _ hi, un _ _ hi]
  · rw [o6 r hr, o5 r hr, o4 r hr, o3 r hr, o2 r hr, o1 r hr]
theorem anew_l (x : Int32) : ∀ (n j : Nat) (I : Nat → Int32) (A : Nat → Nat → Int32) (L : Nat → Int64), j ≤ 6 → 6 - j < n → ∃ s', f_X7_anew_p25 n x (Int32.ofNat j) I A L = some (x, I, va_up A 60 s', L) ∧ (∀ i, (∀ t, j ≤ t → t < 6 → i ≠ 4 * t + 4) → s' i = A 60 i) ∧ ∀ t, j ≤ t → t < 6 → s' (4 * t + 4) = 20 := by
  intro n
  induction n with
  | zero => intro j I A L h1 h2; omega
  | succ n ih =>
    intro j I A L h1 h2
    rw [f_X7_anew_p25_e]
    by_cases he : j = 6
    · subst he
      rw [if_pos (by decide)]
      exact ⟨A 60, by rw [uself], fun _ _ => rfl, fun t a b => by omega⟩
    · have n1 : (4 : Int32) + 4 * Int32.ofNat j = Int32.ofNat (4 * j + 4) := by rw [Int32.add_comm]; exact o_lin 4 j 4
      rw [if_neg (show ¬ (6 : Int32) ≤ Int32.ofNat j from o_nle (a := 6) (by omega) (by omega) (by omega)), n1, o_ck (by omega) (by omega), g_lt_eq, i_1, i_tnn (by omega)]
      obtain ⟨s', e, g1, g2⟩ := ih (j + 1) I (va_up A 60 (upd (A 60) (4 * j + 4) 20)) L (by omega) (by omega)
      refine ⟨s', by rw [e, uu], fun i hi => ?_, fun t a b => ?_⟩
      · rw [g1 i (fun t a b => hi t (by omega) b), us, dn _ _ (hi j (by omega) (by omega))]
      · by_cases e1 : t = j
        · subst e1
          rw [g1 _ (fun u a b => by omega), us, ds]
        · exact g2 t (by omega) b
theorem st_anew : gStep_anew Inv := by
  intro I A L hI
  obtain ⟨pl, I1, A1, ok, hx, hm, e1, hx1, e20, e60, eA, key⟩ := change hI
  obtain ⟨I2, A2, e2, r2, oI, oA⟩ := box_s (b := 1) I1 A1 L
  obtain ⟨I3, A3, e3, e4, e5⟩ := key I2 A2 bx0 bx0_ok (fun i hi => oI i (by omega)) (fun r hr => oA r (by omega)) r2 (fun I6 A7 L8 => g_ck 0 129 (g_lt (A7 60 (Int32.toNatClampNeg 0)) (fun v9 => g_ck 0 129 (g_lt (va_up A7 60 (upd (A7 60) (Int32.toNatClampNeg 0) 6)) (fun A10 => f_X7_anew_p25 4096 v9 0 I6 A10 L8)))))
  obtain ⟨s', e6, g1, g2⟩ := anew_l (Int32.ofNat pl.length) 4096 0 I3 (va_up A3 60 (upd (A 60) 0 6)) L (by omega) (by omega)
  refine ⟨Int32.ofNat pl.length, I2, A2, L, I3, va_up A3 60 s', L, ?_, ?_, e5 s' ⟨?_, fun j hj => ?_⟩⟩
  · unfold f_X6_anew
    rw [e1, b1_some, e2, b1_some, hx.1]
  · unfold f_X7_anew
    rw [e3, m_c0, g_lt_eq, m_c0, g_lt_eq, show Int32.toNatClampNeg 0 = 0 from rfl, e4, hm.1]
    have e6 : f_X7_anew_p25 4096 (Int32.ofNat pl.length) 0 I3 (va_up A3 60 (upd (A 60) 0 6)) L = _ := e6
    rw [e6, uu]
  · rw [g1 0 (fun t _ _ => by omega), us, ds]; rfl
  · have hj : j < 6 := hj
    have h6 := ok.1
    have k4 := ok.2.2.2 j hj
    rw [hm.2 j (by omega)] at k4
    rw [g1 _ (fun t _ _ => by omega), g1 _ (fun t _ _ => by omega), g1 _ (fun t _ _ => by omega), us, dn _ _ (by omega), dn _ _ (by omega), dn _ _ (by omega), show 0 + 4 + 4 * j = 4 * j + 4 by omega, g2 j (by omega) hj]
    have a1 := congrArg Prod.fst k4
    have a2 := congrArg (fun z => z.2.1) k4
    have a3 := congrArg (fun z => z.2.2) k4
    rw [show (bx0.getD j p0) = ((bxs.getD j (0, 0, 0)).1, (bxs.getD j (0, 0, 0)).2.1, (bxs.getD j (0, 0, 0)).2.2, 20) from by rcases (show j = 0 ∨ j = 1 ∨ j = 2 ∨ j = 3 ∨ j = 4 ∨ j = 5 by omega) with rfl | rfl | rfl | rfl | rfl | rfl <;> rfl]
    exact quad a1.symm a2.symm a3.symm rfl
