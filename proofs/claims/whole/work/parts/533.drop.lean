theorem gD_er {pl : List Pl} {p t : Nat} (hp : p < pl.length) : (pl.eraseIdx p).getD t p0 = if t < p then pl.getD t p0 else pl.getD (t + 1) p0 := by
  rw [List.getD_eq_getElem?_getD, List.getElem?_eraseIdx]
  split
  next => rw [List.getD_eq_getElem?_getD]
  next => rw [List.getD_eq_getElem?_getD]
theorem er_len {pl : List Pl} {p : Nat} (hp : p < pl.length) : (pl.eraseIdx p).length = pl.length - 1 := List.length_eraseIdx_of_lt hp
theorem take_l {b p : Nat} {pl : List Pl} (hp : p < pl.length) (hl : pl.length ≤ 32) : ∀ (n i : Nat) (I : Nat → Int32) (A : Nat → Nat → Int32) (L : Nat → Int64), I (16 * b + 4) = Int32.ofNat pl.length → p ≤ i → i < pl.length → pl.length - i < n → (∀ t, t < i → (pl.eraseIdx p).getD t p0 = (A (b + 1) t, A (b + 2) t, A (b + 3) t, A (b + 4) t)) → (∀ t, i < t → t < pl.length → pl.getD t p0 = (A (b + 1) t, A (b + 2) t, A (b + 3) t, A (b + 4) t)) → ∃ A', f_X2_takeOut_p2 b n (Int32.ofNat i) I A L = some (va_up I (16 * b + 4) (Int32.ofNat (pl.length - 1)), A', L) ∧ (∀ t, t < pl.length - 1 → (pl.eraseIdx p).getD t p0 = (A' (b + 1) t, A' (b + 2) t, A' (b + 3) t, A' (b + 4) t)) ∧ ∀ r, (r ≤ b ∨ b + 4 < r) → A' r = A r := by
  intro n
  induction n with
  | zero => intro i I A L _ _ _ h; omega
  | succ n ih =>
    intro i I A L hc h1 h2 h3 hlo hhi
    rw [f_X2_takeOut_p2_e, hc, i_1]
    by_cases he : pl.length ≤ i + 1
    · rw [if_pos (o_le (by omega) (by omega) he), g_lt_eq, show pl.length = (pl.length - 1) + 1 by omega, o_pred]
      exact ⟨A, rfl, fun t ht => hlo t (by omega), fun _ _ => rfl⟩
    · rw [if_neg (o_nle (by omega) (by omega) (by omega))]
      rw [o_ck (by omega) (by omega), o_ck (by omega) (by omega), g_lt_eq, o_ck (by omega) (by omega), o_ck (by omega) (by omega), g_lt_eq, o_ck (by omega) (by omega), o_ck (by omega) (by omega), g_lt_eq, o_ck (by omega) (by omega), o_ck (by omega) (by omega), g_lt_eq]
      simp only [i_tnn (show i < 2147483648 by omega), i_tnn (show i + 1 < 2147483648 by omega)]
      generalize hA' : va_up (va_up (va_up (va_up A (b + 1) (upd (A (b + 1)) i (A (b + 1) (i + 1)))) (b + 2) _) (b + 3) _) (b + 4) _ = A9
      have r1 : A9 (b + 1) = upd (A (b + 1)) i (A (b + 1) (i + 1)) := by rw [← hA', un _ _ (by omega), un _ _ (by omega), un _ _ (by omega), us]
      have r2 : A9 (b + 2) = upd (A (b + 2)) i (A (b + 2) (i + 1)) := by rw [← hA', un _ _ (by omega), un _ _ (by omega), us, un _ _ (by omega)]
      have r3 : A9 (b + 3) = upd (A (b + 3)) i (A (b + 3) (i + 1)) := by rw [← hA', un _ _ (by omega), us, un _ _ (by omega), un _ _ (by omega)]
      have r4 : A9 (b + 4) = upd (A (b + 4)) i (A (b + 4) (i + 1)) := by rw [← hA', us, un _ _ (by omega), un _ _ (by omega), un _ _ (by omega)]
      have ro : ∀ r, (r ≤ b ∨ b + 4 < r) → A9 r = A r := fun r hr => by rw [← hA', un _ _ (by omega), un _ _ (by omega), un _ _ (by omega), un _ _ (by omega)]
      obtain ⟨A', e, g1, g2⟩ := ih (i + 1) I A9 L hc (by omega) (by omega) (by omega) (fun t ht => by
        rw [r1, r2, r3, r4]
        by_cases e : t = i
        · subst e
          rw [ds, ds, ds, ds, gD_er hp, if_neg (by omega)]
          exact hhi (t + 1) (by omega) (by omega)
        · rw [dn _ _ e, dn _ _ e, dn _ _ e, dn _ _ e]
          exact hlo t (by omega)) (fun t h5 h6 => by
        rw [r1, r2, r3, r4, dn _ _ (by omega), dn _ _ (by omega), dn _ _ (by omega), dn _ _ (by omega)]
        exact hhi t (by omega) h6)
      exact ⟨A', e, g1, fun r hr => by rw [g2 r hr, ro r hr]⟩
theorem take_s {b p : Nat} {I : Nat → Int32} {A : Nat → Nat → Int32} {L : Nat → Int64} {pl : List Pl} (h : rpX (I (16 * b + 4)) (A (b + 1)) (A (b + 2)) (A (b + 3)) (A (b + 4)) pl) (hp : p < pl.length) (hl : pl.length ≤ 32) : ∃ A', f_X2_takeOut b (Int32.ofNat p) I A L = some (va_up I (16 * b + 4) (Int32.ofNat (pl.length - 1)), A', L) ∧ rpX (Int32.ofNat (pl.length - 1)) (A' (b + 1)) (A' (b + 2)) (A' (b + 3)) (A' (b + 4)) (pl.eraseIdx p) ∧ ∀ r, (r ≤ b ∨ b + 4 < r) → A' r = A r := by
  obtain ⟨A', e, g1, g2⟩ := take_l (b := b) hp hl 4096 p I A L h.1 (Nat.le_refl _) hp (by omega) (fun t ht => by rw [gD_er hp, if_pos ht]; exact h.2 t (by omega)) (fun t _ h6 => h.2 t h6)
  exact ⟨A', e, ⟨by rw [er_len hp], fun t ht => g1 t (by rw [er_len hp] at ht; exact ht)⟩, g2⟩
/-- a row of the reference, from place k on moved by four -/
theorem goes_l {m : Nat} (hm : m ≤ 32) (h6 : 1 ≤ m) : ∀ (n k : Nat) (I : Nat → Int32) (A : Nat → Nat → Int32) (L : Nat → Int64), A 60 0 = Int32.ofNat m → 1 ≤ k → k ≤ 4 * m - 3 → 4 * m - 3 - k < n → ∃ s', f_X7_goes_p6 n (Int32.ofNat k) I A L = some (I, va_up A 60 s', L) ∧ s' 0 = Int32.ofNat (m - 1) ∧ (∀ i, 1 ≤ i → i < k → s' i = A 60 i) ∧ ∀ i, k ≤ i → i < 4 * m - 3 → s' i = A 60 (i + 4) := by
  intro n
  induction n with
  | zero => intro k I A L _ _ _ h; omega
  | succ n ih =>
    intro k I A L h0 h1 h2 h3
    have n1 : (4 : Int32) * Int32.ofNat m - 3 = Int32.ofNat (4 * m - 3) := by
      rw [show (4 : Int32) * Int32.ofNat m = Int32.ofNat (4 * m) from by rw [Int32.ofNat_mul]; rfl, show 4 * m = (4 * m - 3) + 3 by omega, Int32.ofNat_add]
      show Int32.ofNat (4 * m - 3) + Int32.ofNat 3 - Int32.ofNat 3 = _
      rw [Int32.add_sub_cancel]
      rfl
    rw [f_X7_goes_p6_e, m_c0]
    rw [show Int32.toNatClampNeg 0 = 0 from rfl, h0, n1]
    by_cases he : 4 * m - 3 ≤ k
    · rw [if_pos (o_le (by omega) (by omega) he), m_c0, m_c0, g_lt_eq, show m = (m - 1) + 1 by omega, o_pred]
      refine ⟨_, rfl, ds _ _ _, fun i a b => dn _ _ (by omega), fun i a b => by omega⟩
    · have n2 : Int32.ofNat k + 4 = Int32.ofNat (k + 4) := by
        show Int32.ofNat k + Int32.ofNat 4 = _
        rw [← Int32.ofNat_add]
      rw [if_neg (o_nle (by omega) (by omega) (by omega)), n2, o_ck (by omega) (by omega), o_ck (by omega) (by omega), g_lt_eq, i_1, i_tnn (by omega), i_tnn (by omega)]
      obtain ⟨s', e, g0, g1, g2⟩ := ih (k + 1) I (va_up A 60 (upd (A 60) k (A 60 (k + 4)))) L (by rw [us, dn _ _ (by omega)]; exact h0) (by omega) (by omega) (by omega)
      refine ⟨s', by rw [e, uu], g0, fun i a b => ?_, fun i a b => ?_⟩
      · rw [g1 i a (by omega), us, dn _ _ (by omega)]
      · by_cases e1 : i = k
        · subst e1
          rw [g1 i (by omega) (by omega), us, ds]
        · rw [g2 i (by omega) b, us, dn _ _ (by omega)]
theorem goes_s {I : Nat → Int32} {A : Nat → Nat → Int32} {L : Nat → Int64} {pl : List Pl} {p : Nat} (h : rpM (A 60) 0 pl) (hp : p < pl.length) (hl : pl.length ≤ 32) : ∃ s', f_X7_goes (Int32.ofNat p) I A L = some (I, va_up A 60 s', L) ∧ s' 0 = Int32.ofNat (pl.length - 1) ∧ rpM s' 0 (pl.eraseIdx p) := by
  have n1 : (1 : Int32) + 4 * Int32.ofNat p = Int32.ofNat (4 * p + 1) := by rw [Int32.add_comm]; exact o_lin 4 p 1
  obtain ⟨s', e, g0, g1, g2⟩ := goes_l (m := pl.length) hl (by omega) 4096 (4 * p + 1) I A L h.1 (by omega) (by omega) (by omega)
  refine ⟨s', by unfold f_X7_goes; rw [n1]; exact e, g0, ⟨by rw [er_len hp]; exact g0, fun t ht => ?_⟩⟩
  rw [er_len hp] at ht
  rw [gD_er hp]
  by_cases h1 : t < p
  · rw [if_pos h1, h.2 t (by omega), g1 _ (by omega) (by omega), g1 _ (by omega) (by omega), g1 _ (by omega) (by omega), g1 _ (by omega) (by omega)]
  · rw [if_neg h1, h.2 (t + 1) (by omega), g2 _ (by omega) (by omega), g2 _ (by omega) (by omega), g2 _ (by omega) (by omega), g2 _ (by omega) (by omega)]
    refine quad ?_ ?_ ?_ ?_ <;> exact congrArg (A 60) (by omega)
theorem okL_er {pl : List Pl} {p : Nat} (h : okL pl) (hp : p < pl.length) (h6 : 6 ≤ p) : okL (pl.eraseIdx p) := by
  obtain ⟨k1, k2, k3, k4⟩ := h
  refine ⟨by rw [er_len hp]; omega, by rw [er_len hp]; omega, fun q hq => k3 q (List.mem_of_mem_eraseIdx hq), fun j hj => ?_⟩
  rw [gD_er hp, if_pos (by omega)]
  exact k4 j hj
theorem st_drop : gStep_drop Inv := by
  intro p I A L hI
  obtain ⟨pl, I1, A1, ok, hx, hm, e1, hx1, e20, e60, eA, key⟩ := change hI
  have bx : f_X6_drop_p14 I A L = some (-2, va_up I 13 (I 13 + 1), A, L) := by unfold f_X6_drop_p14; rw [rf_bad]; rfl
  have bm : f_X7_drop_p14 (va_up I 13 (I 13 + 1)) A L = some (-2, va_up I 13 (I 13 + 1), va_up A 63 (upd (A 63) 0 (A 63 0 + 1)), L) := by unfold f_X7_drop_p14; rw [rm_bad]; rfl
  by_cases hp : 0 ≤ p ∧ p < Int32.ofNat pl.length
  · by_cases h6 : 6 ≤ p
    · obtain ⟨j, hj, rfl⟩ := pl_nat (by have := ok.2.1; omega) hp
      have hl32 := ok.2.1
      have hj6 : 6 ≤ j := by
        rw [i_le, i_nat (by omega)] at h6
        have h6 : (6 : Int) ≤ j := h6
        omega
      obtain ⟨A2, e2, r2, f2⟩ := take_s (b := 1) (p := j) (L := L) hx1 hj hl32
      obtain ⟨I3, A3, e3, e4, e5⟩ := key (va_up I1 (16 * 1 + 4) (Int32.ofNat (pl.length - 1))) A2 (pl.eraseIdx j) (okL_er ok hj hj6) (fun i hi => un _ _ (by omega)) (fun r hr => f2 r (by omega)) r2 (fun I8 A9 L10 => g_b1 (f_X7_goes (Int32.ofNat j) I8 A9 L10) (fun I12 A13 L14 => g_ck 0 129 (some ((A13 60 (Int32.toNatClampNeg 0)), I12, A13, L14))))
      obtain ⟨s', e6, z6, r6⟩ := goes_s (I := I3) (A := A3) (L := L) (pl := pl) (p := j) (by rw [e4]; exact hm) hj hl32
      refine ⟨Int32.ofNat (pl.length - 1), va_up I1 (16 * 1 + 4) (Int32.ofNat (pl.length - 1)), A2, L, I3, va_up A3 60 s', L, ?_, ?_, e5 s' r6⟩
      · unfold f_X6_drop
        rw [x_plane I A L _ hx.1, if_pos hp, bd_some, if_neg (by decide), if_pos h6, e1, b1_some, e2, b1_some]
        rfl
      · unfold f_X7_drop
        rw [m_plane _ A2 L _ (n := pl.length) (by rw [f2 60 (by omega), e60]; exact hm.1) ok.1 ok.2.1, if_pos hp, bd_some, if_neg (by decide), if_pos h6, e3, e6, b1_some, m_c0]
        rw [show va_up A3 60 s' 60 (Int32.toNatClampNeg 0) = s' 0 from by rw [us]; rfl, z6]
    · obtain ⟨I2, A2, L2, e1, e2, e3⟩ := bad2 hI (F := f_X6_drop p I A L) (G := f_X7_drop p (va_up I 13 (I 13 + 1)) A L) (a := -2) (by unfold f_X6_drop; rw [x_plane I A L _ hx.1, if_pos hp, bd_some, if_neg (by decide), if_neg h6, bx]) (by unfold f_X7_drop; rw [m_plane _ A L _ (n := pl.length) hm.1 ok.1 ok.2.1, if_pos hp, bd_some, if_neg (by decide), if_neg h6, bm])
      exact ⟨-2, _, _, _, I2, A2, L2, e1, e2, e3⟩
  · obtain ⟨I2, A2, L2, e1, e2, e3⟩ := bad2 hI (F := f_X6_drop p I A L) (G := f_X7_drop p (va_up I 13 (I 13 + 1)) A L) (a := -2) (by unfold f_X6_drop; rw [x_plane I A L _ hx.1, if_neg hp, bd_some, if_pos rfl, bx]) (by unfold f_X7_drop; rw [m_plane _ A L _ (n := pl.length) hm.1 ok.1 ok.2.1, if_neg hp, bd_some, if_pos rfl, bm])
    exact ⟨-2, _, _, _, I2, A2, L2, e1, e2, e3⟩
