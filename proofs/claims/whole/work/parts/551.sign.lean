theorem byt_lt {t : Nat → Int32} {n a : Nat} (h : byt t n a ≠ -1) : a < n ∧ byt t n a = t a := by
  unfold byt at h ⊢
  by_cases q : a < n
  · rw [if_pos q]; exact ⟨q, rfl⟩
  · rw [if_neg q] at h; exact absurd rfl h
theorem byt_48 {t : Nat → Int32} {n a : Nat} (h : (48 : Int32) ≤ byt t n a) : a < n ∧ byt t n a = t a := byt_lt (fun q => by rw [q] at h; exact absurd h (by decide))
theorem RX_up {t : Nat → Int32} {n a i : Nat} {v : Int32} {I : Nat → Int32} {A : Nat → Nat → Int32} (h : RX I A t n a) (h1 : i ≠ 913) (h2 : i ≠ 914) : RX (va_up I i v) A t n a := ⟨by rw [un _ _ (Ne.symm h1)]; exact h.1, by rw [un _ _ (Ne.symm h2)]; exact h.2.1, h.2.2⟩
theorem RM_A {t : Nat → Int32} {n a : Nat} {r : Nat} {row : Nat → Int32} {I : Nat → Int32} {A : Nat → Nat → Int32} (h : RM I A t n a) (hr : r ≠ 64) : RM I (va_up A r row) t n a := ⟨h.1, h.2.1, h.2.2.1, h.2.2.2.1, fun j hj => by rw [un _ _ (Ne.symm hr)]; exact h.2.2.2.2 j hj⟩
/-- where a figure stands -/
def fgA (t : Nat → Int32) (n a : Nat) : Nat := if byt t n (skp t n a) = 45 then skp t n (skp t n a + 1) else skp t n a
def fgV (t : Nat → Int32) (n a : Nat) : Int32 := if byt t n (skp t n a) = 45 then 48 - byt t n (fgA t n a) else byt t n (fgA t n a) - 48
theorem fgA_le {t : Nat → Int32} {n a : Nat} (h : a ≤ n) : fgA t n a ≤ n := by
  unfold fgA
  split
  next q =>
    have := (byt_lt (t := t) (n := n) (a := skp t n a) (by rw [q]; decide)).1
    exact (skp_le (by omega)).2
  next => exact (skp_le h).2
theorem fgA_ne {t : Nat → Int32} {n a : Nat} (h : a ≤ n) : byt t n (fgA t n a) ≠ 32 := by
  unfold fgA
  split
  next q =>
    have := (byt_lt (t := t) (n := n) (a := skp t n a) (by rw [q]; decide)).1
    exact skp_ne _ _ rfl (by omega)
  next => exact skp_ne _ _ rfl h
theorem fig_x {t : Nat → Int32} {n a : Nat} {I : Nat → Int32} {A : Nat → Nat → Int32} {L : Nat → Int64} (h : RX I A t n a) : ∃ I1, (∀ i, i ≠ 914 → i ≠ 920 → I1 i = I i) ∧ if 48 ≤ byt t n (fgA t n a) ∧ byt t n (fgA t n a) ≤ 51 then f_X3_readFigure I A L = some (1, I1, A, L) ∧ RX I1 A t n (fgA t n a + 1) ∧ I1 920 = fgV t n a else f_X3_readFigure I A L = some (0, I1, A, L) ∧ RX I1 A t n (fgA t n a) := by
  have h4 := h.2.2.2.1
  have e0 : f_X3_readFigure I A L = f_X3_readFigure_p36 (byt t n (fgA t n a)) (if byt t n (skp t n a) = 45 then 1 else 0) (va_up I 914 (Int32.ofNat (fgA t n a))) A L := by
    unfold f_X3_readFigure
    rw [look_s h, b2_some]
    unfold f_X3_readFigure_p16 fgA
    by_cases q : byt t n (skp t n a) = 45
    · have hl := (byt_lt (t := t) (n := n) (a := skp t n a) (by rw [q]; decide)).1
      rw [if_pos q, if_pos q, if_pos q, if_neg (by decide), g_lt_eq, us, uu, i_1, look_s (RX_at h (by omega)), b2_some, uu]
    · rw [if_neg q, if_neg q, if_neg q, if_pos rfl]
  rw [e0]
  unfold f_X3_readFigure_p36
  have hA := fgA_le (t := t) h4
  by_cases q : 48 ≤ byt t n (fgA t n a) ∧ byt t n (fgA t n a) ≤ 51
  · have hl := (byt_48 q.1).1
    refine ⟨va_up (va_up (va_up I 914 (Int32.ofNat (fgA t n a))) 920 (fgV t n a)) 914 (Int32.ofNat (fgA t n a + 1)), fun i a1 a2 => by rw [un _ _ a1, un _ _ a2, un _ _ a1], ?_⟩
    rw [if_pos q]
    refine ⟨?_, RX_at (RX_up (RX_at h hA) (by omega) (by omega)) (by omega), by rw [un _ _ (by omega), us]⟩
    rw [if_neg (Int32.not_lt.mpr q.1), if_pos q.2]
    unfold fgV
    by_cases p : byt t n (skp t n a) = 45
    · rw [if_pos p, if_neg (by decide), if_pos p, g_lt_eq, g_lt_eq, un _ _ (by omega), us, i_1]
    · rw [if_neg p, if_pos rfl, if_neg p, g_lt_eq, g_lt_eq, un _ _ (by omega), us, i_1]
  · refine ⟨va_up I 914 (Int32.ofNat (fgA t n a)), fun i a1 a2 => un _ _ a1, ?_⟩
    rw [if_neg q]
    refine ⟨?_, RX_at h hA⟩
    by_cases p : byt t n (fgA t n a) < 48
    · rw [if_pos p]
    · rw [if_neg p, if_neg (fun z => q ⟨i_nlt p, z⟩)]
theorem fig_m {t : Nat → Int32} {n a : Nat} {I : Nat → Int32} {A : Nat → Nat → Int32} {L : Nat → Int64} (h : RM I A t n a) {j : Nat} (hj : j < 3) (f : Nat) : f_X7_readsSign_p2 (f + 1) (Int32.ofNat j) I A L = if 48 ≤ byt t n (fgA t n a) ∧ byt t n (fgA t n a) ≤ 51 then f_X7_readsSign_p2 f (Int32.ofNat (j + 1)) (va_up I 951 (Int32.ofNat (fgA t n a + 1))) (va_up A 68 (upd (A 68) j (fgV t n a))) L else some (0, va_up I 951 (Int32.ofNat (fgA t n a)), A, L) := by
  have h3 := h.2.2.1
  have h4 := h.2.2.2.1
  have hs := skp_le (t := t) h4
  have hA := fgA_le (t := t) h4
  have hlow : ∀ (x2 s2 : Int32) (b : Nat), b ≤ n → Int32.ofNat (skp t n a) + s2 = Int32.ofNat b → skp t n b = fgA t n a → fgV t n a = (if x2 = 0 then byt t n (fgA t n a) - 48 else 48 - byt t n (fgA t n a)) → f_X7_readsSign_p44 (f_X7_readsSign_p2 f) (Int32.ofNat j) x2 (Int32.ofNat (skp t n a)) s2 (va_up I 951 (Int32.ofNat (skp t n a))) A L = if 48 ≤ byt t n (fgA t n a) ∧ byt t n (fgA t n a) ≤ 51 then f_X7_readsSign_p2 f (Int32.ofNat (j + 1)) (va_up I 951 (Int32.ofNat (fgA t n a + 1))) (va_up A 68 (upd (A 68) j (fgV t n a))) L else some (0, va_up I 951 (Int32.ofNat (fgA t n a)), A, L) := by
    intro x2 s2 b hb e1 e2 e3
    unfold f_X7_readsSign_p44
    rw [g_lt_eq, e1, uu, skips_s (RM_at h hb), b1_some, uu, us, e2, byteAt_s (RM_at h hA) (by omega), bd_some, m_in, bd_some]
    by_cases q : 48 ≤ byt t n (fgA t n a) ∧ byt t n (fgA t n a) ≤ 51
    · obtain ⟨l1, l2⟩ := byt_48 q.1
      rw [if_pos q, if_neg (by decide), if_pos q, e3, o_ck (by omega) (by omega), o_ck (by omega) (by omega), i_tnn (by omega), i_tnn (by omega), g_lt_eq, g_lt_eq, o_ck (by omega) (by omega), o_ck (by omega) (by omega), g_lt_eq, g_lt_eq, h.2.2.2.2 _ l1, l2, uu, i_1, i_1]
      by_cases p : x2 = 0
      · rw [if_pos p, if_pos p]
      · rw [if_neg p, if_neg p]
    · rw [if_neg q, if_pos rfl, if_neg q]
  rw [f_X7_readsSign_p2_e, if_neg (show ¬ (3 : Int32) ≤ Int32.ofNat j from o_nle (a := 3) (by omega) (by omega) (by omega)), skips_s h, b1_some, us, byteAt_s (RM_at h hs.2) (by omega), bd_some]
  unfold f_X7_readsSign_p29
  rw [us]
  by_cases p : byt t n (skp t n a) = 45
  · have hl := (byt_lt (t := t) (n := n) (a := skp t n a) (by rw [p]; decide)).1
    rw [if_pos p, if_neg (by decide)]
    exact hlow 1 1 (skp t n a + 1) (by omega) i_1 (by unfold fgA; rw [if_pos p]) (by unfold fgV; rw [if_pos p, if_neg (by decide)])
  · rw [if_neg p, if_pos rfl]
    exact hlow 0 0 (skp t n a) hs.2 (by show _ + Int32.ofNat 0 = _; rw [← Int32.ofNat_add, Nat.add_zero]) (by unfold fgA; rw [if_neg p, skp_skp h4]) (by unfold fgV; rw [if_neg p, if_pos rfl])
theorem fgV_in {t : Nat → Int32} {n a : Nat} (q : 48 ≤ byt t n (fgA t n a) ∧ byt t n (fgA t n a) ≤ 51) : -3 ≤ fgV t n a ∧ fgV t n a ≤ 3 := by
  have q1 := i_le.mp q.1
  have q2 := i_le.mp q.2
  generalize hc : byt t n (fgA t n a) = c at q1 q2
  have q1 : 48 ≤ c.toInt := q1
  have q2 : c.toInt ≤ 51 := q2
  have e48 : (48 : Int32).toInt = 48 := rfl
  have e3 : (3 : Int32).toInt = 3 := rfl
  have em : (-3 : Int32).toInt = -3 := rfl
  unfold fgV
  rw [hc]
  split
  · rw [i_le, i_le, i_sub (by omega) (by omega)]; omega
  · rw [i_le, i_le, i_sub (by omega) (by omega)]; omega
