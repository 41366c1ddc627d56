/-! the class's Line -/
def LnS (I : Nat → Int32) (b : Nat) (P Q : Pl) : Prop :=
  (bI (I (16 * b + 112)) (wy P Q).1 18 ∧ bI (I (16 * b + 113)) (wy P Q).2.1 18 ∧ bI (I (16 * b + 114)) (wy P Q).2.2 18) ∧
  (bI (I (16 * b + 115)) (bs P Q).1 12960 ∧ bI (I (16 * b + 116)) (bs P Q).2.1 12960 ∧ bI (I (16 * b + 117)) (bs P Q).2.2 12960) ∧ bI (I (16 * b + 118)) (sc P Q) 972
theorem LnS_c {I I' : Nat → Int32} {b : Nat} {P Q : Pl} (h : LnS I b P Q) (e : ∀ i, 16 * b + 112 ≤ i → i ≤ 16 * b + 118 → I' i = I i) : LnS I' b P Q := by
  unfold LnS at *
  rw [e (16 * b + 112) (by omega) (by omega), e (16 * b + 113) (by omega) (by omega), e (16 * b + 114) (by omega) (by omega), e (16 * b + 115) (by omega) (by omega), e (16 * b + 116) (by omega) (by omega), e (16 * b + 117) (by omega) (by omega), e (16 * b + 118) (by omega) (by omega)]
  exact h
def ln0 (I : Nat → Int32) (b : Nat) (w1 w2 w3 s : Int32) : Nat → Int32 := va_up (va_up (va_up (va_up I (16 * b + 112) w1) (16 * b + 113) w2) (16 * b + 114) w3) (16 * b + 118) s
def ln1 (I : Nat → Int32) (b : Nat) (w1 w2 w3 s c1 c2 c3 : Int32) : Nat → Int32 := va_up (va_up (va_up (va_up (va_up (va_up (va_up (ln0 I b w1 w2 w3 s) (16 * b + 115) c1) (16 * b + 116) c2) (16 * b + 117) c3) (16 * b + 119) (-1)) (16 * b + 120) 0) (16 * b + 121) 1) (16 * b + 122) 0
theorem ln_e (b : Nat) : 16 * (b + 7) + 0 = 16 * b + 112 ∧ 16 * (b + 7) + 1 = 16 * b + 113 ∧ 16 * (b + 7) + 2 = 16 * b + 114 ∧ 16 * (b + 7) + 3 = 16 * b + 115 ∧ 16 * (b + 7) + 4 = 16 * b + 116 ∧ 16 * (b + 7) + 5 = 16 * b + 117 ∧ 16 * (b + 7) + 6 = 16 * b + 118 ∧ 16 * (b + 7) + 7 = 16 * b + 119 ∧ 16 * (b + 7) + 8 = 16 * b + 120 ∧ 16 * (b + 7) + 9 = 16 * b + 121 ∧ 16 * (b + 7) + 10 = 16 * b + 122 := by omega
theorem lay_s {b : Nat} {I : Nat → Int32} {A : Nat → Nat → Int32} {L : Nat → Int64} {P Q : Pl} {i j : Nat} (hi : i < 32) (hj : j < 32) (hP : P = (A 2 i, A 3 i, A 4 i, A 5 i)) (hQ : Q = (A 2 j, A 3 j, A 4 j, A 5 j)) (oP : okP P) (oQ : okP Q) :
    ∃ c I', f_X1_lay (b + 7) 1 (Int32.ofNat i) (Int32.ofNat j) I A L = some (c, I', A, L) ∧ (∀ k, (k < 16 * b + 112 ∨ 16 * b + 122 < k) → I' k = I k) ∧ ((c = 0 ∧ wy P Q = (0, 0, 0)) ∨ (c = 1 ∧ wy P Q ≠ (0, 0, 0) ∧ LnS I' b P Q ∧ I' (16 * b + 119) = -1 ∧ I' (16 * b + 120) = 0 ∧ I' (16 * b + 121) = 1 ∧ I' (16 * b + 122) = 0)) := by
  obtain ⟨a1, a2, a3, a4⟩ := okP_b oP
  obtain ⟨b1, b2, b3, b4⟩ := okP_b oQ
  have wx := b_sub (b_mul a2 b3 (by decide)) (b_mul a3 b2 (by decide)) (by decide)
  have wyy := b_sub (b_mul a3 b1 (by decide)) (b_mul a1 b3 (by decide)) (by decide)
  have wz := b_sub (b_mul a1 b2 (by decide)) (b_mul a2 b1 (by decide)) (by decide)
  have s := b_add (b_add (b_mul wx wx (by decide)) (b_mul wyy wyy (by decide)) (by decide)) (b_mul wz wz (by decide)) (by decide)
  have c1 := b_add (b_mul a4 (b_sub (b_mul b2 wz (by decide)) (b_mul b3 wyy (by decide)) (by decide)) (by decide)) (b_mul b4 (b_sub (b_mul wyy a3 (by decide)) (b_mul wz a2 (by decide)) (by decide)) (by decide)) (by decide)
  have c2 := b_add (b_mul a4 (b_sub (b_mul b3 wx (by decide)) (b_mul b1 wz (by decide)) (by decide)) (by decide)) (b_mul b4 (b_sub (b_mul wz a1 (by decide)) (b_mul wx a3 (by decide)) (by decide)) (by decide)) (by decide)
  have c3 := b_add (b_mul a4 (b_sub (b_mul b1 wyy (by decide)) (b_mul b2 wx (by decide)) (by decide)) (by decide)) (b_mul b4 (b_sub (b_mul wx a2 (by decide)) (b_mul wyy a1 (by decide)) (by decide)) (by decide)) (by decide)
  have p1 : A (1 + 1) i = P.1 := by rw [hP]
  have p2 : A (1 + 2) i = P.2.1 := by rw [hP]
  have p3 : A (1 + 3) i = P.2.2.1 := by rw [hP]
  have p4 : A (1 + 4) i = P.2.2.2 := by rw [hP]
  have q1 : A (1 + 1) j = Q.1 := by rw [hQ]
  have q2 : A (1 + 2) j = Q.2.1 := by rw [hQ]
  have q3 : A (1 + 3) j = Q.2.2.1 := by rw [hQ]
  have q4 : A (1 + 4) j = Q.2.2.2 := by rw [hQ]
  obtain ⟨e0, e1, e2, e3, e4, e5, e6, e7, e8, e9, e10⟩ := ln_e b
  unfold f_X1_lay
  simp only [g_lt_eq, o_ck hi (show 32 < 2147483648 by omega), o_ck hj (show 32 < 2147483648 by omega), i_tnn (show i < 2147483648 by omega), i_tnn (show j < 2147483648 by omega), p1, p2, p3, p4, q1, q2, q3, q4, e0, e1, e2, e3, e4, e5, e6, e7, e8, e9, e10, va_up, Nat.add_left_cancel_iff, Nat.reduceEqDiff, reduceIte]
  by_cases hw : wy P Q = (0, 0, 0)
  · have s0 : P.2.1.toInt * Q.2.2.1.toInt - P.2.2.1.toInt * Q.2.1.toInt = 0 ∧ P.2.2.1.toInt * Q.1.toInt - P.1.toInt * Q.2.2.1.toInt = 0 ∧ P.1.toInt * Q.2.1.toInt - P.2.1.toInt * Q.1.toInt = 0 := by
      simp only [wy, crs, nrm, Prod.mk.injEq] at hw
      exact hw
    refine ⟨0, _, if_pos ?_, fun k hk => ?_, Or.inl ⟨rfl, hw⟩⟩
    · rw [b_eq s b_0, s0.1, s0.2.1, s0.2.2]; rfl
    · simp only [va_up, show ¬ k = 16 * b + 118 by omega, show ¬ k = 16 * b + 114 by omega, show ¬ k = 16 * b + 113 by omega, show ¬ k = 16 * b + 112 by omega, if_false]
  · refine ⟨1, _, if_neg ?_, fun k hk => ?_, Or.inr ⟨rfl, hw, ⟨⟨?_, ?_, ?_⟩, ⟨?_, ?_, ?_⟩, ?_⟩, ?_, ?_, ?_, ?_⟩⟩
    · rw [b_eq s b_0]
      exact fun z => hw (cu_0 z)
    · simp only [va_up, show ¬ k = 16 * b + 122 by omega, show ¬ k = 16 * b + 121 by omega, show ¬ k = 16 * b + 120 by omega, show ¬ k = 16 * b + 119 by omega, show ¬ k = 16 * b + 118 by omega, show ¬ k = 16 * b + 117 by omega, show ¬ k = 16 * b + 116 by omega, show ¬ k = 16 * b + 115 by omega, show ¬ k = 16 * b + 114 by omega, show ¬ k = 16 * b + 113 by omega, show ¬ k = 16 * b + 112 by omega, if_false]
    · simp only [va_up, Nat.add_left_cancel_iff, Nat.reduceEqDiff, reduceIte]; exact b_w wx (by decide)
    · simp only [va_up, Nat.add_left_cancel_iff, Nat.reduceEqDiff, reduceIte]; exact b_w wyy (by decide)
    · simp only [va_up, Nat.add_left_cancel_iff, Nat.reduceEqDiff, reduceIte]; exact b_w wz (by decide)
    · simp only [va_up, Nat.add_left_cancel_iff, Nat.reduceEqDiff, reduceIte]; exact b_w c1 (by decide)
    · simp only [va_up, Nat.add_left_cancel_iff, Nat.reduceEqDiff, reduceIte]; exact b_w c2 (by decide)
    · simp only [va_up, Nat.add_left_cancel_iff, Nat.reduceEqDiff, reduceIte]; exact b_w c3 (by decide)
    · simp only [va_up, Nat.add_left_cancel_iff, Nat.reduceEqDiff, reduceIte]; exact b_w s (by decide)
    · simp only [va_up, Nat.add_left_cancel_iff, Nat.reduceEqDiff, reduceIte]
    · simp only [va_up, Nat.add_left_cancel_iff, Nat.reduceEqDiff, reduceIte]
    · simp only [va_up, Nat.add_left_cancel_iff, Nat.reduceEqDiff, reduceIte]
    · simp only [va_up, Nat.add_left_cancel_iff, Nat.reduceEqDiff, reduceIte]
