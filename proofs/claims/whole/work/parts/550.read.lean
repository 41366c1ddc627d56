/-! THE TEXT: t its bytes, n how many -/
def skpF (t : Nat → Int32) : Nat → Nat → Nat
  | 0, a => a
  | k + 1, a => if t a = 32 then skpF t k (a + 1) else a
def skp (t : Nat → Int32) (n a : Nat) : Nat := skpF t (n - a) a
def byt (t : Nat → Int32) (n a : Nat) : Int32 := if a < n then t a else -1
theorem skpF_le (t : Nat → Int32) : ∀ k a, a ≤ skpF t k a ∧ skpF t k a ≤ a + k
  | 0, a => ⟨Nat.le_refl _, Nat.le_refl _⟩
  | k + 1, a => by
    unfold skpF
    split
    next => have := skpF_le t k (a + 1); omega
    next => omega
theorem skp_le {t : Nat → Int32} {n a : Nat} (h : a ≤ n) : a ≤ skp t n a ∧ skp t n a ≤ n := by
  have := skpF_le t (n - a) a
  unfold skp
  omega
theorem skp_s {t : Nat → Int32} {n a : Nat} (h : a < n) : skp t n a = if t a = 32 then skp t n (a + 1) else a := by
  unfold skp
  rw [show n - a = (n - (a + 1)) + 1 by omega]
  rfl
theorem skp_n {t : Nat → Int32} {n : Nat} : skp t n n = n := by
  unfold skp
  rw [Nat.sub_self]
  rfl
theorem skp_ne {t : Nat → Int32} {n : Nat} : ∀ k a, n - a = k → a ≤ n → byt t n (skp t n a) ≠ 32
  | 0, a, hk, ha => by
    have : a = n := by omega
    subst this
    rw [skp_n]
    unfold byt
    rw [if_neg (by omega)]
    decide
  | k + 1, a, hk, ha => by
    rw [skp_s (by omega)]
    split
    next => exact skp_ne k (a + 1) (by omega) (by omega)
    next q =>
      unfold byt
      rw [if_pos (by omega)]
      exact q
/-- skipping twice is skipping once -/
theorem skp_skp {t : Nat → Int32} {n a : Nat} (h : a ≤ n) : skp t n (skp t n a) = skp t n a := by
  have h1 := skp_ne (t := t) (n := n) _ a rfl h
  have h2 := skp_le (t := t) h
  rcases Nat.lt_or_ge (skp t n a) n with q | q
  · unfold byt at h1
    rw [if_pos q] at h1
    rw [skp_s q, if_neg h1]
  · have e : skp t n a = n := by omega
    rw [e, skp_n]
def RX (I : Nat → Int32) (A : Nat → Nat → Int32) (t : Nat → Int32) (n a : Nat) : Prop := I 913 = Int32.ofNat n ∧ I 914 = Int32.ofNat a ∧ n ≤ 120 ∧ a ≤ n ∧ ∀ j, j < n → A 58 j = t j
def RM (I : Nat → Int32) (A : Nat → Nat → Int32) (t : Nat → Int32) (n a : Nat) : Prop := I 950 = Int32.ofNat n ∧ I 951 = Int32.ofNat a ∧ n ≤ 120 ∧ a ≤ n ∧ ∀ j, j < n → A 64 j = t j
theorem look_l {t : Nat → Int32} {n : Nat} : ∀ (f a : Nat) (I : Nat → Int32) (A : Nat → Nat → Int32) (L : Nat → Int64), n - a < f → RX I A t n a → f_X3_look_p0 f I A L = some (byt t n (skp t n a), va_up I 914 (Int32.ofNat (skp t n a)), A, L) := by
  intro f
  induction f with
  | zero => intro a I A L h1; omega
  | succ f ih =>
    intro a I A L h1 h
    obtain ⟨e1, e2, e3, e4, e5⟩ := h
    rw [f_X3_look_p0_e]
    unfold f_X3_look_p38
    rw [e1, e2]
    by_cases ha : n ≤ a
    · have : a = n := by omega
      subst this
      rw [if_pos (o_le (by omega) (by omega) ha), if_pos (o_le (by omega) (by omega) ha), skp_n, ← e2, uself]
      unfold byt
      rw [if_neg (by omega)]
    · rw [if_neg (o_nle (by omega) (by omega) (by omega)), if_neg (o_nle (by omega) (by omega) (by omega)), o_ck (by omega) (by omega), o_ck (by omega) (by omega), i_tnn (by omega), e5 a (by omega), skp_s (by omega), i_1]
      by_cases q : t a = 32
      · rw [if_pos q, if_pos q, g_lt_eq]
        rw [ih (a + 1) (va_up I 914 (Int32.ofNat (a + 1))) A L (by omega) ⟨by rw [un _ _ (by omega)]; exact e1, us _ _ _, e3, by omega, e5⟩, uu]
      · rw [if_neg q, if_neg q]
        have : byt t n a = t a := by unfold byt; rw [if_pos (by omega)]
        rw [this, ← e2, uself]
theorem look_s {t : Nat → Int32} {n a : Nat} {I : Nat → Int32} {A : Nat → Nat → Int32} {L : Nat → Int64} (h : RX I A t n a) : f_X3_look I A L = some (byt t n (skp t n a), va_up I 914 (Int32.ofNat (skp t n a)), A, L) := look_l 4096 a I A L (by have := h.2.2.1; omega) h
theorem RX_at {t : Nat → Int32} {n a b : Nat} {I : Nat → Int32} {A : Nat → Nat → Int32} (h : RX I A t n a) (hb : b ≤ n) : RX (va_up I 914 (Int32.ofNat b)) A t n b := ⟨by rw [un _ _ (by omega)]; exact h.1, us _ _ _, h.2.2.1, hb, h.2.2.2.2⟩
theorem RM_at {t : Nat → Int32} {n a b : Nat} {I : Nat → Int32} {A : Nat → Nat → Int32} (h : RM I A t n a) (hb : b ≤ n) : RM (va_up I 951 (Int32.ofNat b)) A t n b := ⟨by rw [un _ _ (by omega)]; exact h.1, us _ _ _, h.2.2.1, hb, h.2.2.2.2⟩
theorem byteAt_s {t : Nat → Int32} {n a b : Nat} {I : Nat → Int32} {A : Nat → Nat → Int32} {L : Nat → Int64} (h : RM I A t n a) (hb : b < 1000) : f_X7_byteAt I A L (Int32.ofNat b) = some (byt t n b) := by
  obtain ⟨e1, e2, e3, e4, e5⟩ := h
  unfold f_X7_byteAt byt
  rw [e1]
  by_cases q : n ≤ b
  · rw [if_pos (o_le (by omega) (by omega) q), if_neg (by omega)]
  · rw [if_neg (o_nle (by omega) (by omega) (by omega)), if_pos (by omega), o_ck (by omega) (by omega), i_tnn (by omega), e5 b (by omega)]
theorem skips_l {t : Nat → Int32} {n : Nat} : ∀ (f a : Nat) (I : Nat → Int32) (A : Nat → Nat → Int32) (L : Nat → Int64), n - a < f → RM I A t n a → f_X7_skips_p0 f I A L = some (va_up I 951 (Int32.ofNat (skp t n a)), A, L) := by
  intro f
  induction f with
  | zero => intro a I A L h1; omega
  | succ f ih =>
    intro a I A L h1 h
    have h3 := h.2.2.1
    have h4 := h.2.2.2.1
    rw [f_X7_skips_p0_e, h.2.1, byteAt_s h (by omega), bd_some, i_1]
    rcases Nat.lt_or_ge a n with ha | ha
    · rw [skp_s ha]
      have : byt t n a = t a := by unfold byt; rw [if_pos ha]
      rw [this]
      by_cases q : t a = 32
      · rw [if_pos q, if_pos q, g_lt_eq, ih (a + 1) _ A L (by omega) (RM_at h (by omega)), uu]
      · rw [if_neg q, if_neg q, ← h.2.1, uself]
    · have : a = n := by omega
      subst this
      rw [skp_n, if_neg (by unfold byt; rw [if_neg (by omega)]; decide), ← h.2.1, uself]
theorem skips_s {t : Nat → Int32} {n a : Nat} {I : Nat → Int32} {A : Nat → Nat → Int32} {L : Nat → Int64} (h : RM I A t n a) : f_X7_skips I A L = some (va_up I 951 (Int32.ofNat (skp t n a)), A, L) := skips_l 4096 a I A L (by have := h.2.2.1; omega) h
/-! a colon ahead of the next ; -/
def colF (t : Nat → Int32) : Nat → Nat → Bool
  | 0, _ => false
  | k + 1, a => if t a = 59 then false else if t a = 58 then true else colF t k (a + 1)
def col (t : Nat → Int32) (n a : Nat) : Bool := colF t (n - a) a
theorem col_s {t : Nat → Int32} {n a : Nat} (h : a < n) : col t n a = if t a = 59 then false else if t a = 58 then true else col t n (a + 1) := by
  unfold col
  rw [show n - a = (n - (a + 1)) + 1 by omega]
  rfl
theorem col_n {t : Nat → Int32} {n : Nat} : col t n n = false := by
  unfold col
  rw [Nat.sub_self]
  rfl
theorem colx_l {t : Nat → Int32} {n a0 : Nat} {I : Nat → Int32} {A : Nat → Nat → Int32} {L : Nat → Int64} (h : RX I A t n a0) : ∀ (f a : Nat), n - a < f → a ≤ n → f_X3_isColonAhead_p5 I A L f (Int32.ofNat a) = some (if col t n a = true then 1 else 0) := by
  obtain ⟨e1, e2, e3, e4, e5⟩ := h
  intro f
  induction f with
  | zero => intro a h1; omega
  | succ f ih =>
    intro a h1 h2
    rw [f_X3_isColonAhead_p5_e, e1, i_1]
    by_cases ha : n ≤ a
    · have : a = n := by omega
      subst this
      rw [if_pos (o_le (by omega) (by omega) ha), col_n]; rfl
    · rw [if_neg (o_nle (by omega) (by omega) (by omega)), o_ck (by omega) (by omega), o_ck (by omega) (by omega), i_tnn (by omega), e5 a (by omega), col_s (by omega)]
      by_cases q : t a = 59
      · rw [if_pos q, if_pos q]; rfl
      · rw [if_neg q, if_neg q]
        by_cases p : t a = 58
        · rw [if_pos p, if_pos p]; rfl
        · rw [if_neg p, if_neg p]
          exact ih (a + 1) (by omega) (by omega)
theorem colm_l {t : Nat → Int32} {n a0 : Nat} {I : Nat → Int32} {A : Nat → Nat → Int32} {L : Nat → Int64} (h : RM I A t n a0) : ∀ (f a : Nat), n - a < f → a ≤ n → f_X7_isFamily_p5 I A L f (Int32.ofNat a) = some (if col t n a = true then 1 else 0) := by
  have e1 := h.1
  have e3 := h.2.2.1
  have e5 := h.2.2.2.2
  intro f
  induction f with
  | zero => intro a h1; omega
  | succ f ih =>
    intro a h1 h2
    rw [f_X7_isFamily_p5_e, e1, i_1]
    unfold f_X7_isFamily_p41
    rw [byteAt_s h (by omega), bd_some]
    by_cases ha : n ≤ a
    · have : a = n := by omega
      subst this
      rw [if_pos (o_le (by omega) (by omega) ha), col_n, if_neg (by unfold byt; rw [if_neg (by omega)]; decide)]; rfl
    · have hb : byt t n a = t a := by unfold byt; rw [if_pos (by omega)]
      rw [if_neg (o_nle (by omega) (by omega) (by omega)), o_ck (by omega) (by omega), o_ck (by omega) (by omega), i_tnn (by omega), e5 a (by omega), col_s (by omega), hb]
      by_cases q : t a = 59
      · rw [if_pos q, if_pos q, if_neg (by rw [q]; decide)]; rfl
      · rw [if_neg q, if_neg q]
        by_cases p : t a = 58
        · rw [if_pos p, if_pos p, if_pos p]; rfl
        · rw [if_neg p, if_neg p]
          exact ih (a + 1) (by omega) (by omega)
