/-! how much of the line is left -/
def LnH (I : Nat → Int32) (b : Nat) (la lb ha hb : Int) : Prop := bI (I (16 * b + 119)) la 174960 ∧ bI (I (16 * b + 120)) lb 162 ∧ bI (I (16 * b + 121)) ha 174960 ∧ bI (I (16 * b + 122)) hb 162
theorem p164_s {b : Nat} {I : Nat → Int32} {A : Nat → Nat → Int32} {L : Nat → Int64} {la lb ha hb : Int} (h : LnH I b la lb ha hb) : ∃ c, f_X1_isLeftBehind_p164 (b + 7) 1 I A L = some (c, I, A, L) ∧ ((c = 1 ∧ la * hb ≤ ha * lb) ∨ (c = 0 ∧ ha * lb < la * hb)) := by
  obtain ⟨e0, e1, e2, e3, e4, e5, e6, e7, e8, e9, e10⟩ := ln_e b
  obtain ⟨h1, h2, h3, h4⟩ := h
  have k := b_lt (b_mul h3 h2 (by decide)) (b_mul h1 h4 (by decide))
  unfold f_X1_isLeftBehind_p164
  rw [e7, e8, e9, e10]
  by_cases c : ha * lb < la * hb
  · exact ⟨0, if_pos (k.mpr c), Or.inr ⟨rfl, c⟩⟩
  · exact ⟨1, if_neg (fun q => c (k.mp q)), Or.inl ⟨rfl, by omega⟩⟩
theorem p131_s {b : Nat} {I : Nat → Int32} {A : Nat → Nat → Int32} {L : Nat → Int64} {P Q R : Pl} {x3 x4 : Int32} (hc : bI x3 (cb P Q R) 162) (hr : bI x4 (rm P Q R) 174960) {la lb ha hb : Int} (h : LnH I b la lb ha hb) : ∃ c I', f_X1_isLeftBehind_p131 (b + 7) 1 x3 x4 I A L = some (c, I', A, L) ∧ (∀ k, (k < 16 * b + 119 ∨ 16 * b + 122 < k) → I' k = I k) ∧ LnH I' b (lo P Q R la lb).1 (lo P Q R la lb).2 ha hb ∧ ((c = 1 ∧ (lo P Q R la lb).1 * hb ≤ ha * (lo P Q R la lb).2) ∨ (c = 0 ∧ ha * (lo P Q R la lb).2 < (lo P Q R la lb).1 * hb)) := by
  obtain ⟨e0, e1, e2, e3, e4, e5, e6, e7, e8, e9, e10⟩ := ln_e b
  obtain ⟨h1, h2, h3, h4⟩ := id h
  have k0 := b_le b_0 hc
  have k1 := b_le (b_mul h1 hc (by decide)) (b_mul hr h2 (by decide))
  unfold f_X1_isLeftBehind_p131
  rw [e7, e8]
  have same : ¬ (cb P Q R < 0 ∧ rm P Q R * lb < la * cb P Q R) → ∃ c I', f_X1_isLeftBehind_p164 (b + 7) 1 I A L = some (c, I', A, L) ∧ (∀ k, (k < 16 * b + 119 ∨ 16 * b + 122 < k) → I' k = I k) ∧ LnH I' b (lo P Q R la lb).1 (lo P Q R la lb).2 ha hb ∧ ((c = 1 ∧ (lo P Q R la lb).1 * hb ≤ ha * (lo P Q R la lb).2) ∨ (c = 0 ∧ ha * (lo P Q R la lb).2 < (lo P Q R la lb).1 * hb)) := fun q => by
    obtain ⟨c, a1, a2⟩ := p164_s (A := A) (L := L) h
    unfold lo
    rw [if_neg q]
    exact ⟨c, I, a1, fun _ _ => rfl, h, a2⟩
  by_cases c1 : 0 ≤ cb P Q R
  · rw [if_pos (k0.mpr c1)]
    exact same (fun q => by omega)
  · rw [if_neg (fun q => c1 (k0.mp q))]
    by_cases c2 : la * cb P Q R ≤ rm P Q R * lb
    · rw [if_pos (k1.mpr c2)]
      exact same (fun q => by omega)
    · rw [if_neg (fun q => c2 (k1.mp q)), g_lt_eq, g_lt_eq]
      have hnew : LnH (va_up (va_up I (16 * b + 119) (-x4)) (16 * b + 120) (-x3)) b (- rm P Q R) (- cb P Q R) ha hb := by
        refine ⟨?_, ?_, ?_, ?_⟩
        · rw [un _ _ (by omega), us]; exact b_neg hr (by decide)
        · rw [us]; exact b_neg hc (by decide)
        · rw [un _ _ (by omega), un _ _ (by omega)]; exact h3
        · rw [un _ _ (by omega), un _ _ (by omega)]; exact h4
      obtain ⟨c, a1, a2⟩ := p164_s (A := A) (L := L) hnew
      unfold lo
      rw [if_pos (show cb P Q R < 0 ∧ rm P Q R * lb < la * cb P Q R by omega)]
      exact ⟨c, _, a1, fun k hk => by rw [un _ _ (by omega), un _ _ (by omega)], hnew, a2⟩
theorem left1 {b : Nat} {I : Nat → Int32} {A : Nat → Nat → Int32} {L : Nat → Int64} {P Q R : Pl} {p : Nat} (hp : p < 32) (hR : R = (A 2 p, A 3 p, A 4 p, A 5 p)) (oR : okP R) (hS : LnS I b P Q) {la lb ha hb : Int} (h : LnH I b la lb ha hb) (hle : la * hb ≤ ha * lb) :
    ∃ c I', f_X1_isLeftBehind (b + 7) 1 (Int32.ofNat p) I A L = some (c, I', A, L) ∧ (∀ k, (k < 16 * b + 119 ∨ 16 * b + 122 < k) → I' k = I k) ∧ ((c = 1 ∧ LnH I' b (lo P Q R la lb).1 (lo P Q R la lb).2 (hi P Q R ha hb).1 (hi P Q R ha hb).2 ∧ (cb P Q R = 0 → 0 ≤ rm P Q R) ∧ (lo P Q R la lb).1 * (hi P Q R ha hb).2 ≤ (hi P Q R ha hb).1 * (lo P Q R la lb).2) ∨ (c = 0 ∧ ((cb P Q R = 0 ∧ rm P Q R < 0) ∨ (hi P Q R ha hb).1 * (lo P Q R la lb).2 < (lo P Q R la lb).1 * (hi P Q R ha hb).2))) := by
  obtain ⟨e0, e1, e2, e3, e4, e5, e6, e7, e8, e9, e10⟩ := ln_e b
  obtain ⟨⟨s1, s2, s3⟩, ⟨s4, s5, s6⟩, s7⟩ := hS
  obtain ⟨h1, h2, h3, h4⟩ := id h
  obtain ⟨a1, a2, a3, a4⟩ := okP_b oR
  have hc : bI (((R.1 * I (16 * b + 112)) + (R.2.1 * I (16 * b + 113))) + (R.2.2.1 * I (16 * b + 114))) (cb P Q R) 162 := b_w (b_add (b_add (b_mul a1 s1 (by decide)) (b_mul a2 s2 (by decide)) (by decide)) (b_mul a3 s3 (by decide)) (by decide)) (by decide)
  have hr : bI ((((R.2.2.2 * I (16 * b + 118)) - (R.1 * I (16 * b + 115))) - (R.2.1 * I (16 * b + 116))) - (R.2.2.1 * I (16 * b + 117))) (rm P Q R) 174960 := b_w (b_sub (b_sub (b_sub (b_mul a4 s7 (by decide)) (b_mul a1 s4 (by decide)) (by decide)) (b_mul a2 s5 (by decide)) (by decide)) (b_mul a3 s6 (by decide)) (by decide)) (by decide)
  have p1 : A (1 + 1) p = R.1 := by rw [hR]
  have p2 : A (1 + 2) p = R.2.1 := by rw [hR]
  have p3 : A (1 + 3) p = R.2.2.1 := by rw [hR]
  have p4 : A (1 + 4) p = R.2.2.2 := by rw [hR]
  unfold f_X1_isLeftBehind
  simp only [g_lt_eq, o_ck hp (show 32 < 2147483648 by omega), i_tnn (show p < 2147483648 by omega), p1, p2, p3, p4, e0, e1, e2, e3, e4, e5, e6, e9, e10]
  have k0 := b_eq hc b_0
  have k1 := b_lt hr b_0
  have k2 := b_le hc b_0
  have k3 := b_le (b_mul h3 hc (by decide)) (b_mul hr h4 (by decide))
  generalize ((R.1 * I (16 * b + 112)) + (R.2.1 * I (16 * b + 113))) + (R.2.2.1 * I (16 * b + 114)) = x3 at *
  generalize (((R.2.2.2 * I (16 * b + 118)) - (R.1 * I (16 * b + 115))) - (R.2.1 * I (16 * b + 116))) - (R.2.2.1 * I (16 * b + 117)) = x4 at *
  by_cases c0 : cb P Q R = 0
  · rw [if_pos (k0.mpr c0)]
    by_cases c1 : rm P Q R < 0
    · rw [if_pos (k1.mpr c1)]
      exact ⟨0, I, rfl, fun _ _ => rfl, Or.inr ⟨rfl, Or.inl ⟨c0, c1⟩⟩⟩
    · rw [if_neg (fun q => c1 (k1.mp q))]
      refine ⟨1, I, rfl, fun _ _ => rfl, Or.inl ⟨rfl, ?_⟩⟩
      unfold lo hi
      rw [if_neg (by omega), if_neg (by omega)]
      exact ⟨h, fun _ => by omega, hle⟩
  · rw [if_neg (fun q => c0 (k0.mp q))]
    have fin : ∀ I2 : Nat → Int32, (∀ k, (k < 16 * b + 119 ∨ 16 * b + 122 < k) → I2 k = I k) → LnH I2 b la lb (hi P Q R ha hb).1 (hi P Q R ha hb).2 → ∃ c I', f_X1_isLeftBehind_p131 (b + 7) 1 x3 x4 I2 A L = some (c, I', A, L) ∧ (∀ k, (k < 16 * b + 119 ∨ 16 * b + 122 < k) → I' k = I k) ∧ ((c = 1 ∧ LnH I' b (lo P Q R la lb).1 (lo P Q R la lb).2 (hi P Q R ha hb).1 (hi P Q R ha hb).2 ∧ (cb P Q R = 0 → 0 ≤ rm P Q R) ∧ (lo P Q R la lb).1 * (hi P Q R ha hb).2 ≤ (hi P Q R ha hb).1 * (lo P Q R la lb).2) ∨ (c = 0 ∧ ((cb P Q R = 0 ∧ rm P Q R < 0) ∨ (hi P Q R ha hb).1 * (lo P Q R la lb).2 < (lo P Q R la lb).1 * (hi P Q R ha hb).2))) := fun I2 f2 hn => by
      obtain ⟨c, I', b1, b2, b3, b4⟩ := p131_s (A := A) (L := L) hc hr hn
      refine ⟨c, I', b1, fun k hk => by rw [b2 k hk, f2 k hk], ?_⟩
      rcases b4 with ⟨b4, b5⟩ | ⟨b4, b5⟩
      · exact Or.inl ⟨b4, b3, fun z => absurd z c0, b5⟩
      · exact Or.inr ⟨b4, Or.inr b5⟩
    by_cases c1 : cb P Q R ≤ 0
    · rw [if_pos (k2.mpr c1)]
      refine fin I (fun _ _ => rfl) ?_
      unfold hi
      rw [if_neg (by omega)]
      exact h
    · rw [if_neg (fun q => c1 (k2.mp q))]
      by_cases c2 : ha * cb P Q R ≤ rm P Q R * hb
      · rw [if_pos (k3.mpr c2)]
        refine fin I (fun _ _ => rfl) ?_
        unfold hi
        rw [if_neg (by omega)]
        exact h
      · rw [if_neg (fun q => c2 (k3.mp q))]
        refine fin _ (fun k hk => by rw [un _ _ (by omega), un _ _ (by omega)]) ?_
        unfold hi
        rw [if_pos (show 0 < cb P Q R ∧ rm P Q R * hb < ha * cb P Q R by omega)]
        refine ⟨?_, ?_, ?_, ?_⟩
        · rw [un _ _ (by omega), un _ _ (by omega)]; exact h1
        · rw [un _ _ (by omega), un _ _ (by omega)]; exact h2
        · rw [un _ _ (by omega), us]; exact hr
        · rw [us]; exact hc
/-- the planes ahead of x, without w -/
def prt (pl : List Pl) (w : Int32) (x : Nat) (r : Pl) : Prop := ∃ i, i < x ∧ i < pl.length ∧ ¬ Int32.ofNat i = w ∧ pl.getD i p0 = r
theorem prt_s {pl : List Pl} {w : Int32} {x : Nat} (hx : x < pl.length) (hw : ¬ Int32.ofNat x = w) (r : Pl) : prt pl w (x + 1) r ↔ (prt pl w x r ∨ r = pl.getD x p0) := by
  constructor
  · rintro ⟨i, h1, h2, h3, h4⟩
    by_cases e : i = x
    · right; rw [← h4, e]
    · exact Or.inl ⟨i, by omega, h2, h3, h4⟩
  · rintro (⟨i, h1, h2, h3, h4⟩ | h)
    · exact ⟨i, by omega, h2, h3, h4⟩
    · exact ⟨x, by omega, hx, hw, h.symm⟩
theorem prt_e {pl : List Pl} {w : Int32} {x : Nat} (hw : Int32.ofNat x = w) (r : Pl) : prt pl w (x + 1) r ↔ prt pl w x r := by
  constructor
  · rintro ⟨i, h1, h2, h3, h4⟩
    have : i ≠ x := fun e => h3 (by rw [e]; exact hw)
    exact ⟨i, by omega, h2, h3, h4⟩
  · rintro ⟨i, h1, h2, h3, h4⟩
    exact ⟨i, by omega, h2, h3, h4⟩
theorem left_l {b : Nat} {A : Nat → Nat → Int32} {L : Nat → Int64} {P Q : Pl} {pl : List Pl} {w : Int32} (hl : pl.length ≤ 32) (ho : ∀ p ∈ pl, okP p) (hr : ∀ j, j < pl.length → pl.getD j p0 = (A 2 j, A 3 j, A 4 j, A 5 j)) :
    ∀ (n x : Nat) (I : Nat → Int32) (la lb ha hb : Int), x ≤ pl.length → pl.length - x < n → I (16 * 1 + 4) = Int32.ofNat pl.length → 38 ≤ b → LnS I b P Q → LnH I b la lb ha hb → LI P Q (prt pl w x) la lb ha hb →
    ∃ c I', f_X1_isLeftBy_p2 (b + 7) 1 n w (Int32.ofNat x) I A L = some (c, I', A, L) ∧ (∀ k, (k < 16 * b + 119 ∨ 16 * b + 122 < k) → I' k = I k) ∧ ((c = 1 ∧ ∃ la lb ha hb, LnH I' b la lb ha hb ∧ LI P Q (prt pl w pl.length) la lb ha hb) ∨ (c = 0 ∧ LN P Q (prt pl w pl.length))) := by
  intro n
  induction n with
  | zero => intro x I la lb ha hb hx hn; omega
  | succ n ih =>
    intro x I la lb ha hb hx hn h20 hb38 hS hH hI
    rw [f_X1_isLeftBy_p2_e, h20]
    by_cases e : x = pl.length
    · rw [if_pos (by rw [e]; exact o_le (by omega) (by omega) (by omega))]
      refine ⟨1, I, rfl, fun _ _ => rfl, Or.inl ⟨rfl, la, lb, ha, hb, hH, ?_⟩⟩
      rw [e] at hI
      exact hI
    · have hx' : x < pl.length := by omega
      rw [if_neg (o_nle (by omega) (by omega) hx')]
      by_cases ew : Int32.ofNat x = w
      · rw [if_pos ew, i_1]
        exact ih (x + 1) I la lb ha hb (by omega) (by omega) h20 hb38 hS hH (LI_c hI (prt_e ew))
      · rw [if_neg ew]
        obtain ⟨c, I', a1, a2, a3⟩ := left1 (b := b) (I := I) (L := L) (p := x) (by omega) (hr x hx') (ho _ (pD_in hx')) hS hH hI.2.2.2
        rw [a1, b2_some]
        rcases a3 with ⟨rfl, a4, a5, a6⟩ | ⟨rfl, a4⟩
        · rw [if_neg (by decide), i_1]
          obtain ⟨c', I'', b1, b2, b3⟩ := ih (x + 1) I' _ _ _ _ (by omega) (by omega) (by rw [a2 _ (by omega)]; exact h20) hb38 (LnS_c hS (fun i i1 i2 => a2 i (by omega))) a4 (LI_c (LI_s hI a5 a6) (prt_s hx' ew))
          exact ⟨c', I'', b1, fun k hk => by rw [b2 k hk, a2 k hk], b3⟩
        · rw [if_pos rfl]
          refine ⟨0, I', rfl, a2, Or.inr ⟨rfl, ?_⟩⟩
          have up : ∀ r, prt pl w (x + 1) r → prt pl w pl.length r := fun r ⟨i, i1, i2, i3, i4⟩ => ⟨i, i2, i2, i3, i4⟩
          rcases a4 with a4 | a4
          · exact LN_c (LN_z (prt pl w x) a4.1 a4.2) (fun r h => up r ((prt_s hx' ew r).mpr h))
          · exact LN_c (LN_s hI a4) (fun r h => up r ((prt_s hx' ew r).mpr h))
