/-! the class's corners: order, place, put -/
def rw4 (A : Nat → Nat → Int32) (b i : Nat) : Q4 := ((A (b + 1) i).toInt, (A (b + 2) i).toInt, (A (b + 3) i).toInt, (A (b + 4) i).toInt)
def crX (n : Int32) (A : Nat → Nat → Int32) (b : Nat) (vs : List Q4) : Prop := n = Int32.ofNat vs.length ∧ ∀ j, j < vs.length → vs.getD j q0 = rw4 A b j
def bP (px py pz pd : Int32) (v : Q4) : Prop := bI px v.1 9720 ∧ bI py v.2.1 9720 ∧ bI pz v.2.2.1 9720 ∧ bI pd v.2.2.2 162
theorem bP_row {A : Nat → Nat → Int32} {b j : Nat} {v : Q4} (h : v = rw4 A b j) (k : bQ v) : bP (A (b + 1) j) (A (b + 2) j) (A (b + 3) j) (A (b + 4) j) v := by
  obtain ⟨⟨k1, k2⟩, k3, k4, k5⟩ := k
  rw [h] at k1 k2 k3 k4 k5 ⊢
  exact ⟨⟨rfl, k3⟩, ⟨rfl, k4⟩, ⟨rfl, k5⟩, ⟨rfl, by
    show (rw4 A b j).2.2.2.natAbs ≤ 162
    omega⟩⟩
theorem ord_s {b : Nat} {I : Nat → Int32} {A : Nat → Nat → Int32} {L : Nat → Int64} {vs : List Q4} {j : Nat} (hj : j < vs.length) (h60 : vs.length ≤ 60) (hr : vs.getD j q0 = rw4 A b j) (hb : bQ (vs.getD j q0)) {px py pz pd : Int32} {v : Q4} (hv : bP px py pz pd v) : ∃ o, f_X4_order b I A L (Int32.ofNat j) px py pz pd = some o ∧ (o < 0 ↔ ltQ (vs.getD j q0) v) ∧ (o = 0 ↔ ¬ ltQ (vs.getD j q0) v ∧ ¬ ltQ v (vs.getD j q0)) := by
  obtain ⟨r1, r2, r3, r4⟩ := bP_row hr hb
  obtain ⟨v1, v2, v3, v4⟩ := hv
  generalize vs.getD j q0 = u at *
  have x := b_sub (b_mul r1 v4 (by decide)) (b_mul v1 r4 (by decide)) (by decide)
  have y := b_sub (b_mul r2 v4 (by decide)) (b_mul v2 r4 (by decide)) (by decide)
  have z := b_sub (b_mul r3 v4 (by decide)) (b_mul v3 r4 (by decide)) (by decide)
  unfold f_X4_order
  simp only [g_lt_eq, o_ck (show j < 60 by omega) (show 60 < 2147483648 by omega), i_tnn (show j < 2147483648 by omega)]
  have x0 := b_eq x b_0
  have y0 := b_eq y b_0
  have z0 := b_eq z b_0
  have x1 := b_lt x b_0
  have y1 := b_lt y b_0
  have z1 := b_lt z b_0
  unfold ltQ
  by_cases cx : u.1 * v.2.2.2 - v.1 * u.2.2.2 = 0
  · rw [if_pos (x0.mpr cx)]
    by_cases cy : u.2.1 * v.2.2.2 - v.2.1 * u.2.2.2 = 0
    · rw [if_pos (y0.mpr cy)]
      exact ⟨_, rfl, by rw [z1]; omega, by rw [z0]; omega⟩
    · rw [if_neg (fun q => cy (y0.mp q))]
      exact ⟨_, rfl, by rw [y1]; omega, by rw [y0]; omega⟩
  · rw [if_neg (fun q => cx (x0.mp q))]
    exact ⟨_, rfl, by rw [x1]; omega, by rw [x0]; omega⟩
theorem o_div {m n : Nat} (hm : m < 2147483648) (hn : n < 2147483648) : Int32.ofNat m / Int32.ofNat n = Int32.ofNat (m / n) := by
  have h := b_div (b_n hm) (b_n hn) hm
  have hl := Nat.div_le_self m n
  rw [i_eq, h.1, i_nat (by omega)]
  rfl
theorem o_pm {n : Nat} : Int32.ofNat (n + 1) + (-1) = Int32.ofNat n := by
  rw [← Int32.sub_eq_add_neg]; exact o_pred
theorem place_l {b : Nat} {I : Nat → Int32} {A : Nat → Nat → Int32} {L : Nat → Int64} {vs : List Q4} (h60 : vs.length ≤ 60) (hr : ∀ j, j < vs.length → vs.getD j q0 = rw4 A b j) (hs : vs.Pairwise ltQ) (hb : ∀ v ∈ vs, bQ v) {px py pz pd : Int32} {v : Q4} (hv : bP px py pz pd v) (hvd : 0 < v.2.2.2) :
    ∀ (n f t s : Nat), f ≤ t → t ≤ vs.length → t - f + s ≤ 60 → t - f < n → (∀ i, i < f → ltQ (vs.getD i q0) v) → (∀ i, t ≤ i → i < vs.length → ¬ ltQ (vs.getD i q0) v) →
    ∃ k, f_X4_placeOf_p12 b I A L n px py pz pd (Int32.ofNat f) (Int32.ofNat t) (Int32.ofNat s) = some (Int32.ofNat k) ∧ k ≤ vs.length ∧ (∀ i, i < k → ltQ (vs.getD i q0) v) ∧ ∀ i, k ≤ i → i < vs.length → ¬ ltQ (vs.getD i q0) v := by
  intro n
  induction n with
  | zero => intro f t s _ _ _ h; omega
  | succ n ih =>
    intro f t s h1 h2 h3 h4 h5 h6
    rw [f_X4_placeOf_p12_e]
    by_cases c1 : 60 ≤ s
    · rw [if_pos (show (60 : Int32) ≤ Int32.ofNat s from o_le (a := 60) (by omega) (by omega) c1)]
      exact ⟨f, rfl, by omega, h5, fun i i1 i2 => h6 i (by omega) i2⟩
    · rw [if_neg (show ¬ (60 : Int32) ≤ Int32.ofNat s from o_nle (a := 60) (by omega) (by omega) (by omega))]
      by_cases c2 : t ≤ f
      · rw [if_pos (o_le (by omega) (by omega) c2)]
        exact ⟨f, rfl, by omega, h5, fun i i1 i2 => h6 i (by omega) i2⟩
      · rw [if_neg (o_nle (by omega) (by omega) (by omega)), o_add, show (2 : Int32) = Int32.ofNat 2 from rfl, o_div (by omega) (by omega), g_lt_eq]
        have m1 : (f + t) / 2 < t := by omega
        have m2 : f ≤ (f + t) / 2 := by omega
        generalize (f + t) / 2 = m at *
        have hm : m < vs.length := by omega
        obtain ⟨o, e, e1, e2⟩ := ord_s (I := I) (L := L) hm h60 (hr m hm) (hb _ (vD_mem hm)) hv
        rw [e, bd_some]
        have dpos : ∀ i, i < vs.length → 0 < (vs.getD i q0).2.2.2 := fun i hi => (hb _ (vD_mem hi)).1.1
        by_cases c3 : o < 0
        · rw [if_neg (Int32.not_le.mpr c3), i_1, i_1]
          refine ih (m + 1) t (s + 1) (by omega) h2 (by omega) (by omega) (fun i hi => ?_) h6
          by_cases e3 : i = m
          · rw [e3]; exact e1.mp c3
          · exact lt_tr (dpos i (by omega)) (dpos m hm) hvd (srt_lt hs (by omega) hm) (e1.mp c3)
        · rw [if_pos (i_nlt c3), i_1]
          refine ih f m (s + 1) m2 (by omega) (by omega) (by omega) h5 (fun i i1 i2 q => ?_)
          by_cases e3 : i = m
          · rw [e3] at q; exact c3 (e1.mpr q)
          · exact c3 (e1.mpr (lt_tr (dpos m hm) (dpos i i2) hvd (srt_lt hs (by omega) i2) q))
theorem place_s {b : Nat} {I : Nat → Int32} {A : Nat → Nat → Int32} {L : Nat → Int64} {vs : List Q4} (h60 : vs.length ≤ 60) (hr : crX (I (16 * b + 7)) A b vs) (hs : vs.Pairwise ltQ) (hb : ∀ v ∈ vs, bQ v) {px py pz pd : Int32} {v : Q4} (hv : bP px py pz pd v) (hvd : 0 < v.2.2.2) :
    ∃ k, f_X4_placeOf b I A L px py pz pd = some (Int32.ofNat k) ∧ k ≤ vs.length ∧ (∀ i, i < k → ltQ (vs.getD i q0) v) ∧ ∀ i, k ≤ i → i < vs.length → ¬ ltQ (vs.getD i q0) v := by
  unfold f_X4_placeOf
  rw [g_lt_eq, hr.1]
  exact place_l h60 hr.2 hs hb hv hvd 4096 0 vs.length 0 (by omega) (by omega) (by omega) (by omega) (fun i hi => by omega) (fun i h1 h2 => by omega)
/-! put -/
def sh4 (A : Nat → Nat → Int32) (b j : Nat) (f : Nat → Int32) : Nat → Nat → Int32 :=
  let A1 := va_up A (b + 1) (upd (A (b + 1)) j (f 1))
  let A2 := va_up A1 (b + 2) (upd (A1 (b + 2)) j (f 2))
  let A3 := va_up A2 (b + 3) (upd (A2 (b + 3)) j (f 3))
  va_up A3 (b + 4) (upd (A3 (b + 4)) j (f 4))
theorem sh4_r (A : Nat → Nat → Int32) (b j : Nat) (f : Nat → Int32) : sh4 A b j f (b + 1) = upd (A (b + 1)) j (f 1) ∧ sh4 A b j f (b + 2) = upd (A (b + 2)) j (f 2) ∧ sh4 A b j f (b + 3) = upd (A (b + 3)) j (f 3) ∧ sh4 A b j f (b + 4) = upd (A (b + 4)) j (f 4) ∧ ∀ r, (r ≤ b ∨ b + 4 < r) → sh4 A b j f r = A r := by
  unfold sh4
  refine ⟨?_, ?_, ?_, ?_, fun r hr => ?_⟩
  · rw [un _ _ (by omega), un _ _ (by omega), un _ _ (by omega), us]
  · rw [un _ _ (by omega), un _ _ (by omega), us, un _ _ (by omega)]
  · rw [un _ _ (by omega), us, un _ _ (by omega), un _ _ (by omega)]
  · rw [us, un _ _ (by omega), un _ _ (by omega), un _ _ (by omega)]
  · rw [un _ _ (by omega), un _ _ (by omega), un _ _ (by omega), un _ _ (by omega)]
theorem sh4_4 (A : Nat → Nat → Int32) (b j : Nat) (f : Nat → Int32) (i : Nat) : rw4 (sh4 A b j f) b i = if i = j then ((f 1).toInt, (f 2).toInt, (f 3).toInt, (f 4).toInt) else rw4 A b i := by
  obtain ⟨h1, h2, h3, h4, -⟩ := sh4_r A b j f
  unfold rw4
  rw [h1, h2, h3, h4]
  by_cases e : i = j
  · subst e
    rw [if_pos rfl, ds, ds, ds, ds]
  · rw [if_neg e, dn _ _ e, dn _ _ e, dn _ _ e, dn _ _ e]
theorem put_l {b : Nat} {I : Nat → Int32} {L : Nat → Int64} {vs : List Q4} {k : Nat} (hk : k ≤ vs.length) (h60 : vs.length < 60) {px py pz pd : Int32} {v : Q4} (hv : v = (px.toInt, py.toInt, pz.toInt, pd.toInt)) :
    ∀ (n j : Nat) (A : Nat → Nat → Int32), k ≤ j → j ≤ vs.length → j - k < n → (∀ i, i < j → vs.getD i q0 = rw4 A b i) → (∀ i, j < i → i ≤ vs.length → vs.getD (i - 1) q0 = rw4 A b i) →
    ∃ A', f_X4_putCorner_p16 b n (Int32.ofNat k) px py pz pd (Int32.ofNat j) I A L = some (va_up I (16 * b + 7) (I (16 * b + 7) + 1), A', L) ∧ (∀ i, i < vs.length + 1 → (ins k v vs).getD i q0 = rw4 A' b i) ∧ ∀ r, (r ≤ b ∨ b + 4 < r) → A' r = A r := by
  intro n
  induction n with
  | zero => intro j A _ _ h; omega
  | succ n ih =>
    intro j A h1 h2 h3 h4 h5
    rw [f_X4_putCorner_p16_e]
    by_cases e : j = k
    · rw [if_pos (by rw [e]; exact o_le (by omega) (by omega) (by omega))]
      refine ⟨sh4 A b k (fun i => if i = 1 then px else if i = 2 then py else if i = 3 then pz else pd), ?_, fun i hi => ?_, (sh4_r A b k _).2.2.2.2⟩
      · simp only [g_lt_eq, o_ck (show k < 60 by omega) (show 60 < 2147483648 by omega), i_tnn (show k < 2147483648 by omega)]
        rfl
      · rw [sh4_4, ins_D hk]
        by_cases c1 : i < k
        · rw [if_pos c1, if_neg (by omega)]; exact h4 i (by omega)
        · rw [if_neg c1]
          by_cases c2 : i = k
          · rw [if_pos c2, if_pos c2, hv]; rfl
          · rw [if_neg c2, if_neg c2]; exact h5 i (by omega) (by omega)
    · rw [if_neg (o_nle (by omega) (by omega) (by omega))]
      obtain ⟨j, rfl⟩ : ∃ j', j = j' + 1 := ⟨j - 1, by omega⟩
      simp only [g_lt_eq, o_pred, o_pm, o_ck (show j < 60 by omega) (show 60 < 2147483648 by omega), o_ck (show j + 1 < 60 by omega) (show 60 < 2147483648 by omega), i_tnn (show j < 2147483648 by omega), i_tnn (show j + 1 < 2147483648 by omega)]
      have e9 : va_up (va_up (va_up (va_up A (b + 1) (upd (A (b + 1)) (j + 1) (A (b + 1) j))) (b + 2) (upd ((va_up A (b + 1) (upd (A (b + 1)) (j + 1) (A (b + 1) j))) (b + 2)) (j + 1) ((va_up A (b + 1) (upd (A (b + 1)) (j + 1) (A (b + 1) j))) (b + 2) j))) (b + 3) (upd ((va_up (va_up A (b + 1) (upd (A (b + 1)) (j + 1) (A (b + 1) j))) (b + 2) (upd ((va_up A (b + 1) (upd (A (b + 1)) (j + 1) (A (b + 1) j))) (b + 2)) (j + 1) ((va_up A (b + 1) (upd (A (b + 1)) (j + 1) (A (b + 1) j))) (b + 2) j))) (b + 3)) (j + 1) ((va_up (va_up A (b + 1) (upd (A (b + 1)) (j + 1) (A (b + 1) j))) (b + 2) (upd ((va_up A (b + 1) (upd (A (b + 1)) (j + 1) (A (b + 1) j))) (b + 2)) (j + 1) ((va_up A (b + 1) (upd (A (b + 1)) (j + 1) (A (b + 1) j))) (b + 2) j))) (b + 3) j))) (b + 4) (upd ((va_up (va_up (va_up A (b + 1) (upd (A (b + 1)) (j + 1) (A (b + 1) j))) (b + 2) (upd ((va_up A (b + 1) (upd (A (b + 1)) (j + 1) (A (b + 1) j))) (b + 2)) (j + 1) ((va_up A (b + 1) (upd (A (b + 1)) (j + 1) (A (b + 1) j))) (b + 2) j))) (b + 3) (upd ((va_up (va_up A (b + 1) (upd (A (b + 1)) (j + 1) (A (b + 1) j))) (b + 2) (upd ((va_up A (b + 1) (upd (A (b + 1)) (j + 1) (A (b + 1) j))) (b + 2)) (j + 1) ((va_up A (b + 1) (upd (A (b + 1)) (j + 1) (A (b + 1) j))) (b + 2) j))) (b + 3)) (j + 1) ((va_up (va_up A (b + 1) (upd (A (b + 1)) (j + 1) (A (b + 1) j))) (b + 2) (upd ((va_up A (b + 1) (upd (A (b + 1)) (j + 1) (A (b + 1) j))) (b + 2)) (j + 1) ((va_up A (b + 1) (upd (A (b + 1)) (j + 1) (A (b + 1) j))) (b + 2) j))) (b + 3) j))) (b + 4)) (j + 1) ((va_up (va_up (va_up A (b + 1) (upd (A (b + 1)) (j + 1) (A (b + 1) j))) (b + 2) (upd ((va_up A (b + 1) (upd (A (b + 1)) (j + 1) (A (b + 1) j))) (b + 2)) (j + 1) ((va_up A (b + 1) (upd (A (b + 1)) (j + 1) (A (b + 1) j))) (b + 2) j))) (b + 3) (upd ((va_up (va_up A (b + 1) (upd (A (b + 1)) (j + 1) (A (b + 1) j))) (b + 2) (upd ((va_up A (b + 1) (upd (A (b + 1)) (j + 1) (A (b + 1) j))) (b + 2)) (j + 1) ((va_up A (b + 1) (upd (A (b + 1)) (j + 1) (A (b + 1) j))) (b + 2) j))) (b + 3)) (j + 1) ((va_up (va_up A (b + 1) (upd (A (b + 1)) (j + 1) (A (b + 1) j))) (b + 2) (upd ((va_up A (b + 1) (upd (A (b + 1)) (j + 1) (A (b + 1) j))) (b + 2)) (j + 1) ((va_up A (b + 1) (upd (A (b + 1)) (j + 1) (A (b + 1) j))) (b + 2) j))) (b + 3) j))) (b + 4) j)) = sh4 A b (j + 1) (fun i => A (b + i) j) := by
        unfold sh4
        simp only [un A _ (show b + 2 ≠ b + 1 by omega), un _ _ (show b + 3 ≠ b + 2 by omega), un A _ (show b + 3 ≠ b + 1 by omega), un _ _ (show b + 4 ≠ b + 3 by omega), un _ _ (show b + 4 ≠ b + 2 by omega), un A _ (show b + 4 ≠ b + 1 by omega)]
      rw [e9]
      obtain ⟨A', a1, a2, a3⟩ := ih j (sh4 A b (j + 1) (fun i => A (b + i) j)) (by omega) (by omega) (by omega) (fun i hi => by rw [sh4_4, if_neg (by omega)]; exact h4 i (by omega)) (fun i i1 i2 => by
        rw [sh4_4]
        by_cases c : i = j + 1
        · rw [if_pos c, c]; exact h4 j (by omega)
        · rw [if_neg c]; exact h5 i (by omega) i2)
      exact ⟨A', a1, a2, fun r hr => by rw [a3 r hr]; exact (sh4_r A b (j + 1) _).2.2.2.2 r hr⟩
