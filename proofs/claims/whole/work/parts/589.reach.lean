/-! the farthest corner -/
def fb (h k l : Int) (vs : List Q4) : Nat → Nat
  | 0 => 0
  | n + 1 => if al h k l (vs.getD n q0) * (vs.getD (fb h k l vs n) q0).2.2.2 ≤ al h k l (vs.getD (fb h k l vs n) q0) * (vs.getD n q0).2.2.2 then fb h k l vs n else n
theorem fb_s (h k l : Int) (vs : List Q4) (n : Nat) : fb h k l vs (n + 1) = if al h k l (vs.getD n q0) * (vs.getD (fb h k l vs n) q0).2.2.2 ≤ al h k l (vs.getD (fb h k l vs n) q0) * (vs.getD n q0).2.2.2 then fb h k l vs n else n := rfl
theorem fb_1 (h k l : Int) (vs : List Q4) : fb h k l vs 1 = 0 := by
  rw [fb_s]
  exact if_pos (Int.le_refl _)
theorem fb_lt (h k l : Int) (vs : List Q4) : ∀ n, 0 < n → fb h k l vs n < n := by
  intro n
  induction n with
  | zero => intro h; omega
  | succ n ih =>
    intro _
    rw [fb_s]
    by_cases e : n = 0
    · subst e
      show (if _ then 0 else 0) < 1
      split <;> omega
    · have := ih (by omega)
      split <;> omega
theorem fb_max (h k l : Int) {vs : List Q4} (hd : ∀ v ∈ vs, 0 < v.2.2.2) : ∀ n, n ≤ vs.length → ∀ j, j < n → al h k l (vs.getD j q0) * (vs.getD (fb h k l vs n) q0).2.2.2 ≤ al h k l (vs.getD (fb h k l vs n) q0) * (vs.getD j q0).2.2.2 := by
  intro n
  induction n with
  | zero => intro _ j hj; omega
  | succ n ih =>
    intro hn j hj
    have pj := hd _ (vD_mem (vs := vs) (i := j) (by omega))
    have pn := hd _ (vD_mem (vs := vs) (i := n) (by omega))
    by_cases e : n = 0
    · subst e
      have : j = 0 := by omega
      rw [this, fb_1]
      exact Int.le_refl _
    · have pf := hd _ (vD_mem (vs := vs) (i := fb h k l vs n) (by have := fb_lt h k l vs n (by omega); omega))
      rw [fb_s]
      by_cases c : al h k l (vs.getD n q0) * (vs.getD (fb h k l vs n) q0).2.2.2 ≤ al h k l (vs.getD (fb h k l vs n) q0) * (vs.getD n q0).2.2.2
      · rw [if_pos c]
        by_cases e2 : j = n
        · rw [e2]; exact c
        · exact ih (by omega) j (by omega)
      · rw [if_neg c]
        by_cases e2 : j = n
        · rw [e2]; exact Int.le_refl _
        · exact tr3 pj pf pn (ih (by omega) j (by omega)) (by omega)
def cX (I : Nat → Int32) (A : Nat → Nat → Int32) (vs : List Q4) : Prop := crX (I 615) A 38 vs ∧ vs.length ≤ 60 ∧ ∀ v ∈ vs, bQ v
theorem fX_l {I : Nat → Int32} {A : Nat → Nat → Int32} {L : Nat → Int64} {vs : List Q4} (hc : cX I A vs) {a1 a2 a3 : Int32} {h k l : Int} (h1 : bI a1 h 3) (h2 : bI a2 k 3) (h3 : bI a3 l 3) : ∀ (n j : Nat), 0 < j → j ≤ vs.length → vs.length - j < n → f_X4_farthest_p6 38 I A L n a1 a2 a3 (Int32.ofNat (fb h k l vs j)) (Int32.ofNat j) = some (Int32.ofNat (fb h k l vs vs.length)) := by
  obtain ⟨hr, h60, hb⟩ := hc
  intro n
  induction n with
  | zero => intro j _ h1 h2; omega
  | succ n ih =>
    intro j j0 j1 j2
    rw [f_X4_farthest_p6_e, show I (16 * 38 + 7) = Int32.ofNat vs.length from hr.1]
    by_cases e : j = vs.length
    · rw [if_pos (by rw [e]; exact o_le (by omega) (by omega) (by omega)), e]
    · have hj : j < vs.length := by omega
      have hf := fb_lt h k l vs j j0
      have hf' : fb h k l vs j < vs.length := by omega
      rw [if_neg (o_nle (by omega) (by omega) hj)]
      obtain ⟨o, o1, o2⟩ := along_s (b := 38) (I := I) (L := L) hj h60 (hr.2 j hj) (hb _ (vD_mem hj)) h1 h2 h3
      obtain ⟨u, u1, u2⟩ := along_s (b := 38) (I := I) (L := L) hf' h60 (hr.2 _ hf') (hb _ (vD_mem hf')) h1 h2 h3
      have d1 := dd_x hr.2 hb hj
      have d2 := dd_x hr.2 hb hf'
      rw [o1, bd_some, o_ck (by omega) (by omega), u1, bd_some, o_ck (by omega) (by omega), i_tnn (by omega), i_tnn (by omega), i_1]
      have key := b_le (b_mul o2 d2 (by decide)) (b_mul u2 d1 (by decide))
      have t := ih (j + 1) (by omega) (by omega) (by omega)
      rw [fb_s] at t
      by_cases c : al h k l (vs.getD j q0) * (vs.getD (fb h k l vs j) q0).2.2.2 ≤ al h k l (vs.getD (fb h k l vs j) q0) * (vs.getD j q0).2.2.2
      · rw [if_pos (show o * A (38 + 4) (fb h k l vs j) ≤ u * A (38 + 4) j from key.mpr c)]
        rw [if_pos c] at t
        exact t
      · rw [if_neg (show ¬ o * A (38 + 4) (fb h k l vs j) ≤ u * A (38 + 4) j from fun q => c (key.mp q))]
        rw [if_neg c] at t
        exact t
theorem fX_s {I : Nat → Int32} {A : Nat → Nat → Int32} {L : Nat → Int64} {vs : List Q4} (hc : cX I A vs) (h2' : 2 ≤ vs.length) {a1 a2 a3 : Int32} {h k l : Int} (h1 : bI a1 h 3) (h2 : bI a2 k 3) (h3 : bI a3 l 3) : f_X4_farthest 38 I A L a1 a2 a3 = some (Int32.ofNat (fb h k l vs vs.length)) := by
  have t := fX_l (L := L) hc h1 h2 h3 4096 1 (by omega) (by omega) (by have := hc.2.1; omega)
  rw [fb_1] at t
  exact t
/-- a corner's number along a sign, as the reference has it -/
theorem alM_b {A : Nat → Nat → Int32} {pl : List Pl} {vs : List Q4} (hc : ∀ j, j < vs.length → okE pl (A 65) j (vs.getD j q0)) (hb : ∀ v ∈ vs, bQ v) {j : Nat} (hj : j < vs.length) {a1 a2 a3 : Int32} {h k l : Int} (h1 : bI a1 h 3) (h2 : bI a2 k 3) (h3 : bI a3 l 3) : bI (a1 * A 65 (5 * j) + a2 * A 65 (5 * j + 1) + a3 * A 65 (5 * j + 2)) (al h k l (vs.getD j q0)) 87480 := by
  obtain ⟨b1, b2, b3, b4⟩ := bP_M (hc j hj) (hb _ (vD_mem hj))
  exact b_add (b_add (b_mul h1 b1 (by decide)) (b_mul h2 b2 (by decide)) (by decide)) (b_mul h3 b3 (by decide)) (by decide)
theorem fM_l {I : Nat → Int32} {A : Nat → Nat → Int32} {L : Nat → Int64} {pl : List Pl} {vs : List Q4} (hm : crM (I 955) (A 65) pl vs) (h60 : vs.length ≤ 60) (hb : ∀ v ∈ vs, bQ v) {a1 a2 a3 : Int32} {h k l : Int} (h1 : bI a1 h 3) (h2 : bI a2 k 3) (h3 : bI a3 l 3) : ∀ (n j : Nat), 0 < j → j ≤ vs.length → vs.length - j < n → f_X7_farthest_p6 I A L n a1 a2 a3 (Int32.ofNat (fb h k l vs j)) (Int32.ofNat j) = some (Int32.ofNat (fb h k l vs vs.length)) := by
  intro n
  induction n with
  | zero => intro j _ h1 h2; omega
  | succ n ih =>
    intro j j0 j1 j2
    rw [f_X7_farthest_p6_e, hm.1]
    by_cases e : j = vs.length
    · rw [if_pos (by rw [e]; exact o_le (by omega) (by omega) (by omega)), e]
    · have hj : j < vs.length := by omega
      have hf := fb_lt h k l vs j j0
      have hf' : fb h k l vs j < vs.length := by omega
      have o2 := alM_b hm.2 hb hj h1 h2 h3
      have u2 := alM_b hm.2 hb hf' h1 h2 h3
      have d1 := dd_m hm.2 hb hj
      have d2 := dd_m hm.2 hb hf'
      have t := ih (j + 1) (by omega) (by omega) (by omega)
      rw [fb_s] at t
      have key := b_le (b_mul o2 d2 (by decide)) (b_mul u2 d1 (by decide))
      generalize fb h k l vs j = f at *
      rw [if_neg (o_nle (by omega) (by omega) hj), m_51 j, m_52 j, m_53 j, m_50 j, m_51 f, m_52 f, m_53 f, m_50 f]
      simp only [g_lt_eq, o_ck (show 5 * j < 320 by omega) (show 320 < 2147483648 by omega), o_ck (show 5 * j + 1 < 320 by omega) (show 320 < 2147483648 by omega), o_ck (show 5 * j + 2 < 320 by omega) (show 320 < 2147483648 by omega), o_ck (show 5 * j + 3 < 320 by omega) (show 320 < 2147483648 by omega), o_ck (show 5 * f < 320 by omega) (show 320 < 2147483648 by omega), o_ck (show 5 * f + 1 < 320 by omega) (show 320 < 2147483648 by omega), o_ck (show 5 * f + 2 < 320 by omega) (show 320 < 2147483648 by omega), o_ck (show 5 * f + 3 < 320 by omega) (show 320 < 2147483648 by omega), i_tnn (show 5 * j < 2147483648 by omega), i_tnn (show 5 * j + 1 < 2147483648 by omega), i_tnn (show 5 * j + 2 < 2147483648 by omega), i_tnn (show 5 * j + 3 < 2147483648 by omega), i_tnn (show 5 * f < 2147483648 by omega), i_tnn (show 5 * f + 1 < 2147483648 by omega), i_tnn (show 5 * f + 2 < 2147483648 by omega), i_tnn (show 5 * f + 3 < 2147483648 by omega), i_1]
      by_cases c : al h k l (vs.getD j q0) * (vs.getD f q0).2.2.2 ≤ al h k l (vs.getD f q0) * (vs.getD j q0).2.2.2
      · rw [if_pos (key.mpr c)]
        rw [if_pos c] at t
        exact t
      · rw [if_neg (fun q => c (key.mp q))]
        rw [if_neg c] at t
        exact t
theorem fM_s {I : Nat → Int32} {A : Nat → Nat → Int32} {L : Nat → Int64} {pl : List Pl} {vs : List Q4} (hm : crM (I 955) (A 65) pl vs) (h60 : vs.length ≤ 60) (hb : ∀ v ∈ vs, bQ v) (h2' : 2 ≤ vs.length) {a1 a2 a3 : Int32} {h k l : Int} (h1 : bI a1 h 3) (h2 : bI a2 k 3) (h3 : bI a3 l 3) : f_X7_farthest I A L a1 a2 a3 = some (Int32.ofNat (fb h k l vs vs.length)) := by
  have t := fM_l (L := L) hm h60 hb h1 h2 h3 4096 1 (by omega) (by omega) (by omega)
  rw [fb_1] at t
  exact t
theorem farOf_s {I : Nat → Int32} {A : Nat → Nat → Int32} {L : Nat → Int64} {a1 a2 a3 : Int32} {j : Nat} (hj : j < 60) : f_X7_farOf I A L (Int32.ofNat j) a1 a2 a3 = some (a1 * A 65 (5 * j) + a2 * A 65 (5 * j + 1) + a3 * A 65 (5 * j + 2)) := by
  unfold f_X7_farOf
  rw [m_51 j, m_52 j, m_50 j, o_ck (by omega) (by omega), o_ck (by omega) (by omega), o_ck (by omega) (by omega), i_tnn (by omega), i_tnn (by omega), i_tnn (by omega)]
/-- how many corners are as far as corner f -/
noncomputable def fN (h k l : Int) (vs : List Q4) (f n : Nat) : Nat := sm n (fun i => ib (al h k l (vs.getD i q0) * (vs.getD f q0).2.2.2 = al h k l (vs.getD f q0) * (vs.getD i q0).2.2.2))
theorem atC_l {I : Nat → Int32} {A : Nat → Nat → Int32} {L : Nat → Int64} {vs : List Q4} (hc : cX I A vs) {a1 a2 a3 : Int32} {h k l : Int} (h1 : bI a1 h 3) (h2 : bI a2 k 3) (h3 : bI a3 l 3) {f : Nat} (hf : f < vs.length) {u : Int32} (hu : bI u (al h k l (vs.getD f q0)) 87480) : ∀ (n j : Nat), j ≤ vs.length → vs.length - j < n → f_X4_cornersAt_p17 38 I A L n a1 a2 a3 (Int32.ofNat f) u (Int32.ofNat (fN h k l vs f j)) (Int32.ofNat j) = some (Int32.ofNat (fN h k l vs f vs.length)) := by
  obtain ⟨hr, h60, hb⟩ := hc
  intro n
  induction n with
  | zero => intro j h1 h2; omega
  | succ n ih =>
    intro j j1 j2
    rw [f_X4_cornersAt_p17_e, show I (16 * 38 + 7) = Int32.ofNat vs.length from hr.1]
    by_cases e : j = vs.length
    · rw [if_pos (by rw [e]; exact o_le (by omega) (by omega) (by omega)), e]
    · have hj : j < vs.length := by omega
      rw [if_neg (o_nle (by omega) (by omega) hj)]
      obtain ⟨o, o1, o2⟩ := along_s (b := 38) (I := I) (L := L) hj h60 (hr.2 j hj) (hb _ (vD_mem hj)) h1 h2 h3
      have d1 := dd_x hr.2 hb hj
      have d2 := dd_x hr.2 hb hf
      rw [o1, bd_some, o_ck (by omega) (by omega), o_ck (by omega) (by omega), i_tnn (by omega), i_tnn (by omega), i_1, i_1]
      have key := b_eq (b_mul o2 d2 (by decide)) (b_mul hu d1 (by decide))
      have t := ih (j + 1) (by omega) (by omega)
      have es : fN h k l vs f (j + 1) = fN h k l vs f j + ib (al h k l (vs.getD j q0) * (vs.getD f q0).2.2.2 = al h k l (vs.getD f q0) * (vs.getD j q0).2.2.2) := rfl
      rw [es] at t
      by_cases c : al h k l (vs.getD j q0) * (vs.getD f q0).2.2.2 = al h k l (vs.getD f q0) * (vs.getD j q0).2.2.2
      · rw [if_pos (show o * A (38 + 4) f = u * A (38 + 4) j from key.mpr c)]
        rw [ib_1 c] at t
        exact t
      · rw [if_neg (show ¬ o * A (38 + 4) f = u * A (38 + 4) j from fun q => c (key.mp q))]
        rw [ib_0 c] at t
        exact t
theorem re35_l {I : Nat → Int32} {A : Nat → Nat → Int32} {L : Nat → Int64} {pl : List Pl} {vs : List Q4} (hm : crM (I 955) (A 65) pl vs) (h60 : vs.length ≤ 60) (hb : ∀ v ∈ vs, bQ v) {a1 a2 a3 : Int32} {h k l : Int} (h1 : bI a1 h 3) (h2 : bI a2 k 3) (h3 : bI a3 l 3) {f : Nat} (hf : f < vs.length) : ∀ (n j : Nat), j ≤ vs.length → vs.length - j < n → f_X7_reach_p35 n a1 a2 a3 (Int32.ofNat f) (Int32.ofNat (fN h k l vs f j)) (Int32.ofNat j) I A L = g_b1 (f_X7_fraction (a1 * A 65 (5 * f) + a2 * A 65 (5 * f + 1) + a3 * A 65 (5 * f + 2)) (A 65 (5 * f + 3)) I A L) (fun I4 A5 L6 => some (Int32.ofNat (fN h k l vs f vs.length), I4, A5, L6)) := by
  intro n
  induction n with
  | zero => intro j h1 h2; omega
  | succ n ih =>
    intro j j1 j2
    rw [f_X7_reach_p35_e, hm.1, m_53 f, farOf_s (show f < 60 by omega), bd_some, o_ck (show 5 * f + 3 < 320 by omega) (by omega), i_tnn (show 5 * f + 3 < 2147483648 by omega)]
    by_cases e : j = vs.length
    · rw [if_pos (by rw [e]; exact o_le (by omega) (by omega) (by omega)), e]
    · have hj : j < vs.length := by omega
      rw [if_neg (o_nle (by omega) (by omega) hj), m_53 j, farOf_s (show j < 60 by omega), bd_some, o_ck (show 5 * f + 3 < 320 by omega) (by omega), bd_some, o_ck (show 5 * j + 3 < 320 by omega) (by omega), i_tnn (show 5 * j + 3 < 2147483648 by omega), i_1, i_1, x_p0]
      have o2 := alM_b hm.2 hb hj h1 h2 h3
      have u2 := alM_b hm.2 hb hf h1 h2 h3
      have d1 := dd_m hm.2 hb hj
      have d2 := dd_m hm.2 hb hf
      have key := b_eq (b_mul o2 d2 (by decide)) (b_mul u2 d1 (by decide))
      have t := ih (j + 1) (by omega) (by omega)
      have es : fN h k l vs f (j + 1) = fN h k l vs f j + ib (al h k l (vs.getD j q0) * (vs.getD f q0).2.2.2 = al h k l (vs.getD f q0) * (vs.getD j q0).2.2.2) := rfl
      rw [es] at t
      by_cases c : al h k l (vs.getD j q0) * (vs.getD f q0).2.2.2 = al h k l (vs.getD f q0) * (vs.getD j q0).2.2.2
      · rw [if_pos (key.mpr c)]
        rw [ib_1 c] at t
        exact t
      · rw [if_neg (fun q => c (key.mp q))]
        rw [ib_0 c] at t
        exact t
theorem sgn_b {h k l : Int32} (hs : sgn h k l) : bI h h.toInt 3 ∧ bI k k.toInt 3 ∧ bI l l.toInt 3 ∧ (h.toInt, k.toInt, l.toInt) ≠ ((0, 0, 0) : V3) := by
  obtain ⟨⟨a, b⟩, ⟨c, d⟩, ⟨e, f⟩, g⟩ := hs
  have a := i_le.mp a
  have b := i_le.mp b
  have c := i_le.mp c
  have d := i_le.mp d
  have e := i_le.mp e
  have f := i_le.mp f
  refine ⟨b_of h a b, b_of k c d, b_of l e f, fun z => g ?_⟩
  simp only [Prod.mk.injEq] at z
  exact ⟨i_eq.mpr z.1, i_eq.mpr z.2.1, i_eq.mpr z.2.2⟩
theorem st_reach : gStep_reach Inv := by
  intro h k l I A L hI
  by_cases hs : sgn h k l
  · obtain ⟨s1, s2, s3, s4⟩ := sgn_b hs
    obtain ⟨I1, A1, pl, vs, a1, a2, ok, a4, a5, a6, a7, a8, a9, -⟩ := inv_crystal hI
    have h60 := a7.2.1
    have hb := So_bQ ok a7
    have t2 := two_crn (okL_Gd ok) a7.1.2
    have hc : cX I1 A1 vs := ⟨a7.2.2.1, h60, hb⟩
    have hf := fb_lt h.toInt k.toInt l.toInt vs vs.length (by omega)
    have fx := fX_s (L := L) hc t2 s1 s2 s3
    have fm : ∀ (I2 : Nat → Int32) (A2 : Nat → Nat → Int32), crM (I2 955) (A2 65) pl vs → f_X7_farthest I2 A2 L h k l = _ := fun I2 A2 hm => fM_s (L := L) hm h60 hb t2 s1 s2 s3
    generalize fb h.toInt k.toInt l.toInt vs vs.length = f at *
    obtain ⟨u, u1, u2⟩ := along_s (b := 38) (I := I1) (L := L) hf h60 (a7.2.2.1.2 f hf) (hb _ (vD_mem hf)) s1 s2 s3
    have d2 := dd_x a7.2.2.1.2 hb hf
    have dp := (hb _ (vD_mem hf)).1.1
    obtain ⟨ga, gb, sx, sm⟩ := frac_b u2 d2 (by omega) (by omega) (by omega)
    obtain ⟨I2, A2, b1, b2, b3, b4⟩ := m_lay (L := L) ok a7.1 (I := frX I1 ga gb) a5
    have e1 : h * A2 65 (5 * f) + k * A2 65 (5 * f + 1) + l * A2 65 (5 * f + 2) = u := b_uni (alM_b b2.2.1.2 hb hf s1 s2 s3) u2
    have e2 : A2 65 (5 * f + 3) = A1 42 f := b_uni (dd_m b2.2.1.2 hb hf) d2
    have tm : f_X7_reach_p35 4096 h k l (Int32.ofNat f) 0 0 I2 A2 L = _ := re35_l (L := L) b2.2.1 h60 hb s1 s2 s3 hf 4096 0 (by omega) (by omega)
    have tx : ∀ I3, I3 615 = I1 615 → f_X4_cornersAt 38 I3 A1 L h k l (Int32.ofNat f) = some (Int32.ofNat (fN h.toInt k.toInt l.toInt vs f vs.length)) := fun I3 e3 => by
      have hc3 : cX I3 A1 vs := ⟨by rw [e3]; exact a7.2.2.1, h60, hb⟩
      obtain ⟨u', v1, v2⟩ := along_s (b := 38) (I := I3) (L := L) hf h60 (a7.2.2.1.2 f hf) (hb _ (vD_mem hf)) s1 s2 s3
      unfold f_X4_cornersAt
      rw [v1, bd_some]
      exact atC_l (L := L) hc3 s1 s2 s3 hf v2 4096 0 (by omega) (by omega)
    refine ⟨Int32.ofNat (fN h.toInt k.toInt l.toInt vs f vs.length), frX I1 ga gb, A1, L, I2, A2, frL L ga gb, ?_, ?_, inv_lay (inv_frac a2 ga gb) b3 b4⟩
    · unfold f_X6_reach
      rw [x_sign1 I A L hs, bd_some, if_neg (by decide), a1, b1_some, fx, bd_some, u1, bd_some, o_ck (by omega) (by omega), i_tnn (by omega), sx, b1_some, tx _ (by unfold frX; rw [un _ _ (by omega), un _ _ (by omega)]), bd_some]
    · unfold f_X7_reach
      rw [m_sign1 _ A1 L hs, bd_some, if_neg (by decide), b1, b1_some, fm I2 A2 b2.2.1, bd_some, tm, e1, e2, sm, b1_some]
  · refine ⟨-2, va_up I 13 (I 13 + 1), A, L, _, _, _, ?_, ?_, inv_bad hI⟩
    · unfold f_X6_reach
      rw [x_sign0 I A L hs, bd_some, if_pos rfl, rf_bad]; rfl
    · unfold f_X7_reach
      rw [m_sign0 _ A L hs, bd_some, if_pos rfl, rm_bad]; rfl
/-! hides -/
/-- the least OFF beyond (among those above v), and how many within -/
def bey (f d v : Nat) : Int32 := if max (f / d + 1) (v + 1) ≤ 60 then Int32.ofNat (max (f / d + 1) (v + 1)) else -1
def wth (f d v : Nat) : Nat := min 60 ((f - 1) / d) - v
theorem hi91_l {F D : Int32} {f d : Nat} (hF : bI F (f : Int) 87480) (hD : bI D (d : Int) 162) (hd : 0 < d) (hf : 0 < f) (w : Int32) (I : Nat → Int32) (A : Nat → Nat → Int32) (L : Nat → Int64) : ∀ (n v : Nat), v ≤ 60 → v < n → f_X7_hides_p91 n w F D (bey f d v) (Int32.ofNat (wth f d v)) (Int32.ofNat v) I A L = some (if w = 0 then bey f d 0 else Int32.ofNat (wth f d 0), I, A, L) := by
  intro n
  induction n with
  | zero => intro v h1 h2; omega
  | succ n ih =>
    intro v h1 h2
    rw [f_X7_hides_p91_e]
    rcases v with _ | v
    · rw [if_pos (show Int32.ofNat 0 ≤ 0 from by decide)]
      by_cases z : w = 0
      · rw [if_pos z, if_pos z]
      · rw [if_neg z, if_neg z]
    · rw [if_neg (show ¬ Int32.ofNat (v + 1) ≤ 0 from o_nle (b := 0) (by omega) (by omega) (by omega))]
      have t := ih v (by omega) (by omega)
      have hv := b_n (n := v + 1) (by omega)
      have vb : bI (Int32.ofNat (v + 1)) ((v + 1 : Nat) : Int) 60 := b_w hv h1
      have pr := b_mul vb hD (by decide)
      have k1 := b_le pr hF
      have k2 := b_le hF pr
      have c1 : (((v + 1 : Nat) : Int) * (d : Int) ≤ (f : Int)) ↔ v + 1 ≤ f / d := by
        rw [Nat.le_div_iff_mul_le hd]
        constructor
        · intro q; exact_mod_cast q
        · intro q; exact_mod_cast q
      have c2 : ((f : Int) ≤ ((v + 1 : Nat) : Int) * (d : Int)) ↔ ¬ v + 1 ≤ (f - 1) / d := by
        rw [Nat.le_div_iff_mul_le hd]
        constructor
        · intro q
          have : f ≤ (v + 1) * d := by exact_mod_cast q
          omega
        · intro q
          have : f ≤ (v + 1) * d := by omega
          exact_mod_cast this
      rw [c1] at k1
      rw [c2] at k2
      have p113 : ∀ s : Int32, s = bey f d v → f_X7_hides_p113 (f_X7_hides_p91 n) w F D (Int32.ofNat (wth f d (v + 1))) (Int32.ofNat (v + 1)) s I A L = some (if w = 0 then bey f d 0 else Int32.ofNat (wth f d 0), I, A, L) := fun s hs => by
        unfold f_X7_hides_p113
        rw [hs, o_pm, i_1, x_p0]
        by_cases z : v + 1 ≤ (f - 1) / d
        · rw [if_neg (fun q => k2.mp q z), show wth f d (v + 1) + 1 = wth f d v from by unfold wth; omega]
          exact t
        · rw [if_pos (k2.mpr z), show wth f d (v + 1) = wth f d v from by unfold wth; omega]
          exact t
      by_cases z : v + 1 ≤ f / d
      · rw [if_pos (k1.mpr z)]
        refine p113 _ ?_
        unfold bey
        rw [show max (f / d + 1) (v + 1 + 1) = max (f / d + 1) (v + 1) by omega]
      · rw [if_neg (fun q => z (k1.mp q))]
        refine p113 _ ?_
        unfold bey
        rw [show max (f / d + 1) (v + 1) = v + 1 by omega, if_pos h1]
theorem far_pos {pl : List Pl} (ok : okL pl) {vs : List Q4} (hv : ∀ v, v ∈ vs ↔ isC pl v) {h k l : Int} (hs : (h, k, l) ≠ ((0, 0, 0) : V3)) : 0 < al h k l (vs.getD (fb h k l vs vs.length) q0) := by
  obtain ⟨w, w1, w2⟩ := beyond (okL_Gd ok) hs
  have w2 : 0 < al h k l w := w2
  obtain ⟨j, hj, e⟩ := vD_ex ((hv w).mpr w1)
  have hd : ∀ v ∈ vs, 0 < v.2.2.2 := fun v h => ((hv v).mp h).1.1
  have hf := fb_lt h k l vs vs.length (by omega)
  have m := fb_max h k l hd vs.length (Nat.le_refl _) j hj
  rw [e] at m
  have p1 := hd _ (vD_mem hf)
  have p2 : 0 < w.2.2.2 := w1.1.1
  have p3 : 0 < al h k l w * (vs.getD (fb h k l vs vs.length) q0).2.2.2 := Int.mul_pos w2 p1
  rcases i_log 0 (al h k l (vs.getD (fb h k l vs vs.length) q0)) with q | q
  · exact q
  · exfalso
    have z := Int.mul_le_mul_of_nonneg_right q (Int.le_of_lt p2)
    rw [Int.zero_mul] at z
    omega
theorem st_hides : gStep_hides Inv := by
  intro h k l w I A L hI
  have bx : f_X6_hides_p20 I A L = some (-2, va_up I 13 (I 13 + 1), A, L) := by unfold f_X6_hides_p20; rw [rf_bad]; rfl
  have bm : f_X7_hides_p19 (va_up I 13 (I 13 + 1)) A L = some (-2, va_up I 13 (I 13 + 1), va_up A 63 (upd (A 63) 0 (A 63 0 + 1)), L) := by unfold f_X7_hides_p19; rw [rm_bad]; rfl
  by_cases hs : sgn h k l
  · by_cases hw : 0 ≤ w ∧ w ≤ 1
    · obtain ⟨pl', past, ⟨ok', hx, hm⟩, -⟩ := id hI
      have hl' := ok'.2.1
      by_cases full : pl'.length = 32
      · refine ⟨-4, va_up I 15 (I 15 + 1), A, L, _, _, _, ?_, ?_, inv_full hI⟩
        · unfold f_X6_hides
          rw [x_sign1 I A L hs, bd_some, if_neg (by decide), if_neg (Int32.not_lt.mpr hw.1), if_pos hw.2, hx.1, full, if_neg (by decide), rf_full]; rfl
        · unfold f_X7_hides
          rw [m_sign1 _ A L hs, bd_some, if_neg (by decide), m_in, if_pos hw, bd_some, if_neg (by decide), m_c0, show A 60 (Int32.toNatClampNeg 0) = Int32.ofNat pl'.length from hm.1, full, if_pos (show Int32.ofNat 32 = 32 from rfl), rm_full]; rfl
      · obtain ⟨s1, s2, s3, s4⟩ := sgn_b hs
        obtain ⟨I1, A1, pl, vs, a1, a2, ok, a4, a5, a6, a7, I2, A2, b1, b2, b3, b4, b5⟩ := both hI
        have el : pl.length = pl'.length := by
          have x1 := a4.1
          rw [a6, hx.1] at x1
          have := (b_eq (b_n (n := pl'.length) (by omega)) (b_n (n := pl.length) (by have := ok.2.1; omega))).mp x1
          omega
        have h60 := a5.2.1
        have hb := So_bQ ok a5
        have t2 := two_crn (okL_Gd ok) a5.1.2
        have hc : cX I1 A1 vs := ⟨a5.2.2.1, h60, hb⟩
        have hf := fb_lt h.toInt k.toInt l.toInt vs vs.length (by omega)
        have fp := far_pos ok a5.1.2 s4
        have fx := fX_s (L := L) hc t2 s1 s2 s3
        have fm := fM_s (L := L) b2.2.1 h60 hb t2 s1 s2 s3
        generalize fb h.toInt k.toInt l.toInt vs vs.length = f at *
        obtain ⟨u, u1, u2⟩ := along_s (b := 38) (I := I1) (L := L) hf h60 (a5.2.2.1.2 f hf) (hb _ (vD_mem hf)) s1 s2 s3
        have d2 := dd_x a5.2.2.1.2 hb hf
        have dp := (hb _ (vD_mem hf)).1.1
        have e1 : h * A2 65 (5 * f) + k * A2 65 (5 * f + 1) + l * A2 65 (5 * f + 2) = u := b_uni (alM_b b2.2.1.2 hb hf s1 s2 s3) u2
        have e2 : A2 65 (5 * f + 3) = A1 42 f := b_uni (dd_m b2.2.1.2 hb hf) d2
        obtain ⟨F, hF⟩ : ∃ F : Nat, al h.toInt k.toInt l.toInt (vs.getD f q0) = (F : Int) := ⟨(al h.toInt k.toInt l.toInt (vs.getD f q0)).toNat, by omega⟩
        obtain ⟨D, hD⟩ : ∃ D : Nat, (vs.getD f q0).2.2.2 = (D : Int) := ⟨((vs.getD f q0).2.2.2).toNat, by omega⟩
        rw [hF] at u2 fp
        rw [hD] at d2 dp
        have F1 : F ≤ 87480 := by have := u2.2; omega
        have D1 : D ≤ 162 := by have := d2.2; omega
        have uF : u = Int32.ofNat F := b_uni u2 (b_n (by omega))
        have dD : A1 42 f = Int32.ofNat D := b_uni d2 (b_n (by omega))
        have q1 : F / D ≤ F := Nat.div_le_self _ _
        have q2 : (F - 1) / D ≤ F - 1 := Nat.div_le_self _ _
        have tm : f_X7_hides_p91 4096 w u (A1 42 f) (-1) 0 60 I2 A2 L = some (if w = 0 then bey F D 0 else Int32.ofNat (wth F D 0), I2, A2, L) := by
          have t := hi91_l u2 d2 (by omega) (by omega) w I2 A2 L 4096 60 (by omega) (by omega)
          rw [show bey F D 60 = -1 from by unfold bey; rw [if_neg (by omega)], show wth F D 60 = 0 from by unfold wth; omega] at t
          exact t
        have lb : f_X6_leastBeyond I1 A1 L u (A1 42 f) = some (bey F D 0) := by
          unfold f_X6_leastBeyond f_X6_leastBeyond_p14
          rw [uF, dD, if_neg (show ¬ Int32.ofNat D ≤ 0 from o_nle (b := 0) (by omega) (by omega) (by omega)), o_dv (by omega) (by omega), o_div (by omega) (by omega), i_1]
          have e0 : bey F D 0 = if F / D + 1 ≤ 60 then Int32.ofNat (F / D + 1) else -1 := by unfold bey; rw [show max (F / D + 1) (0 + 1) = F / D + 1 by generalize F / D = q; omega]
          rw [e0]
          by_cases z : F / D + 1 ≤ 60
          · rw [if_neg (show ¬ (60 : Int32) < Int32.ofNat (F / D + 1) from fun q => by have := (o_ltn (a := 60) (by omega) (by omega)).mp q; omega), if_pos z]
          · rw [if_pos (show (60 : Int32) < Int32.ofNat (F / D + 1) from (o_ltn (a := 60) (by omega) (by omega)).mpr (by omega)), if_neg z]
        have ow : f_X6_offsWithin I1 A1 L u (A1 42 f) = some (Int32.ofNat (wth F D 0)) := by
          unfold f_X6_offsWithin
          obtain ⟨G, rfl⟩ : ∃ G, F = G + 1 := ⟨F - 1, by omega⟩
          rw [uF, dD, if_neg (show ¬ Int32.ofNat D ≤ 0 from o_nle (b := 0) (by omega) (by omega) (by omega)), o_dv (by omega) (by omega), o_pred, o_div (by omega) (by omega)]
          rw [Nat.add_sub_cancel] at q2
          by_cases z : G / D < 60
          · rw [if_pos (show Int32.ofNat (G / D) < 60 from (o_ltn (b := 60) (by omega) (by omega)).mpr z), show wth (G + 1) D 0 = G / D from by unfold wth; rw [Nat.add_sub_cancel]; generalize G / D = q at *; omega]
          · rw [if_neg (show ¬ Int32.ofNat (G / D) < 60 from fun q => z ((o_ltn (b := 60) (by omega) (by omega)).mp q)), show wth (G + 1) D 0 = 60 from by unfold wth; rw [Nat.add_sub_cancel]; generalize G / D = q at *; omega]
            rfl
        refine ⟨if w = 0 then bey F D 0 else Int32.ofNat (wth F D 0), I1, A1, L, I2, A2, L, ?_, ?_, b3⟩
        · unfold f_X6_hides
          rw [x_sign1 I A L hs, bd_some, if_neg (by decide), if_neg (Int32.not_lt.mpr hw.1), if_pos hw.2, hx.1, if_pos (show Int32.ofNat pl'.length < 32 from (o_ltn (b := 32) (by omega) (by omega)).mpr (by omega)), a1, b1_some, fx, bd_some, u1, bd_some, o_ck (by omega) (by omega), o_ck (by omega) (by omega), i_tnn (by omega), lb, ow, bd_some, bd_some]
          by_cases z : w = 0
          · rw [if_pos z, if_pos z]
          · rw [if_neg z, if_neg z]
        · unfold f_X7_hides
          rw [m_sign1 _ A1 L hs, bd_some, if_neg (by decide), m_in, if_pos hw, bd_some, if_neg (by decide), m_c0, show A1 60 (Int32.toNatClampNeg 0) = Int32.ofNat pl.length from a7.1, if_neg (show ¬ Int32.ofNat pl.length = 32 from fun q => full (by have := (b_eq (b_n (n := pl.length) (by omega)) (show bI 32 32 32 from b_n (n := 32) (by omega))).mp q; omega)), b1, b1_some, fm, bd_some, farOf_s (show f < 60 by omega), bd_some, m_53, o_ck (by omega) (by omega), g_lt_eq, i_tnn (by omega), e1, e2, tm]
    · refine ⟨-2, va_up I 13 (I 13 + 1), A, L, _, _, _, ?_, ?_, inv_bad hI⟩
      · unfold f_X6_hides
        rw [x_sign1 I A L hs, bd_some, if_neg (by decide)]
        by_cases h1 : w < 0
        · rw [if_pos h1, bx]
        · rw [if_neg h1, if_neg (fun q => hw ⟨i_nlt h1, q⟩), bx]
      · unfold f_X7_hides
        rw [m_sign1 _ A L hs, bd_some, if_neg (by decide), m_in, if_neg hw, bd_some, if_pos rfl, bm]
  · refine ⟨-2, va_up I 13 (I 13 + 1), A, L, _, _, _, ?_, ?_, inv_bad hI⟩
    · unfold f_X6_hides
      rw [x_sign0 I A L hs, bd_some, if_pos rfl, bx]
    · unfold f_X7_hides
      rw [m_sign0 _ A L hs, bd_some, if_pos rfl, bm]
