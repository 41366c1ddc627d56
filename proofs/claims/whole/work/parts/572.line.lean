/-! THE LINE of two planes, and how much of it the others leave -/
def wy (P Q : Pl) : V3 := crs (nrm P) (nrm Q)
def sc (P Q : Pl) : Int := cu (wy P Q) (wy P Q)
def bs (P Q : Pl) : V3 :=
  (P.2.2.2.toInt * (Q.2.1.toInt * (wy P Q).2.2 - Q.2.2.1.toInt * (wy P Q).2.1) + Q.2.2.2.toInt * ((wy P Q).2.1 * P.2.2.1.toInt - (wy P Q).2.2 * P.2.1.toInt),
   P.2.2.2.toInt * (Q.2.2.1.toInt * (wy P Q).1 - Q.1.toInt * (wy P Q).2.2) + Q.2.2.2.toInt * ((wy P Q).2.2 * P.1.toInt - (wy P Q).1 * P.2.2.1.toInt),
   P.2.2.2.toInt * (Q.1.toInt * (wy P Q).2.1 - Q.2.1.toInt * (wy P Q).1) + Q.2.2.2.toInt * ((wy P Q).1 * P.2.1.toInt - (wy P Q).2.1 * P.1.toInt))
def rm (P Q R : Pl) : Int := R.2.2.2.toInt * sc P Q - R.1.toInt * (bs P Q).1 - R.2.1.toInt * (bs P Q).2.1 - R.2.2.1.toInt * (bs P Q).2.2
def cb (P Q R : Pl) : Int := nd R (wy P Q)
/-- the point at a by b -/
def pt (P Q : Pl) (a b : Int) : Q4 := ((bs P Q).1 * b + (wy P Q).1 * a, (bs P Q).2.1 * b + (wy P Q).2.1 * a, (bs P Q).2.2 * b + (wy P Q).2.2 * a, sc P Q * b)
theorem sd_pt (P Q R : Pl) (a b : Int) : sd R (pt P Q a b) = a * cb P Q R - b * rm P Q R := by
  simp only [sd, pt, cb, rm, nd]; grind
theorem pt_1 (P Q : Pl) (a b : Int) : sd P (pt P Q a b) = 0 := by
  have e1 : cb P Q P = 0 := nd_crs1 P Q
  have e2 : rm P Q P = 0 := by
    simp only [rm, bs, sc, wy, cu, crs, nrm]; grind
  rw [sd_pt, e1, e2]; simp
theorem pt_2 (P Q : Pl) (a b : Int) : sd Q (pt P Q a b) = 0 := by
  have e1 : cb P Q Q = 0 := nd_crs2 P Q
  have e2 : rm P Q Q = 0 := by
    simp only [rm, bs, sc, wy, cu, crs, nrm]; grind
  rw [sd_pt, e1, e2]; simp
/-- each point on both planes is such a point -/
theorem pt_ex {P Q : Pl} (hW : wy P Q ≠ (0, 0, 0)) {v : Q4} (e1 : sd P v = 0) (e2 : sd Q v = 0) (hv : 0 < v.2.2.2) : ∃ a b k : Int, 0 < b ∧ 0 < k ∧ scl k v = pt P Q a b := by
  have hs : 0 < sc P Q := cu_pos hW
  -- a = way . v times .., b = scale d
  refine ⟨sc P Q * (cw (wy P Q) v) - v.2.2.2 * cu (wy P Q) (bs P Q), sc P Q * v.2.2.2, sc P Q * sc P Q, Int.mul_pos hs hv, Int.mul_pos hs hs, ?_⟩
  have f1 : sd P (pt P Q 0 1) = 0 := pt_1 P Q 0 1
  have f2 : sd Q (pt P Q 0 1) = 0 := pt_2 P Q 0 1
  -- the way from the base to v is along the line
  have u1 : nd P (df (pt P Q 0 1) v) = 0 := nd_on f1 e1
  have u2 : nd Q (df (pt P Q 0 1) v) = 0 := nd_on f2 e2
  have key : ∀ c : V3, cu c (df (pt P Q 0 1) v) * sc P Q = cu (wy P Q) (df (pt P Q 0 1) v) * cu c (wy P Q) := fun c => v3_line (nrm P) (nrm Q) c _ u1 u2
  have k1 := key (1, 0, 0)
  have k2 := key (0, 1, 0)
  have k3 := key (0, 0, 1)
  simp only [cu, df, pt, scl, cw] at k1 k2 k3 ⊢
  simp only [Prod.mk.injEq]
  generalize sc P Q = s at *
  generalize wy P Q = w at *
  generalize bs P Q = e at *
  refine ⟨by grind, by grind, by grind, by grind⟩
/-- a part of the line: from la by lb to ha by hb; S: the planes that have been looked at -/
def LI (P Q : Pl) (S : Pl → Prop) (la lb ha hb : Int) : Prop :=
  (lb = 0 ∧ la = -1 ∨ 0 < lb ∧ ∃ r, S r ∧ cb P Q r < 0 ∧ la = - rm P Q r ∧ lb = - cb P Q r) ∧
  (hb = 0 ∧ ha = 1 ∨ 0 < hb ∧ ∃ r, S r ∧ 0 < cb P Q r ∧ ha = rm P Q r ∧ hb = cb P Q r) ∧
  (∀ r, S r → (0 < cb P Q r → 0 < hb ∧ ha * cb P Q r ≤ rm P Q r * hb) ∧ (cb P Q r < 0 → 0 < lb ∧ la * cb P Q r ≤ rm P Q r * lb) ∧ (cb P Q r = 0 → 0 ≤ rm P Q r)) ∧
  la * hb ≤ ha * lb
/-- no point of the line is left -/
def LN (P Q : Pl) (S : Pl → Prop) : Prop := ∀ a b : Int, 0 < b → ∃ r, S r ∧ 0 < a * cb P Q r - b * rm P Q r
theorem LI_0 (P Q : Pl) : LI P Q (fun _ => False) (-1) 0 1 0 := ⟨Or.inl ⟨rfl, rfl⟩, Or.inl ⟨rfl, rfl⟩, fun r h => h.elim, by omega⟩
theorem LI_c {P Q : Pl} {S T : Pl → Prop} {la lb ha hb : Int} (h : LI P Q S la lb ha hb) (e : ∀ r, T r ↔ S r) : LI P Q T la lb ha hb := by
  have : T = S := funext (fun r => propext (e r))
  rw [this]; exact h
theorem LN_c {P Q : Pl} {S T : Pl → Prop} (h : LN P Q S) (e : ∀ r, S r → T r) : LN P Q T := fun a b hb => by
  obtain ⟨r, h1, h2⟩ := h a b hb
  exact ⟨r, e r h1, h2⟩
def hi (P Q r : Pl) (ha hb : Int) : Int × Int := if 0 < cb P Q r ∧ rm P Q r * hb < ha * cb P Q r then (rm P Q r, cb P Q r) else (ha, hb)
def lo (P Q r : Pl) (la lb : Int) : Int × Int := if cb P Q r < 0 ∧ rm P Q r * lb < la * cb P Q r then (- rm P Q r, - cb P Q r) else (la, lb)
theorem hi_s {P Q r : Pl} {S : Pl → Prop} {ha hb : Int} (h1 : hb = 0 ∧ ha = 1 ∨ 0 < hb ∧ ∃ r, S r ∧ 0 < cb P Q r ∧ ha = rm P Q r ∧ hb = cb P Q r) (h2 : ∀ r, S r → 0 < cb P Q r → 0 < hb ∧ ha * cb P Q r ≤ rm P Q r * hb) :
    ((hi P Q r ha hb).2 = 0 ∧ (hi P Q r ha hb).1 = 1 ∨ 0 < (hi P Q r ha hb).2 ∧ ∃ s, (S s ∨ s = r) ∧ 0 < cb P Q s ∧ (hi P Q r ha hb).1 = rm P Q s ∧ (hi P Q r ha hb).2 = cb P Q s) ∧ ∀ s, (S s ∨ s = r) → 0 < cb P Q s → 0 < (hi P Q r ha hb).2 ∧ (hi P Q r ha hb).1 * cb P Q s ≤ rm P Q s * (hi P Q r ha hb).2 := by
  unfold hi
  by_cases c : 0 < cb P Q r ∧ rm P Q r * hb < ha * cb P Q r
  · rw [if_pos c]
    refine ⟨Or.inr ⟨c.1, r, Or.inr rfl, c.1, rfl, rfl⟩, fun s hs hc => ⟨c.1, ?_⟩⟩
    rcases hs with hs | hs
    · obtain ⟨k1, k2⟩ := h2 s hs hc
      exact tr3 c.1 k1 hc (Int.le_of_lt c.2) k2
    · rw [hs]; exact Int.le_refl _
  · rw [if_neg c]
    refine ⟨?_, fun s hs hc => ?_⟩
    · rcases h1 with h1 | ⟨h1, s, a, b⟩
      · exact Or.inl h1
      · exact Or.inr ⟨h1, s, Or.inl a, b⟩
    · rcases hs with hs | hs
      · exact h2 s hs hc
      · rw [hs] at hc ⊢
        have c2 : ha * cb P Q r ≤ rm P Q r * hb := by
          rcases i_log (rm P Q r * hb) (ha * cb P Q r) with q | q
          · exact absurd ⟨hc, q⟩ c
          · exact q
        refine ⟨?_, c2⟩
        rcases h1 with h1 | h1
        · exfalso
          rw [h1.1, h1.2] at c2
          omega
        · exact h1.1
theorem lo_s {P Q r : Pl} {S : Pl → Prop} {la lb : Int} (h1 : lb = 0 ∧ la = -1 ∨ 0 < lb ∧ ∃ r, S r ∧ cb P Q r < 0 ∧ la = - rm P Q r ∧ lb = - cb P Q r) (h2 : ∀ r, S r → cb P Q r < 0 → 0 < lb ∧ la * cb P Q r ≤ rm P Q r * lb) :
    ((lo P Q r la lb).2 = 0 ∧ (lo P Q r la lb).1 = -1 ∨ 0 < (lo P Q r la lb).2 ∧ ∃ s, (S s ∨ s = r) ∧ cb P Q s < 0 ∧ (lo P Q r la lb).1 = - rm P Q s ∧ (lo P Q r la lb).2 = - cb P Q s) ∧ ∀ s, (S s ∨ s = r) → cb P Q s < 0 → 0 < (lo P Q r la lb).2 ∧ (lo P Q r la lb).1 * cb P Q s ≤ rm P Q s * (lo P Q r la lb).2 := by
  unfold lo
  by_cases c : cb P Q r < 0 ∧ rm P Q r * lb < la * cb P Q r
  · rw [if_pos c]
    refine ⟨Or.inr ⟨by show 0 < - cb P Q r; omega, r, Or.inr rfl, c.1, rfl, rfl⟩, fun s hs hc => ⟨by show 0 < - cb P Q r; omega, ?_⟩⟩
    show - rm P Q r * cb P Q s ≤ rm P Q s * - cb P Q r
    rcases hs with hs | hs
    · obtain ⟨k1, k2⟩ := h2 s hs hc
      have := tr3 (s1 := rm P Q r) (k1 := - cb P Q r) (s2 := - la) (k2 := lb) (s3 := rm P Q s) (k3 := - cb P Q s) (by omega) k1 (by omega) (by grind) (by grind)
      grind
    · rw [hs]; grind
  · rw [if_neg c]
    refine ⟨?_, fun s hs hc => ?_⟩
    · rcases h1 with h1 | ⟨h1, s, a, b⟩
      · exact Or.inl h1
      · exact Or.inr ⟨h1, s, Or.inl a, b⟩
    · rcases hs with hs | hs
      · exact h2 s hs hc
      · rw [hs] at hc ⊢
        have c2 : la * cb P Q r ≤ rm P Q r * lb := by
          rcases i_log (rm P Q r * lb) (la * cb P Q r) with q | q
          · exact absurd ⟨hc, q⟩ c
          · exact q
        refine ⟨?_, c2⟩
        rcases h1 with h1 | h1
        · exfalso
          rw [h1.1, h1.2] at c2
          omega
        · exact h1.1
/-- one plane more -/
theorem LI_s {P Q r : Pl} {S : Pl → Prop} {la lb ha hb : Int} (h : LI P Q S la lb ha hb) (hz : cb P Q r = 0 → 0 ≤ rm P Q r) (hf : (lo P Q r la lb).1 * (hi P Q r ha hb).2 ≤ (hi P Q r ha hb).1 * (lo P Q r la lb).2) : LI P Q (fun s => S s ∨ s = r) (lo P Q r la lb).1 (lo P Q r la lb).2 (hi P Q r ha hb).1 (hi P Q r ha hb).2 := by
  obtain ⟨h1, h2, h3, h4⟩ := h
  obtain ⟨a1, a2⟩ := hi_s (r := r) h2 (fun s hs => (h3 s hs).1)
  obtain ⟨b1, b2⟩ := lo_s (r := r) h1 (fun s hs => (h3 s hs).2.1)
  refine ⟨b1, a1, fun s hs => ⟨a2 s hs, b2 s hs, fun z => ?_⟩, hf⟩
  rcases hs with hs | hs
  · exact (h3 s hs).2.2 z
  · rw [hs] at z ⊢; exact hz z
theorem LN_z {P Q r : Pl} (S : Pl → Prop) (h1 : cb P Q r = 0) (h2 : rm P Q r < 0) : LN P Q (fun s => S s ∨ s = r) := fun a b hb => by
  refine ⟨r, Or.inr rfl, ?_⟩
  rw [h1]
  have := Int.mul_neg_of_pos_of_neg hb h2
  omega
theorem LN_s {P Q r : Pl} {S : Pl → Prop} {la lb ha hb : Int} (h : LI P Q S la lb ha hb) (hf : (hi P Q r ha hb).1 * (lo P Q r la lb).2 < (lo P Q r la lb).1 * (hi P Q r ha hb).2) : LN P Q (fun s => S s ∨ s = r) := by
  obtain ⟨h1, h2, h3, h4⟩ := h
  obtain ⟨a1, -⟩ := hi_s (r := r) h2 (fun s hs => (h3 s hs).1)
  obtain ⟨b1, -⟩ := lo_s (r := r) h1 (fun s hs => (h3 s hs).2.1)
  generalize (hi P Q r ha hb).1 = HA at *
  generalize (hi P Q r ha hb).2 = HB at *
  generalize (lo P Q r la lb).1 = LA at *
  generalize (lo P Q r la lb).2 = LB at *
  intro a b hb0
  rcases a1 with ⟨a1, a2⟩ | ⟨a1, s, a2, a3, a4, a5⟩
  · exfalso
    rw [a1, a2] at hf
    rcases b1 with ⟨b1, b2⟩ | ⟨b1, -⟩
    · rw [b1, b2] at hf; omega
    · omega
  · rcases b1 with ⟨b1, b2⟩ | ⟨b1, t, b2, b3, b4, b5⟩
    · exfalso
      rw [b1, b2] at hf
      omega
    · rcases i_log 0 (a * cb P Q s - b * rm P Q s) with q | q
      · exact ⟨s, a2, q⟩
      · refine ⟨t, b2, ?_⟩
        rcases i_log 0 (a * cb P Q t - b * rm P Q t) with q' | q'
        · exact q'
        · exfalso
          -- a hb ≤ b ha, b la ≤ a lb
          have e1 : a * HB ≤ b * HA := by rw [a5, a4]; omega
          have e2 : b * LA ≤ a * LB := by rw [b5, b4]; grind
          have e3 : a * HB * LB ≤ b * HA * LB := Int.mul_le_mul_of_nonneg_right e1 (by omega)
          have e4 : b * LA * HB ≤ a * LB * HB := Int.mul_le_mul_of_nonneg_right e2 (by omega)
          have e5 : b * (HA * LB) < b * (LA * HB) := Int.mul_lt_mul_of_pos_left hf hb0
          grind
/-- what is left lies behind all -/
theorem LI_lo {P Q : Pl} {S : Pl → Prop} {la lb ha hb : Int} (h : LI P Q S la lb ha hb) (hl : 0 < lb) {r : Pl} (hr : S r) : la * cb P Q r - lb * rm P Q r ≤ 0 := by
  obtain ⟨h1, h2, h3, h4⟩ := h
  obtain ⟨k1, k2, k3⟩ := h3 r hr
  rcases (show cb P Q r < 0 ∨ cb P Q r = 0 ∨ 0 < cb P Q r by omega) with q | q | q
  · have := (k2 q).2
    have e : lb * rm P Q r = rm P Q r * lb := Int.mul_comm _ _
    omega
  · rw [q]
    have := Int.mul_nonneg (Int.le_of_lt hl) (k3 q)
    omega
  · obtain ⟨c1, c2⟩ := k1 q
    have := tr3 hl c1 q h4 c2
    have e : lb * rm P Q r = rm P Q r * lb := Int.mul_comm _ _
    omega
theorem LI_hi {P Q : Pl} {S : Pl → Prop} {la lb ha hb : Int} (h : LI P Q S la lb ha hb) (hh : 0 < hb) {r : Pl} (hr : S r) : ha * cb P Q r - hb * rm P Q r ≤ 0 := by
  obtain ⟨h1, h2, h3, h4⟩ := h
  obtain ⟨k1, k2, k3⟩ := h3 r hr
  have e : hb * rm P Q r = rm P Q r * hb := Int.mul_comm _ _
  rcases (show cb P Q r < 0 ∨ cb P Q r = 0 ∨ 0 < cb P Q r by omega) with q | q | q
  · obtain ⟨c1, c2⟩ := k2 q
    -- la by lb is at least rm by cb, and ha by hb not below la by lb
    have := tr3 (s1 := - rm P Q r) (k1 := - cb P Q r) (s2 := la) (k2 := lb) (s3 := ha) (k3 := hb) (by omega) c1 hh (by grind) h4
    grind
  · rw [q]
    have := Int.mul_nonneg (Int.le_of_lt hh) (k3 q)
    omega
  · have := (k1 q).2
    omega
