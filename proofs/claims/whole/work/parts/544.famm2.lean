def mcl (T : Nat) (f : Nat → Int32) (c : Nat) : Prop := f c = 1 → ∀ t, t < 6 → bit T t = true → f (tn t c) = 1
theorem m69_l {T c0 : Nat} (hT : T < 64) (h0 : c0 < 343) (k58 : Int32 → Int32 → Int32 → (Nat → Int32) → (Nat → Nat → Int32) → (Nat → Int64) → Option (Int32 × gS)) : ∀ (n c : Nat) (x5 x6 : Int32) (I : Nat → Int32) (A : Nat → Nat → Int32) (L : Nat → Int64), c ≤ 343 → 343 - c < n → mfam T c0 (A 67) x5 → (x6 = 0 ∨ x6 = 1) → ∃ y5 y6 A', f_X7_laysFamily_p69 k58 n (Int32.ofNat T) x5 x6 (Int32.ofNat c) I A L = k58 (Int32.ofNat T) y5 y6 I A' L ∧ mfam T c0 (A' 67) y5 ∧ mst (A 67) (A' 67) x6 y6 ∧ cnt (A 67) ≤ cnt (A' 67) ∧ (y6 = 0 → ∀ d, c ≤ d → d < 343 → mcl T (A' 67) d) ∧ ∀ r, r ≠ 67 → r ≠ 69 → A' r = A r := by
  intro n
  induction n with
  | zero => intro c x5 x6 I A L h1 h2; omega
  | succ n ih =>
    intro c x5 x6 I A L h1 h2 hf hx6
    rw [f_X7_laysFamily_p69_e]
    by_cases hc : c = 343
    · subst hc
      rw [if_pos (by decide)]
      exact ⟨x5, x6, A, rfl, hf, ⟨fun _ h => h, hx6.elim (fun e => Or.inl ⟨e, e, rfl⟩) (fun e => Or.inr ⟨e, Or.inl e⟩)⟩, Nat.le_refl _, fun _ d a b => by omega, fun _ _ _ => rfl⟩
    · rw [if_neg (show ¬ (343 : Int32) ≤ Int32.ofNat c from o_nle (a := 343) (by omega) (by omega) (by omega))]
      obtain ⟨y5, y6, A1, m1, m2, m3, m4, m5, m6⟩ := m80_l hT h0 (show c < 343 by omega) k58 (f_X7_laysFamily_p69 k58 n) 4096 0 x5 x6 I A L (by omega) (by omega) hf hx6
      have m1 : f_X7_laysFamily_p80 k58 (f_X7_laysFamily_p69 k58 n) 4096 (Int32.ofNat T) x5 x6 (Int32.ofNat c) 0 I A L = _ := m1
      rw [m1]
      have hy6 : y6 = 0 ∨ y6 = 1 := m3.2.elim (fun q => Or.inl q.1) (fun q => Or.inr q.1)
      obtain ⟨z5, z6, A', k1, k2, k3, k4, k5, k6⟩ := ih (c + 1) y5 y6 I A1 L (by omega) (by omega) m2 hy6
      refine ⟨z5, z6, A', k1, k2, mst_tr m3 k3 k4 m4, by omega, fun hz d a b => ?_, fun r a1 a2 => by rw [k6 r a1 a2, m6 r a1 a2]⟩
      by_cases e : d = c
      · subst e
        intro hd t ht hb
        rcases k3.2 with ⟨q1, q2, q3⟩ | ⟨q1, _⟩
        · rcases m3.2 with ⟨p1, p2, p3⟩ | ⟨p1, _⟩
          · rw [q3] at hd ⊢
            rw [p3] at hd
            exact m5 hd t (by omega) ht hb
          · rw [p1] at q2; exact absurd q2 (by decide)
        · rw [q1] at hz; exact absurd hz (by decide)
      · exact k5 hz d (by omega) b
theorem m58_l {T c0 : Nat} (hT : T < 64) (h0 : c0 < 343) : ∀ (n : Nat) (x5 x6 : Int32) (I : Nat → Int32) (A : Nat → Nat → Int32) (L : Nat → Int64), mfam T c0 (A 67) x5 → ((x6 = 0 ∧ 1 ≤ n ∧ ∀ d, d < 343 → mcl T (A 67) d) ∨ (x6 = 1 ∧ 50 - cnt (A 67) ≤ n)) → ∃ y5 A', f_X7_laysFamily_p58 n (Int32.ofNat T) x5 x6 I A L = some (y5, I, A', L) ∧ mfam T c0 (A' 67) y5 ∧ (∀ d, d < 343 → mcl T (A' 67) d) ∧ ∀ r, r ≠ 67 → r ≠ 69 → A' r = A r := by
  intro n
  induction n with
  | zero =>
    intro x5 x6 I A L hf h
    have := mfam_48 h0 hf
    rcases h with h | h
    · omega
    · omega
  | succ n ih =>
    intro x5 x6 I A L hf h
    have h48 := mfam_48 h0 hf
    rw [f_X7_laysFamily_p58_e]
    rcases h with ⟨hx, _, hcl⟩ | ⟨hx, hn⟩
    · rw [if_pos hx]
      exact ⟨x5, A, rfl, hf, hcl, fun _ _ _ => rfl⟩
    · rw [if_neg (by rw [hx]; decide)]
      obtain ⟨y5, y6, A1, m1, m2, m3, m4, m5, m6⟩ := m69_l hT h0 (f_X7_laysFamily_p58 n) 4096 0 x5 0 I A L (by omega) (by omega) hf (Or.inl rfl)
      have m1 : f_X7_laysFamily_p69 (f_X7_laysFamily_p58 n) 4096 (Int32.ofNat T) x5 0 0 I A L = _ := m1
      rw [m1]
      obtain ⟨z5, A', k1, k2, k3, k4⟩ := ih y5 y6 I A1 L m2 (by
        rcases m3.2 with ⟨p1, p2, p3⟩ | ⟨p1, p2⟩
        · exact Or.inl ⟨p1, by omega, fun d hd => m5 p1 d (by omega) hd⟩
        · refine Or.inr ⟨p1, ?_⟩
          rcases p2 with p2 | p2
          · exact absurd p2 (by decide)
          · omega)
      exact ⟨z5, A', k1, k2, k3, fun r a1 a2 => by rw [k4 r a1 a2, m6 r a1 a2]⟩
theorem cOf_49 {h k l : Int32} (hs : sgn h k l) : (((49 * (h + 3)) + (7 * (k + 3))) + l) + 3 = Int32.ofNat (cOf h k l) := by
  unfold cOf
  obtain ⟨⟨a1, a2⟩, ⟨b1, b2⟩, ⟨c1, c2⟩, -⟩ := hs
  rw [i_le] at a1 a2 b1 b2 c1 c2
  have a1 : -3 ≤ h.toInt := a1
  have a2 : h.toInt ≤ 3 := a2
  have b1 : -3 ≤ k.toInt := b1
  have b2 : k.toInt ≤ 3 := b2
  have c1 : -3 ≤ l.toInt := c1
  have c2 : l.toInt ≤ 3 := c2
  have q3 : (3 : Int32).toInt = 3 := rfl
  have q10 : (7 : Int32).toInt = 7 := rfl
  have q100 : (49 : Int32).toInt = 49 := rfl
  have s1 : (h + 3).toInt = h.toInt + 3 := by rw [i_add (by omega) (by omega), q3]
  have s2 : (k + 3).toInt = k.toInt + 3 := by rw [i_add (by omega) (by omega), q3]
  have s3 : (49 * (h + 3)).toInt = 49 * (h.toInt + 3) := by rw [i_mul (by rw [q100, s1]; omega) (by rw [q100, s1]; omega), q100, s1]
  have s4 : (7 * (k + 3)).toInt = 7 * (k.toInt + 3) := by rw [i_mul (by rw [q10, s2]; omega) (by rw [q10, s2]; omega), q10, s2]
  have s5 : (49 * (h + 3) + 7 * (k + 3)).toInt = 49 * (h.toInt + 3) + 7 * (k.toInt + 3) := by rw [i_add (by omega) (by omega), s3, s4]
  have s6 : (49 * (h + 3) + 7 * (k + 3) + l).toInt = 49 * (h.toInt + 3) + 7 * (k.toInt + 3) + l.toInt := by rw [i_add (by omega) (by omega), s5]
  rw [i_eq, i_add (by omega) (by omega), s6, q3, i_nat (by omega)]
  omega
theorem m3_l {h k l : Int32} (hs : sgn h k l) (a : Int32) : ∀ (n c : Nat) (I : Nat → Int32) (A : Nat → Nat → Int32) (L : Nat → Int64), c ≤ 343 → 343 - c < n → ∃ row, f_X7_laysFamily_p3 n a h k l (Int32.ofNat c) I A L = f_X7_laysFamily_p58 4096 a 1 1 I (va_up A 67 row) L ∧ (∀ i, i < c → row i = A 67 i) ∧ ∀ i, c ≤ i → i < 343 → row i = if i = cOf h k l then 1 else 0 := by
  intro n
  induction n with
  | zero => intro c I A L h1 h2; omega
  | succ n ih =>
    intro c I A L h1 h2
    rw [f_X7_laysFamily_p3_e, cOf_49 hs]
    by_cases hc : c = 343
    · subst hc
      rw [if_pos (by decide)]
      exact ⟨A 67, by rw [uself], fun _ _ => rfl, fun i a b => by omega⟩
    · rw [if_neg (show ¬ (343 : Int32) ≤ Int32.ofNat c from o_nle (a := 343) (by omega) (by omega) (by omega)), o_ck (by omega) (by omega), o_ck (by omega) (by omega), g_lt_eq, g_lt_eq, i_1, i_tnn (by omega), show vp_nar .boolean 1 = 1 from rfl, show vp_nar .boolean 0 = 0 from rfl]
      have hlt := (cOf_lt hs).1
      have e9 : (Int32.ofNat c = Int32.ofNat (cOf h k l)) ↔ c = cOf h k l := by
        rw [i_eq, i_nat (by omega), i_nat (by omega)]
        omega
      by_cases e : c = cOf h k l
      · rw [if_pos (e9.mpr e)]
        obtain ⟨row, m1, m2, m3⟩ := ih (c + 1) I (va_up A 67 (upd (A 67) c 1)) L (by omega) (by omega)
        refine ⟨row, by rw [m1, uu], fun i hi => by rw [m2 i (by omega), us, dn _ _ (by omega)], fun i a b => ?_⟩
        by_cases q : i = c
        · rw [q, m2 c (by omega), us, ds, if_pos e]
        · exact m3 i (by omega) b
      · rw [if_neg (fun q => e (e9.mp q))]
        obtain ⟨row, m1, m2, m3⟩ := ih (c + 1) I (va_up A 67 (upd (A 67) c 0)) L (by omega) (by omega)
        refine ⟨row, by rw [m1, uu], fun i hi => by rw [m2 i (by omega), us, dn _ _ (by omega)], fun i a b => ?_⟩
        by_cases q : i = c
        · rw [q, m2 c (by omega), us, ds, if_neg e]
        · exact m3 i (by omega) b
theorem cnt_1 {f : Nat → Int32} {d : Nat} (hd : d < 343) (h : ∀ i, i < 343 → f i = if i = d then 1 else 0) : cnt f = 1 := by
  have e : cnt f = cnt (upd (fun _ => 0) d 1) := by
    unfold cnt
    apply List.countP_congr
    intro c hc
    have hc := List.mem_range.mp hc
    rw [h c hc]
    unfold upd
    exact Iff.rfl
  rw [e, cnt_up hd (by decide)]
  have z : cnt (fun _ => 0) = 0 := by
    unfold cnt
    apply List.countP_eq_zero.mpr
    intro c _
    show ¬ ((0 : Int32) == 1) = true
    decide
  rw [z]
/-- the reference's laysFamily -/
theorem lays_s {T : Nat} {h k l : Int32} (hT : T < 64) (hs : sgn h k l) (I : Nat → Int32) (A : Nat → Nat → Int32) (L : Nat → Int64) : ∃ A', f_X7_laysFamily (Int32.ofNat T) h k l I A L = some (Int32.ofNat (fam T (cOf h k l)).length, I, A', L) ∧ (∀ c, c < 343 → A' 67 c = if c ∈ fam T (cOf h k l) then 1 else 0) ∧ ∀ r, r ≠ 67 → r ≠ 69 → A' r = A r := by
  obtain ⟨h0, -⟩ := cOf_lt hs
  unfold f_X7_laysFamily
  obtain ⟨row, e1, -, g1⟩ := m3_l hs (Int32.ofNat T) 4096 0 I A L (by omega) (by omega)
  have e1 : f_X7_laysFamily_p3 4096 (Int32.ofNat T) h k l 0 I A L = _ := e1
  rw [e1]
  have hrow : ∀ i, i < 343 → row i = if i = cOf h k l then 1 else 0 := fun i hi => g1 i (by omega) hi
  have hf : mfam T (cOf h k l) (va_up A 67 row 67) 1 := by
    rw [us]
    refine ⟨fun c hc => ?_, by rw [hrow _ h0, if_pos rfl], fun c hc hv => ?_, by rw [cnt_1 h0 hrow]; rfl⟩
    · rw [hrow c hc]
      split
      next => exact Or.inr rfl
      next => exact Or.inl rfl
    · rw [hrow c hc] at hv
      split at hv
      next q => rw [q]; exact rch_0 _ _
      next => exact absurd hv (by decide)
  obtain ⟨y5, A', m1, m2, m3, m4⟩ := m58_l hT h0 4096 1 1 I (va_up A 67 row) L hf (Or.inr ⟨rfl, by rw [us, cnt_1 h0 hrow]; omega⟩)
  have hcs := fam_cnt (T := T) (cs := (List.range 343).filter (fun c => A' 67 c == 1)) h0 (List.Pairwise.filter _ List.nodup_range) (fun c hc => by
      obtain ⟨a, b⟩ := List.mem_filter.mp hc
      exact m2.2.2.1 c (List.mem_range.mp a) (eq_of_beq b)) (List.mem_filter.mpr ⟨List.mem_range.mpr h0, by rw [m2.2.1]; rfl⟩) (fun c hc t ht hb => by
      obtain ⟨a, b⟩ := List.mem_filter.mp hc
      have hc343 := List.mem_range.mp a
      refine List.mem_filter.mpr ⟨List.mem_range.mpr (tn_lt t ht c hc343), ?_⟩
      rw [m3 c hc343 (eq_of_beq b) t ht hb]; rfl)
  refine ⟨A', ?_, fun c hc => ?_, fun r a1 a2 => by rw [m4 r a1 a2, un _ _ a1]⟩
  · rw [m1, m2.2.2.2, cnt_len, hcs.2]
  · have hmem : (A' 67 c = 1) ↔ c ∈ fam T (cOf h k l) := by
      rw [fam_mem h0, ← hcs.1 c, List.mem_filter, List.mem_range, beq_iff_eq]
      exact ⟨fun q => ⟨hc, q⟩, fun q => q.2⟩
    by_cases q : c ∈ fam T (cOf h k l)
    · rw [if_pos q]; exact hmem.mpr q
    · rw [if_neg q]
      exact (m2.1 c hc).elim id (fun z => absurd (hmem.mp z) q)
