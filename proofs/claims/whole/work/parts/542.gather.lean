theorem fillB_l : ∀ (n j : Nat) (I : Nat → Int32) (A : Nat → Nat → Int32) (L : Nat → Int64), j ≤ 667 → 667 - j < n → ∃ row, f_J7_fill_031fb_p5 55 n 0 (Int32.ofNat j) 667 I A L = some (I, va_up A 55 row, L) ∧ (∀ i, i < j → row i = A 55 i) ∧ ∀ i, j ≤ i → i < 667 → row i = 0 := by
  intro n
  induction n with
  | zero => intro j I A L h1 h2; omega
  | succ n ih =>
    intro j I A L h1 h2
    rw [f_J7_fill_031fb_p5_e]
    by_cases hj : j = 667
    · subst hj
      refine ⟨A 55, ?_, fun _ _ => rfl, fun i h3 h4 => by omega⟩
      rw [if_pos (by decide), uself]
    · obtain ⟨row, e, g1, g2⟩ := ih (j + 1) I (va_up A 55 (upd (A 55) j 0)) L (by omega) (by omega)
      refine ⟨row, ?_, fun i hi => ?_, fun i h3 h4 => ?_⟩
      · rw [if_neg (show ¬ (667 : Int32) ≤ Int32.ofNat j from o_nle (a := 667) (by omega) (by omega) (by omega)), o_ck (by omega) (by omega), g_lt_eq, i_1, i_tnn (by omega), show vp_nar .byte 0 = 0 from rfl, e, uu]
      · rw [g1 i (by omega), us, dn _ _ (by omega)]
      · by_cases e1 : i = j
        · subst e1
          rw [g1 i (by omega), us, ds]
        · exact g2 i (by omega) h4
theorem order_l {fs : List Nat} (hp : fs.Pairwise (· < ·)) (hl : ∀ c ∈ fs, c < 343) (h48 : fs.length ≤ 48) : ∀ (n x m : Nat) (I : Nat → Int32) (A : Nat → Nat → Int32) (L : Nat → Int64), x ≤ 667 → m ≤ fs.length → 667 - x < n → I 866 = Int32.ofNat fs.length → (∀ c ∈ fs, A 55 (c100 c) = 1) → (∀ x, x < 667 → (∀ c ∈ fs, c100 c ≠ x) → A 55 x = 0) → (∀ j, j < m → c100 (fs.getD j 0) < x ∧ A 56 j = Int32.ofNat (c100 (fs.getD j 0))) → (∀ j, m ≤ j → j < fs.length → x ≤ c100 (fs.getD j 0)) → ∃ row, f_X0_putInOrder_p4 n (Int32.ofNat m) (Int32.ofNat x) I A L = some (I, va_up A 56 row, L) ∧ ∀ j, j < fs.length → row j = Int32.ofNat (c100 (fs.getD j 0)) := by
  intro n
  induction n with
  | zero => intro x m I A L h1 h2 h3; omega
  | succ n ih =>
    intro x m I A L h1 h2 h3 hI k1 k2 hlo hhi
    rw [f_X0_putInOrder_p4_e]
    have gm : ∀ j, j < fs.length → fs.getD j 0 ∈ fs := fun j hj => by
      rw [List.getD_eq_getElem?_getD, List.getElem?_eq_getElem hj]
      exact List.getElem_mem hj
    have hdone : m = fs.length → ∃ row, some (I, A, L) = some (I, va_up A 56 row, L) ∧ ∀ j, j < fs.length → row j = Int32.ofNat (c100 (fs.getD j 0)) := fun e => ⟨A 56, by rw [uself], fun j hj => (hlo j (by omega)).2⟩
    by_cases hx : x = 667
    · subst hx
      rw [if_pos (by decide)]
      refine hdone ?_
      rcases Nat.lt_or_ge m fs.length with h | h
      · have a1 := hhi m (Nat.le_refl _) h
        have a2 := c100_lt _ (hl _ (gm m h))
        omega
      · omega
    · rw [if_neg (show ¬ (667 : Int32) ≤ Int32.ofNat x from o_nle (a := 667) (by omega) (by omega) (by omega)), hI]
      by_cases hm : fs.length ≤ m
      · rw [if_pos (o_le (by omega) (by omega) hm)]
        exact hdone (by omega)
      · rw [if_neg (o_nle (by omega) (by omega) (by omega)), o_ck (by omega) (by omega), i_tnn (by omega), i_1]
        by_cases hk : ∃ c ∈ fs, c100 c = x
        · obtain ⟨c, hc, rfl⟩ := hk
          have hcm : fs.getD m 0 = c := by
            obtain ⟨j, hj, hjc⟩ := List.mem_iff_getElem.mp hc
            have hjm : m ≤ j := by
              rcases Nat.lt_or_ge j m with q | q
              · have := (hlo j q).1
                rw [List.getD_eq_getElem?_getD, List.getElem?_eq_getElem hj] at this
                have this : c100 fs[j] < c100 c := this
                rw [hjc] at this
                omega
              · exact q
            rcases Nat.lt_or_ge m j with q | q
            · have a1 := hhi m (Nat.le_refl _) (by omega)
              have a2 : fs[m] < fs[j] := List.pairwise_iff_getElem.mp hp m j (by omega) hj q
              rw [List.getD_eq_getElem?_getD, List.getElem?_eq_getElem (show m < fs.length by omega)] at a1
              have a1 : c100 c ≤ c100 fs[m] := a1
              rw [← hjc] at a1
              have a3 := c100_mono.mpr a2
              omega
            · have e : m = j := by omega
              subst e
              rw [List.getD_eq_getElem?_getD, List.getElem?_eq_getElem hj]
              exact hjc
          rw [if_neg (by rw [k1 c hc]; decide), o_ck (by omega) (by omega), g_lt_eq, i_1, i_tnn (by omega)]
          obtain ⟨row, e, g⟩ := ih (c100 c + 1) (m + 1) I (va_up A 56 (upd (A 56) m (Int32.ofNat (c100 c)))) L (by omega) (by omega) (by omega) hI (by rw [un _ _ (by omega)]; exact k1) (by rw [un _ _ (by omega)]; exact k2) (fun j hj => by
            rw [us]
            by_cases e : j = m
            · rw [e, ds, hcm]; exact ⟨by omega, rfl⟩
            · rw [dn _ _ e]
              have := hlo j (by omega)
              exact ⟨by omega, this.2⟩) (fun j a1 a2 => by
            have q1 : fs[m] < fs[j] := List.pairwise_iff_getElem.mp hp m j (by omega) a2 (by omega)
            have q2 := c100_mono.mpr q1
            rw [List.getD_eq_getElem?_getD, List.getElem?_eq_getElem a2]
            show c100 c + 1 ≤ c100 fs[j]
            rw [List.getD_eq_getElem?_getD, List.getElem?_eq_getElem (show m < fs.length by omega)] at hcm
            have hcm : fs[m] = c := hcm
            rw [hcm] at q2
            omega)
          exact ⟨row, by rw [e, uu], g⟩
        · rw [if_pos (k2 x (by omega) (fun c hc q => hk ⟨c, hc, q⟩))]
          exact ih (x + 1) m I A L (by omega) h2 (by omega) hI k1 k2 (fun j hj => ⟨by have := (hlo j hj).1; omega, (hlo j hj).2⟩) (fun j a1 a2 => by
            have q1 := hhi j a1 a2
            have q2 : c100 (fs.getD j 0) ≠ x := fun q => hk ⟨_, gm j a2, q⟩
            omega)
theorem gather_l {T c0 : Nat} (hT : T < 64) (h0 : c0 < 343) : ∀ (n i : Nat) (I : Nat → Int32) (A : Nat → Nat → Int32) (L : Nat → Int64) (cs : List Nat), i ≤ cs.length → 48 - i < n → fok T c0 cs → famX (I 866) (A 55) (A 56) cs → (∀ j, j < i → ∀ t, t < 6 → bit T t = true → tn t (cs.getD j 0) ∈ cs) → ∃ I' A', f_X0_gather_p24 n (Int32.ofNat T) (Int32.ofNat i) I A L = some (I', A', L) ∧ I' 866 = Int32.ofNat (fam T c0).length ∧ (∀ m, m < (fam T c0).length → A' 56 m = Int32.ofNat (c100 ((fam T c0).getD m 0))) ∧ (∀ i, i ≠ 866 → I' i = I i) ∧ ∀ r, r ≠ 55 → r ≠ 56 → A' r = A r := by
  intro n
  induction n with
  | zero => intro i I A L cs h1 h2; omega
  | succ n ih =>
    intro i I A L cs h1 h2 hf hx hcl
    have hl48 := fam_48 h0 hf.1 hf.2.1
    rw [f_X0_gather_p24_e]
    rw [show (I 866) = Int32.ofNat cs.length from hx.1]
    by_cases hi : cs.length ≤ i
    · rw [if_pos (o_le (by omega) (by omega) hi)]
      obtain ⟨c1, c2⟩ := fam_cnt h0 hf.1 hf.2.1 hf.2.2 (fun c hc t ht hb => by
        obtain ⟨j, hj, hjc⟩ := List.mem_iff_getElem.mp hc
        have := hcl j (by omega) t ht hb
        rw [List.getD_eq_getElem?_getD, List.getElem?_eq_getElem hj] at this
        rw [← hjc]
        exact this)
      have hmem : ∀ c, c ∈ cs ↔ c ∈ fam T c0 := fun c => by rw [c1 c, fam_mem h0]
      obtain ⟨row, e, g⟩ := order_l (fs := fam T c0) (fam_lt T c0) (fun c hc => (rch_lt h0 ((fam_mem h0).mp hc)).1) (fam_len h0) 4096 0 0 I A L (by omega) (by omega) (by omega) (by rw [hx.1, c2]) (fun c hc => hx.2.2.1 c ((hmem c).mpr hc)) (fun x hx2 hn => hx.2.2.2 x hx2 (fun c hc => hn c ((hmem c).mp hc))) (fun j hj => by omega) (fun j _ _ => Nat.zero_le _)
      refine ⟨I, va_up A 56 row, ?_, by rw [hx.1, c2], fun m hm => by rw [us]; exact g m hm, fun _ _ => rfl, fun r _ a2 => un _ _ a2⟩
      unfold f_X0_gather_p58 f_X0_putInOrder
      have e : f_X0_putInOrder_p4 4096 0 0 I A L = _ := e
      rw [e, b1_some]
    · rw [if_neg (o_nle (by omega) (by omega) (by omega)), if_neg (show ¬ (48 : Int32) ≤ Int32.ofNat i from o_nle (a := 48) (by omega) (by omega) (by omega)), o_ck (by omega) (by omega), i_tnn (by omega), hx.2.1 i (by omega)]
      have hci : cs.getD i 0 ∈ cs := by
        rw [List.getD_eq_getElem?_getD, List.getElem?_eq_getElem (by omega)]
        exact List.getElem_mem _
      obtain ⟨I1, A1, ext, e1, e2, e3, e4, e5, e6⟩ := noteT_l hT h0 (hf.2.1 _ hci) 4096 0 I A L cs (by omega) (by omega) hf hx
      have gpre : ∀ j, j < cs.length → (cs ++ ext).getD j 0 = cs.getD j 0 := fun j hj => by
        rw [List.getD_eq_getElem?_getD, List.getElem?_append_left hj, List.getD_eq_getElem?_getD]
      obtain ⟨I2, A2, m1, m2, m3, m4, m5⟩ := ih (i + 1) I1 A1 L (cs ++ ext) (by rw [List.length_append]; omega) (by omega) e2 e3 (fun j hj t ht hb => by
        rw [gpre j (by omega)]
        by_cases e : j = i
        · rw [e]; exact e4 t (by omega) ht hb
        · exact List.mem_append_left _ (hcl j (by omega) t ht hb))
      refine ⟨I2, A2, ?_, m2, m3, fun i hi => by rw [m4 i hi, e5 i hi], fun r a1 a2 => by rw [m5 r a1 a2, e6 r a1 a2]⟩
      unfold f_X0_noteTurned
      rw [g_lt_eq, g_lt_eq, g_lt_eq]
      have e1 : f_X0_noteTurned_p29 4096 (Int32.ofNat T) _ _ _ 0 I A L = _ := e1
      rw [e1, b1_some, i_1]
      exact m1
/-- the number of a sign -/
def cOf (h k l : Int32) : Nat := 49 * (h.toInt + 3).toNat + 7 * (k.toInt + 3).toNat + (l.toInt + 3).toNat
theorem cOf_lt {h k l : Int32} (hs : sgn h k l) : cOf h k l < 343 ∧ ch (cOf h k l) = (h.toInt + 3).toNat ∧ ck (cOf h k l) = (k.toInt + 3).toNat ∧ cl (cOf h k l) = (l.toInt + 3).toNat := by
  obtain ⟨⟨a1, a2⟩, ⟨b1, b2⟩, ⟨c1, c2⟩, -⟩ := hs
  rw [i_le] at a1 a2 b1 b2 c1 c2
  have a1 : -3 ≤ h.toInt := a1
  have a2 : h.toInt ≤ 3 := a2
  have b1 : -3 ≤ k.toInt := b1
  have b2 : k.toInt ≤ 3 := b2
  have c1 : -3 ≤ l.toInt := c1
  have c2 : l.toInt ≤ 3 := c2
  unfold cOf ch ck cl
  omega
theorem cOf_100 {h k l : Int32} (hs : sgn h k l) : (((100 * (h + 3)) + (10 * (k + 3))) + l) + 3 = Int32.ofNat (c100 (cOf h k l)) := by
  obtain ⟨e0, e1, e2, e3⟩ := cOf_lt hs
  unfold c100
  rw [e1, e2, e3]
  obtain ⟨⟨a1, a2⟩, ⟨b1, b2⟩, ⟨c1, c2⟩, -⟩ := hs
  rw [i_le] at a1 a2 b1 b2 c1 c2
  have a1 : -3 ≤ h.toInt := a1
  have a2 : h.toInt ≤ 3 := a2
  have b1 : -3 ≤ k.toInt := b1
  have b2 : k.toInt ≤ 3 := b2
  have c1 : -3 ≤ l.toInt := c1
  have c2 : l.toInt ≤ 3 := c2
  have q3 : (3 : Int32).toInt = 3 := rfl
  have q10 : (10 : Int32).toInt = 10 := rfl
  have q100 : (100 : Int32).toInt = 100 := rfl
  have s1 : (h + 3).toInt = h.toInt + 3 := by rw [i_add (by omega) (by omega), q3]
  have s2 : (k + 3).toInt = k.toInt + 3 := by rw [i_add (by omega) (by omega), q3]
  have s3 : (100 * (h + 3)).toInt = 100 * (h.toInt + 3) := by rw [i_mul (by rw [q100, s1]; omega) (by rw [q100, s1]; omega), q100, s1]
  have s4 : (10 * (k + 3)).toInt = 10 * (k.toInt + 3) := by rw [i_mul (by rw [q10, s2]; omega) (by rw [q10, s2]; omega), q10, s2]
  have s5 : (100 * (h + 3) + 10 * (k + 3)).toInt = 100 * (h.toInt + 3) + 10 * (k.toInt + 3) := by rw [i_add (by omega) (by omega), s3, s4]
  have s6 : (100 * (h + 3) + 10 * (k + 3) + l).toInt = 100 * (h.toInt + 3) + 10 * (k.toInt + 3) + l.toInt := by rw [i_add (by omega) (by omega), s5]
  rw [i_eq, i_add (by omega) (by omega), s6, q3, i_nat (by omega)]
  omega
/-- Family.gather -/
theorem gather_s {T : Nat} {h k l : Int32} (hT : T < 64) (hs : sgn h k l) (I : Nat → Int32) (A : Nat → Nat → Int32) (L : Nat → Int64) : ∃ I' A', f_X0_gather (Int32.ofNat T) h k l I A L = some (I', A', L) ∧ I' 866 = Int32.ofNat (fam T (cOf h k l)).length ∧ (∀ m, m < (fam T (cOf h k l)).length → A' 56 m = Int32.ofNat (c100 ((fam T (cOf h k l)).getD m 0))) ∧ (∀ i, i ≠ 866 → I' i = I i) ∧ ∀ r, r ≠ 55 → r ≠ 56 → A' r = A r := by
  obtain ⟨h0, -⟩ := cOf_lt hs
  unfold f_X0_gather f_J7_fill_031fb
  obtain ⟨row, e1, -, g1⟩ := fillB_l 4096 0 I A L (by omega) (by omega)
  have e1 : f_J7_fill_031fb_p5 55 4096 0 0 667 I A L = _ := e1
  rw [e1, b1_some, g_lt_eq]
  obtain ⟨I1, A1, ext, n1, n2, n3, n4, n5⟩ := note_s (I := va_up I 866 0) (A := va_up A 55 row) (L := L) (cs := []) h0 (cOf_100 hs) ⟨by rw [us]; rfl, fun i hi => absurd hi (by simp), fun c hc => absurd hc (by simp), fun x hx _ => by rw [us]; exact g1 x (by omega) hx⟩ (fun c hc => absurd hc (by simp)) (fun _ => by decide)
  have hext : ext = [cOf h k l] := by
    rcases n3 with ⟨_, q⟩ | ⟨q, _⟩
    · exact absurd q (by simp)
    · exact q
  rw [hext, List.nil_append] at n2
  obtain ⟨I2, A2, m1, m2, m3, m4, m5⟩ := gather_l hT h0 4096 0 I1 A1 L [cOf h k l] (by simp) (by omega) ⟨by simp, fun c hc => by rw [List.mem_singleton] at hc; rw [hc]; exact rch_0 _ _, by simp⟩ n2 (fun j hj => by omega)
  rw [n1, b1_some]
  exact ⟨I2, A2, m1, m2, m3, fun i hi => by rw [m4 i hi, n4 i hi, un _ _ hi], fun r a1 a2 => by rw [m5 r a1 a2, n5 r a1 a2, un _ _ a1]⟩
