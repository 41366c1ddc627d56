theorem inv_fr {I I' : Nat → Int32} {A A' : Nat → Nat → Int32} {L : Nat → Int64} (hI : ∀ i, (i ≤ 20 ∨ (177 ≤ i ∧ i ≤ 178) ∨ (212 ≤ i ∧ i ≤ 532) ∨ (615 ≤ i ∧ i ≤ 616) ∨ i = 913 ∨ i = 946 ∨ i = 950) → I' i = I i) (hA : ∀ r, (r ≤ 5 ∨ (14 ≤ r ∧ r ≤ 44) ∨ r = 58 ∨ r = 60 ∨ r = 61 ∨ r = 63 ∨ r = 64) → A' r = A r) (h : Inv I A L) : Inv I' A' L := by
  obtain ⟨pl, past, h1, h2, h3, h4, h5, h6, h7⟩ := h
  refine ⟨pl, past, ?_, ?_, ?_, ?_, ?_, ?_, ?_⟩
  · rw [hI 20 (by omega), hA 2 (by omega), hA 3 (by omega), hA 4 (by omega), hA 5 (by omega), hA 60 (by omega)]; exact h1
  · rw [hI 177 (by omega), hI 178 (by omega), hI 946 (by omega), hA 61 (by omega), rgX_up (I := I) (A := A) (fun i a b => hI i (by omega)) (fun r a b => hA r (by omega))]; exact h2
  · rw [hI 913 (by omega), hI 950 (by omega), hA 58 (by omega), hA 64 (by omega)]; exact h3
  · rw [hI 13 (by omega), hI 14 (by omega), hI 15 (by omega), hA 63 (by omega)]; exact h4
  · rw [hI 11 (by omega), hI 12 (by omega)]; exact h5
  · rw [hI 7 (by omega), hI 615 (by omega), hI 616 (by omega), hA 39 (by omega), hA 40 (by omega), hA 41 (by omega), hA 42 (by omega), hA 43 (by omega), hA 44 (by omega)]; exact h6
  · rw [hI 8 (by omega), hI 9 (by omega), hI 10 (by omega)]; exact h7
theorem c100_m : ∀ c, c < 343 → ((((100 * (Int32.ofNat c / 49)) + (10 * ((Int32.ofNat c / 7) - (Int32.ofNat c / 7) / 7 * 7))) + (Int32.ofNat c - Int32.ofNat c / 7 * 7)) == Int32.ofNat (c100 c)) = true := by decide +kernel
theorem fam_gm {T c0 j : Nat} (hj : j < (fam T c0).length) : (fam T c0).getD j 0 ∈ fam T c0 := by
  rw [List.getD_eq_getElem?_getD, List.getElem?_eq_getElem hj]
  exact List.getElem_mem hj
theorem fam_gl {T c0 i j : Nat} (h : i < j) (hj : j < (fam T c0).length) : (fam T c0).getD i 0 < (fam T c0).getD j 0 := by
  rw [List.getD_eq_getElem?_getD, List.getD_eq_getElem?_getD, List.getElem?_eq_getElem hj, List.getElem?_eq_getElem (by omega)]
  exact List.pairwise_iff_getElem.mp (fam_lt T c0) i j (by omega) hj h
/-- at c with w of the family behind: c is of it just if it is the w-th -/
theorem fam_at {T c0 c w : Nat} (hw : w ≤ (fam T c0).length) (hlo : ∀ j, j < w → (fam T c0).getD j 0 < c) (hhi : ∀ j, w ≤ j → j < (fam T c0).length → c ≤ (fam T c0).getD j 0) : (c ∈ fam T c0 → w < (fam T c0).length ∧ (fam T c0).getD w 0 = c) ∧ (c ∉ fam T c0 → ∀ j, w ≤ j → j < (fam T c0).length → c + 1 ≤ (fam T c0).getD j 0) := by
  constructor
  · intro hc
    obtain ⟨j, hj, hjc⟩ := List.mem_iff_getElem.mp hc
    have e : (fam T c0).getD j 0 = c := by rw [List.getD_eq_getElem?_getD, List.getElem?_eq_getElem hj]; exact hjc
    have hjw : w ≤ j := by
      rcases Nat.lt_or_ge j w with q | q
      · have := hlo j q; omega
      · exact q
    rcases Nat.lt_or_ge w j with q | q
    · have a1 := fam_gl q hj
      have a2 := hhi w (Nat.le_refl _) (by omega)
      omega
    · have : w = j := by omega
      subst this
      exact ⟨hj, e⟩
  · intro hc j a b
    have a1 := hhi j a b
    have a2 : (fam T c0).getD j 0 ≠ c := fun q => hc (by rw [← q]; exact fam_gm b)
    omega
theorem member_l {T c0 : Nat} (h0 : c0 < 343) {m : Int32} (hm : 0 ≤ m) : ∀ (n c w : Nat) (I : Nat → Int32) (A : Nat → Nat → Int32) (L : Nat → Int64), c ≤ 343 → 343 - c < n → w ≤ (fam T c0).length → (∀ c, c < 343 → A 67 c = if c ∈ fam T c0 then 1 else 0) → (∀ j, j < w → (fam T c0).getD j 0 < c) → (∀ j, w ≤ j → j < (fam T c0).length → c ≤ (fam T c0).getD j 0) → w ≤ m.toNatClampNeg → f_X7_member_p59 n m (Int32.ofNat w) (Int32.ofNat c) I A L = some ((if Int32.ofNat (fam T c0).length ≤ m then -5 else Int32.ofNat (c100 ((fam T c0).getD m.toNatClampNeg 0))), I, A, L) := by
  have h48 := fam_len (T := T) h0
  have hmi : m.toInt = (m.toNatClampNeg : Int) := by
    have := i_le.mp hm
    have : 0 ≤ m.toInt := this
    rw [i_tn]; omega
  intro n
  induction n with
  | zero => intro c w I A L h1 h2; omega
  | succ n ih =>
    intro c w I A L h1 h2 hw hA hlo hhi hwm
    rw [f_X7_member_p59_e, i_1, i_1]
    have hlen : ∀ x, x < (fam T c0).length → (fam T c0).getD x 0 < 343 := fun x hx => (rch_lt h0 ((fam_mem h0).mp (fam_gm hx))).1
    by_cases hc : c = 343
    · subst hc
      have : w = (fam T c0).length := by
        rcases Nat.lt_or_ge w (fam T c0).length with q | q
        · have a1 := hhi w (Nat.le_refl _) q
          have a2 := hlen w q
          omega
        · omega
      rw [if_pos (by decide), if_pos (by rw [i_le, i_nat (by omega), hmi]; omega)]
    · rw [if_neg (show ¬ (343 : Int32) ≤ Int32.ofNat c from o_nle (a := 343) (by omega) (by omega) (by omega)), o_ck (by omega) (by omega), i_tnn (by omega), hA c (by omega)]
      obtain ⟨f1, f2⟩ := fam_at hw hlo hhi
      by_cases hin : c ∈ fam T c0
      · obtain ⟨g1, g2⟩ := f1 hin
        rw [if_pos hin, if_neg (by decide)]
        by_cases hq : Int32.ofNat w = m
        · have hwq : m.toNatClampNeg = w := by rw [← hq, i_tnn (by omega)]
          rw [if_pos hq, eq_of_beq (c100_m c (by omega)), if_neg (by rw [i_le, i_nat (by omega), hmi, hwq]; omega), hwq, g2]
        · rw [if_neg hq]
          refine ih (c + 1) (w + 1) I A L (by omega) (by omega) (by omega) hA (fun j hj => ?_) (fun j a b => ?_) ?_
          · by_cases e : j = w
            · rw [e, g2]; omega
            · have := hlo j (by omega); omega
          · have := fam_gl (T := T) (c0 := c0) (i := w) (j := j) (by omega) b
            omega
          · have : ¬ m.toNatClampNeg = w := fun q => hq (by rw [i_eq, i_nat (by omega), hmi, q])
            omega
      · rw [if_neg hin, if_pos rfl]
        exact ih (c + 1) w I A L (by omega) (by omega) hw hA (fun j hj => by have := hlo j hj; omega) (f2 hin) hwm
theorem set_nat {T : Int32} (h : 0 ≤ T ∧ T ≤ 63) : ∃ t, t < 64 ∧ T = Int32.ofNat t := by
  have h1 := i_le.mp h.1
  have h2 := i_le.mp h.2
  have h1 : 0 ≤ T.toInt := h1
  have h2 : T.toInt ≤ 63 := h2
  refine ⟨T.toInt.toNat, by omega, ?_⟩
  rw [i_eq, i_nat (by omega)]
  omega
theorem st_member : gStep_member Inv := by
  intro T h k l m I A L hI
  have bx : f_X6_member_p23 I A L = some (-10, va_up I 13 (I 13 + 1), A, L) := by unfold f_X6_member_p23; rw [rf_bad]; rfl
  have bm : f_X7_member_p26 (va_up I 13 (I 13 + 1)) A L = some (-10, va_up I 13 (I 13 + 1), va_up A 63 (upd (A 63) 0 (A 63 0 + 1)), L) := by unfold f_X7_member_p26; rw [rm_b]; rfl
  by_cases hT : 0 ≤ T ∧ T ≤ 63
  · by_cases hs : sgn h k l
    · by_cases hm : -1 ≤ m
      · obtain ⟨t, ht, rfl⟩ := set_nat hT
        obtain ⟨h0, -⟩ := cOf_lt hs
        obtain ⟨I1, A1, e1, e2, e3, e4, e5⟩ := gather_s ht hs I A L
        obtain ⟨A2, m1, m2, m3⟩ := lays_s ht hs I1 A1 L
        have h48 := fam_len (T := t) h0
        have hI2 : Inv I1 A2 L := inv_fr (fun i hi => e4 i (by omega)) (fun r hr => by rw [m3 r (by omega) (by omega), e5 r (by omega) (by omega)]) hI
        generalize hfl : fam t (cOf h k l) = fs at e2 e3 m1 h48
        by_cases hm1 : m = -1
        · refine ⟨Int32.ofNat fs.length, I1, A1, L, I1, A2, L, ?_, ?_, hI2⟩
          · unfold f_X6_member
            rw [x_set, if_pos hT, bd_some, if_neg (by decide), x_sign1 I A L hs, bd_some, if_neg (by decide), if_pos hm, e1, b1_some, if_pos hm1, e2]
          · unfold f_X7_member
            rw [m_in, if_pos hT, bd_some, if_neg (by decide), m_sign1 _ _ _ hs, bd_some, if_neg (by decide), if_pos hm, m1, b2_some, if_pos hm1]
        · have hm0 : 0 ≤ m := by
            rw [i_le] at hm ⊢
            have hm : -1 ≤ m.toInt := hm
            have : ¬ m.toInt = -1 := fun q => hm1 (i_eq.mpr q)
            show 0 ≤ m.toInt
            omega
          have hmi : m.toInt = (m.toNatClampNeg : Int) := by
            have := i_le.mp hm0
            have : 0 ≤ m.toInt := this
            rw [i_tn]; omega
          have key := member_l (T := t) h0 hm0 4096 0 0 I1 A2 L (by omega) (by omega) (Nat.zero_le _) m2 (fun j hj => by omega) (fun j _ _ => Nat.zero_le _) (Nat.zero_le _)
          have key : f_X7_member_p59 4096 m 0 0 I1 A2 L = _ := key
          rw [hfl] at key
          refine ⟨(if Int32.ofNat fs.length ≤ m then -5 else Int32.ofNat (c100 (fs.getD m.toNatClampNeg 0))), I1, A1, L, I1, A2, L, ?_, ?_, hI2⟩
          · unfold f_X6_member
            rw [x_set, if_pos hT, bd_some, if_neg (by decide), x_sign1 I A L hs, bd_some, if_neg (by decide), if_pos hm, e1, b1_some, if_neg hm1, e2]
            by_cases hq : Int32.ofNat fs.length ≤ m
            · rw [if_pos hq, if_pos hq]
            · have hlt : m.toNatClampNeg < fs.length := by
                rw [i_le, i_nat (by omega), hmi] at hq
                omega
              rw [if_neg hq, if_neg hq]
              unfold g_ck
              rw [if_pos ⟨hm0, by omega⟩, e3 _ hlt]
          · unfold f_X7_member
            rw [m_in, if_pos hT, bd_some, if_neg (by decide), m_sign1 _ _ _ hs, bd_some, if_neg (by decide), if_pos hm, m1, b2_some, if_neg hm1, key]
      · obtain ⟨I2, A2, L2, e1, e2, e3⟩ := bad2 hI (F := f_X6_member T h k l m I A L) (G := f_X7_member T h k l m (va_up I 13 (I 13 + 1)) A L) (a := -10) (by unfold f_X6_member; rw [x_set, if_pos hT, bd_some, if_neg (by decide), x_sign1 I A L hs, bd_some, if_neg (by decide), if_neg hm, bx]) (by unfold f_X7_member; rw [m_in, if_pos hT, bd_some, if_neg (by decide), m_sign1 _ _ _ hs, bd_some, if_neg (by decide), if_neg hm, bm])
        exact ⟨-10, _, _, _, I2, A2, L2, e1, e2, e3⟩
    · obtain ⟨I2, A2, L2, e1, e2, e3⟩ := bad2 hI (F := f_X6_member T h k l m I A L) (G := f_X7_member T h k l m (va_up I 13 (I 13 + 1)) A L) (a := -10) (by unfold f_X6_member; rw [x_set, if_pos hT, bd_some, if_neg (by decide), x_sign0 I A L hs, bd_some, if_pos rfl, bx]) (by unfold f_X7_member; rw [m_in, if_pos hT, bd_some, if_neg (by decide), m_sign0 _ _ _ hs, bd_some, if_pos rfl, bm])
      exact ⟨-10, _, _, _, I2, A2, L2, e1, e2, e3⟩
  · obtain ⟨I2, A2, L2, e1, e2, e3⟩ := bad2 hI (F := f_X6_member T h k l m I A L) (G := f_X7_member T h k l m (va_up I 13 (I 13 + 1)) A L) (a := -10) (by unfold f_X6_member; rw [x_set, if_neg hT, bd_some, if_pos rfl, bx]) (by unfold f_X7_member; rw [m_in, if_neg hT, bd_some, if_pos rfl, bm])
    exact ⟨-10, _, _, _, I2, A2, L2, e1, e2, e3⟩
