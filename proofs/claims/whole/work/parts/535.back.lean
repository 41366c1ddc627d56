theorem back_l (k : Nat) (hk : k < 5) : ∀ (n j : Nat) (I : Nat → Int32) (A : Nat → Nat → Int32) (L : Nat → Int64), I 946 = Int32.ofNat k → j ≤ 129 → 129 - j < n → ∃ row, f_X7_back_p26 n (Int32.ofNat j) I A L = some (Int32.ofNat k, I, va_up A 60 row, L) ∧ (∀ i, i < j → row i = A 60 i) ∧ ∀ i, j ≤ i → i < 129 → row i = A 61 (129 * k + i) := by
  intro n
  induction n with
  | zero => intro j I A L h0 h1 h2; omega
  | succ n ih =>
    intro j I A L h0 h1 h2
    rw [f_X7_back_p26_e]
    by_cases hj : j = 129
    · subst hj
      refine ⟨A 60, ?_, fun _ _ => rfl, fun i h3 h4 => by omega⟩
      rw [if_pos (by decide), uself, h0]
    · obtain ⟨row, e, g1, g2⟩ := ih (j + 1) I (va_up A 60 (upd (A 60) j (A 61 (129 * k + j)))) L h0 (by omega) (by omega)
      have e9 : (129 * (I 946)) + Int32.ofNat j = Int32.ofNat (129 * k + j) := by rw [h0]; exact o_lin 129 k j
      refine ⟨row, ?_, fun i hi => ?_, fun i h3 h4 => ?_⟩
      · rw [if_neg (show ¬ (129 : Int32) ≤ Int32.ofNat j from o_nle (a := 129) (by omega) (by omega) (by omega)), e9, o_ck (by omega) (by omega), o_ck (by omega) (by omega), g_lt_eq, i_1, i_tnn (by omega), i_tnn (by omega), e, uu]
      · rw [g1 i (by omega), us, dn _ _ (by omega)]
      · by_cases e1 : i = j
        · subst e1
          rw [g1 i (by omega), us, ds]
        · rw [g2 i (by omega) h4, un _ _ (by omega)]
theorem pv5 {w : Nat} (h : w < 5) : ((Int32.ofNat w + 5) - 1) - ((Int32.ofNat w + 5) - 1) / 5 * 5 = Int32.ofNat ((w + 4) % 5) := by
  rcases (show w = 0 ∨ w = 1 ∨ w = 2 ∨ w = 3 ∨ w = 4 by omega) with rfl | rfl | rfl | rfl | rfl <;> decide
theorem st_back : gStep_back Inv := by
  intro I A L hI
  obtain ⟨pl, past, ⟨ok, hx, hm⟩, hst, h3, h4, h5, h6, h7⟩ := id hI
  obtain ⟨⟨s1, s2, w, hw, hn, s3⟩, ⟨-, t2, t3⟩, so⟩ := vSt_split hst
  by_cases h0 : past.length = 0
  · refine ⟨-3, va_up I 14 (I 14 + 1), A, L, _, _, _, ?_, ?_, inv_no hI⟩
    · unfold f_X6_back
      rw [if_neg (by rw [s2, h0]; decide), rf_no]; rfl
    · unfold f_X7_back
      rw [if_pos (by show I 946 = 0; rw [t2, h0]; rfl), rm_no]; rfl
  · obtain ⟨k, hk⟩ : ∃ k, past.length = k + 1 := ⟨past.length - 1, by omega⟩
    obtain ⟨q1, q2⟩ := s3 k (by omega)
    rw [show (w + 5 + k + 1 - past.length) % 5 = w by omega, rgX_j hw] at q1
    have hok : okL (past.getD k []) := so _ (by rw [List.getD_eq_getElem?_getD, List.getElem?_eq_getElem (by omega)]; exact List.getElem_mem _)
    generalize hq : past.getD k [] = pl' at q1 q2 hok
    obtain ⟨A', e2, g1, g2⟩ := copy_s (b := 1) (q := 13 + 5 * w) (I := I) (A := A) (L := L) (by omega) q1 q2
    let I1 := va_up I (16 * 1 + 4) (I (16 * (13 + 5 * w) + 4))
    let I5 := va_up (va_up (va_up (va_up I1 177 (Int32.ofNat ((w + 4) % 5))) 178 (Int32.ofNat k)) 7 0) 8 0
    have i1 : ∀ i, i ≠ 20 → I1 i = I i := fun i hi => un _ _ (by omega)
    have f177 : I1 177 = Int32.ofNat w := by rw [i1 177 (by omega), hn]
    have f178 : I1 178 = Int32.ofNat (k + 1) := by rw [i1 178 (by omega), s2, hk]
    have g60 : A' 60 = A 60 := g2 60 (by omega)
    have g61 : A' 61 = A 61 := g2 61 (by omega)
    obtain ⟨row, e3, -, r2⟩ := back_l k (by omega) 4096 0 (va_up I5 946 (Int32.ofNat k)) A' L (us _ _ _) (by omega) (by omega)
    have e3 : f_X7_back_p26 4096 0 (va_up I5 946 (Int32.ofNat k)) A' L = _ := e3
    have hI946 : I5 946 = Int32.ofNat (k + 1) := by
      show va_up (va_up (va_up (va_up I1 177 _) 178 _) 7 0) 8 0 946 = _
      rw [un _ _ (by omega), un _ _ (by omega), un _ _ (by omega), un _ _ (by omega), i1 946 (by omega), t2, hk]
    refine ⟨Int32.ofNat k, I5, A', L, va_up I5 946 (Int32.ofNat k), va_up A' 60 row, L, ?_, ?_, ?_⟩
    · unfold f_X6_back f_X5_takeBack
      rw [if_pos (by rw [s2, hk, i_lt, i_nat (by omega)]; show (0 : Int) < ((k + 1 : Nat) : Int); omega), hn, o_ck hw (by omega), i_tnn (by omega), e2, b1_some, g_lt_eq]
      show g_b1 (g_lt (va_up (va_up I1 177 (((I1 177 + 5) - 1) - ((I1 177 + 5) - 1) / 5 * 5)) 178 ((va_up I1 177 (((I1 177 + 5) - 1) - ((I1 177 + 5) - 1) / 5 * 5)) 178 - 1)) _) _ = _
      rw [g_lt_eq, b1_some, f177, pv5 hw, un _ _ (by omega), f178, o_pred]
      rfl
    · unfold f_X7_back
      rw [if_neg (by rw [hI946, i_eq, i_nat (by omega)]; show ¬ ((k + 1 : Nat) : Int) = 0; omega), g_lt_eq, hI946, o_pred, e3]
    · have hl : past.dropLast.length = k := by rw [List.length_dropLast]; omega
      have hg : ∀ i, i < k → past.dropLast.getD i [] = past.getD i [] := fun i hi => by
        rw [List.getD_eq_getElem?_getD, List.getElem?_dropLast, if_pos (by omega), List.getD_eq_getElem?_getD]
      have eI : ∀ i, i ≠ 20 → i ≠ 177 → i ≠ 178 → i ≠ 7 → i ≠ 8 → i ≠ 946 → va_up I5 946 (Int32.ofNat k) i = I i := fun i a1 a2 a3 a4 a5 a6 => by
        rw [un _ _ a6]
        show va_up (va_up (va_up (va_up I1 177 _) 178 _) 7 0) 8 0 i = _
        rw [un _ _ a5, un _ _ a4, un _ _ a3, un _ _ a2, i1 i a1]
      have eA : ∀ r, (r ≤ 1 ∨ 5 < r) → r ≠ 60 → va_up A' 60 row r = A r := fun r a1 a2 => by rw [un _ _ a2, g2 r (by omega)]
      refine ⟨pl', past.dropLast, ⟨hok, ?_, ?_⟩, ?_, ?_, ?_, ?_, Or.inl rfl, Or.inl rfl⟩
      · have z20 : va_up I5 946 (Int32.ofNat k) 20 = I (16 * (13 + 5 * w) + 4) := us I 20 _
        rw [z20]
        exact g1
      · rw [us]
        obtain ⟨m1, m2⟩ := t3 k (by omega)
        rw [hq] at m1 m2
        refine rpM_eq m2 m1 (fun i hi => ?_)
        rw [Nat.zero_add, r2 i (by omega) hi, g61]
      · refine vSt_join ⟨by omega, ?_, (w + 4) % 5, Nat.mod_lt _ (by omega), ?_, fun i hi => ?_⟩ ⟨by omega, ?_, fun i hi => ?_⟩ (fun z hz => so z (List.dropLast_subset _ hz))
        · rw [hl]; rfl
        · rfl
        · rw [hl] at hi ⊢
          rw [hg i hi]
          obtain ⟨y1, y2⟩ := s3 i (by omega)
          refine ⟨?_, y2⟩
          rw [rgX_up (I := I) (A := A) (fun i a b => eI i (by omega) (by omega) (by omega) (by omega) (by omega) (by omega)) (fun r a b => eA r (by omega) (by omega)), show ((w + 4) % 5 + 5 + i + 1 - k) % 5 = (w + 5 + i + 1 - past.length) % 5 by omega]
          exact y1
        · rw [hl]; exact us _ _ _
        · rw [hl] at hi
          rw [hg i hi, eA 61 (by omega) (by omega)]
          exact t3 i (by omega)
      · rw [eI 913 (by omega) (by omega) (by omega) (by omega) (by omega) (by omega), eI 950 (by omega) (by omega) (by omega) (by omega) (by omega) (by omega), eA 58 (by omega) (by omega), eA 64 (by omega) (by omega)]
        exact h3
      · rw [eI 13 (by omega) (by omega) (by omega) (by omega) (by omega) (by omega), eI 14 (by omega) (by omega) (by omega) (by omega) (by omega) (by omega), eI 15 (by omega) (by omega) (by omega) (by omega) (by omega) (by omega), eA 63 (by omega) (by omega)]
        exact h4
      · rw [eI 11 (by omega) (by omega) (by omega) (by omega) (by omega) (by omega), eI 12 (by omega) (by omega) (by omega) (by omega) (by omega) (by omega)]
        exact h5
