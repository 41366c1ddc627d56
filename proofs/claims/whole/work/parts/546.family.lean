/-- a plane of a sign's number -/
def sgP (o : Int32) (c : Nat) : Pl := (Int32.ofNat (ch c) - 3, Int32.ofNat (ck c) - 3, Int32.ofNat (cl c) - 3, o)
theorem sg_x : ∀ c, c < 343 → (((Int32.ofNat (c100 c) / 100) - 3 == Int32.ofNat (ch c) - 3) && ((((Int32.ofNat (c100 c) / 10) - (Int32.ofNat (c100 c) / 10) / 10 * 10) - 3 == Int32.ofNat (ck c) - 3) && ((Int32.ofNat (c100 c) - Int32.ofNat (c100 c) / 10 * 10) - 3 == Int32.ofNat (cl c) - 3))) = true := by decide +kernel
theorem sg_m : ∀ c, c < 343 → (((Int32.ofNat c / 49) - 3 == Int32.ofNat (ch c) - 3) && ((((Int32.ofNat c / 7) - (Int32.ofNat c / 7) / 7 * 7) - 3 == Int32.ofNat (ck c) - 3) && ((Int32.ofNat c - Int32.ofNat c / 7 * 7) - 3 == Int32.ofNat (cl c) - 3))) = true := by decide +kernel
theorem key_3 : ∀ c, c < 343 → key c = 3 → c = 171 := by decide +kernel
theorem sg_ok {c : Nat} (hc : c < 343) (hn : c ≠ 171) {o : Int32} (ho : 1 ≤ o ∧ o ≤ 60) : okP (sgP o c) := by
  obtain ⟨d1, d2, d3⟩ := c_dig c
  have q3 : (3 : Int32).toInt = 3 := rfl
  have e1 : (Int32.ofNat (ch c) - 3).toInt = (ch c : Int) - 3 := by rw [i_sub (by rw [i_nat (by omega), q3]; omega) (by rw [i_nat (by omega), q3]; omega), i_nat (by omega), q3]
  have e2 : (Int32.ofNat (ck c) - 3).toInt = (ck c : Int) - 3 := by rw [i_sub (by rw [i_nat (by omega), q3]; omega) (by rw [i_nat (by omega), q3]; omega), i_nat (by omega), q3]
  have e3 : (Int32.ofNat (cl c) - 3).toInt = (cl c : Int) - 3 := by rw [i_sub (by rw [i_nat (by omega), q3]; omega) (by rw [i_nat (by omega), q3]; omega), i_nat (by omega), q3]
  unfold okP sgP
  refine ⟨?_, ?_, ?_, ?_, i_le.mp ho.1, i_le.mp ho.2⟩
  · show -3 ≤ (Int32.ofNat (ch c) - 3).toInt ∧ (Int32.ofNat (ch c) - 3).toInt ≤ 3
    rw [e1]; omega
  · show -3 ≤ (Int32.ofNat (ck c) - 3).toInt ∧ (Int32.ofNat (ck c) - 3).toInt ≤ 3
    rw [e2]; omega
  · show -3 ≤ (Int32.ofNat (cl c) - 3).toInt ∧ (Int32.ofNat (cl c) - 3).toInt ≤ 3
    rw [e3]; omega
  · rintro ⟨a, b, d⟩
    have a : (Int32.ofNat (ch c) - 3) = 0 := a
    have b : (Int32.ofNat (ck c) - 3) = 0 := b
    have d : (Int32.ofNat (cl c) - 3) = 0 := d
    rw [i_eq, e1] at a
    rw [i_eq, e2] at b
    rw [i_eq, e3] at d
    have a : (ch c : Int) - 3 = 0 := a
    have b : (ck c : Int) - 3 = 0 := b
    have d : (cl c : Int) - 3 = 0 := d
    omega
theorem cOf_171 {h k l : Int32} (hs : sgn h k l) : cOf h k l ≠ 171 := by
  intro q
  obtain ⟨e0, e1, e2, e3⟩ := cOf_lt hs
  rw [q] at e1 e2 e3
  obtain ⟨⟨a1, a2⟩, ⟨b1, b2⟩, ⟨c1, c2⟩, n⟩ := hs
  rw [i_le] at a1 b1 c1
  have a1 : -3 ≤ h.toInt := a1
  have b1 : -3 ≤ k.toInt := b1
  have c1 : -3 ≤ l.toInt := c1
  have e1 : 3 = (h.toInt + 3).toNat := e1
  have e2 : 3 = (k.toInt + 3).toNat := e2
  have e3 : 3 = (l.toInt + 3).toNat := e3
  exact n ⟨i_eq.mpr (show h.toInt = 0 by omega), i_eq.mpr (show k.toInt = 0 by omega), i_eq.mpr (show l.toInt = 0 by omega)⟩
theorem fam_171 {T c0 c : Nat} (h0 : c0 < 343) (hn : c0 ≠ 171) (hc : c ∈ fam T c0) : c < 343 ∧ c ≠ 171 := by
  obtain ⟨a, b⟩ := rch_lt h0 ((fam_mem h0).mp hc)
  exact ⟨a, fun q => hn (key_3 c0 h0 (by rw [← b, q]; decide))⟩
theorem okL_apps : ∀ (qs pl : List Pl), okL pl → (∀ q ∈ qs, okP q) → pl.length + qs.length ≤ 32 → okL (pl ++ qs)
  | [], pl, h, _, _ => by rw [List.append_nil]; exact h
  | q :: qs, pl, h, hq, hl => by
    rw [List.length_cons] at hl
    have := okL_apps qs (pl ++ [q]) (okL_app h (hq q List.mem_cons_self) (by omega)) (fun r hr => hq r (List.mem_cons_of_mem _ hr)) (by rw [List.length_append]; show pl.length + 1 + qs.length ≤ 32; omega)
    rw [List.append_assoc] at this
    exact this
theorem tk_s {fs : List Nat} {i : Nat} (hi : i < fs.length) (g : Nat → Pl) : (fs.take (i + 1)).map g = (fs.take i).map g ++ [g (fs.getD i 0)] := by
  rw [List.take_succ, List.map_append, List.getD_eq_getElem?_getD, List.getElem?_eq_getElem hi]
  rfl
theorem putF_l {b : Nat} {o : Int32} {pl : List Pl} {fs : List Nat} (hb : b + 4 < 54) (hl : pl.length + fs.length ≤ 32) (hfs : ∀ c ∈ fs, c < 343) : ∀ (n i : Nat) (I : Nat → Int32) (A : Nat → Nat → Int32) (L : Nat → Int64), i ≤ fs.length → fs.length - i < n → I 866 = Int32.ofNat fs.length → (∀ m, m < fs.length → A 56 m = Int32.ofNat (c100 (fs.getD m 0))) → rpX (I (16 * b + 4)) (A (b + 1)) (A (b + 2)) (A (b + 3)) (A (b + 4)) (pl ++ (fs.take i).map (sgP o)) → ∃ I' A', f_X2_putFamily_p2 b 54 n o (Int32.ofNat i) I A L = some (I', A', L) ∧ rpX (I' (16 * b + 4)) (A' (b + 1)) (A' (b + 2)) (A' (b + 3)) (A' (b + 4)) (pl ++ fs.map (sgP o)) ∧ (∀ j, j ≠ 16 * b + 4 → I' j = I j) ∧ ∀ r, (r ≤ b ∨ b + 4 < r) → A' r = A r := by
  intro n
  induction n with
  | zero => intro i I A L h1 h2; omega
  | succ n ih =>
    intro i I A L h1 h2 hI hA hx
    rw [f_X2_putFamily_p2_e, show I (16 * 54 + 2) = Int32.ofNat fs.length from hI]
    by_cases hi : fs.length ≤ i
    · rw [if_pos (o_le (by omega) (by omega) hi)]
      have e : i = fs.length := by omega
      subst e
      rw [List.take_length] at hx
      exact ⟨I, A, rfl, hx, fun _ _ => rfl, fun _ _ => rfl⟩
    · have hgm : fs.getD i 0 ∈ fs := by
        rw [List.getD_eq_getElem?_getD, List.getElem?_eq_getElem (by omega)]
        exact List.getElem_mem _
      have hs := sg_x _ (hfs _ hgm)
      rw [Bool.and_eq_true, Bool.and_eq_true] at hs
      have hlen : (pl ++ (fs.take i).map (sgP o)).length < 32 := by
        rw [List.length_append, List.length_map, List.length_take]; omega
      rw [if_neg (o_nle (by omega) (by omega) (by omega)), o_ck (by omega) (by omega), g_lt_eq, i_1, i_tnn (by omega), show A (54 + 2) i = Int32.ofNat (c100 (fs.getD i 0)) from hA i (by omega), eq_of_beq hs.1, eq_of_beq hs.2.1, eq_of_beq hs.2.2]
      obtain ⟨A1, e1, r1, f1⟩ := put_s (b := b) (L := L) (h := Int32.ofNat (ch (fs.getD i 0)) - 3) (k := Int32.ofNat (ck (fs.getD i 0)) - 3) (l := Int32.ofNat (cl (fs.getD i 0)) - 3) (o := o) hx hlen
      rw [e1, b1_some]
      obtain ⟨I2, A2, m1, m2, m3, m4⟩ := ih (i + 1) (va_up I (16 * b + 4) (Int32.ofNat ((pl ++ (fs.take i).map (sgP o)).length + 1))) A1 L (by omega) (by omega) (by rw [un _ _ (by omega)]; exact hI) (by rw [f1 56 (by omega)]; exact hA) (by
        rw [us, tk_s (by omega), ← List.append_assoc]
        exact r1)
      exact ⟨I2, A2, m1, m2, fun j hj => by rw [m3 j hj, un _ _ hj], fun r hr => by rw [m4 r hr, f1 r hr]⟩
theorem fcm_l {T c0 : Nat} (h0 : c0 < 343) {o : Int32} {pl : List Pl} (hl : pl.length + (fam T c0).length ≤ 32) : ∀ (n c w : Nat) (I : Nat → Int32) (A : Nat → Nat → Int32) (L : Nat → Int64), c ≤ 343 → 343 - c < n → w ≤ (fam T c0).length → (∀ c, c < 343 → A 67 c = if c ∈ fam T c0 then 1 else 0) → (∀ j, j < w → (fam T c0).getD j 0 < c) → (∀ j, w ≤ j → j < (fam T c0).length → c ≤ (fam T c0).getD j 0) → rpM (A 60) 0 (pl ++ ((fam T c0).take w).map (sgP o)) → ∃ s', f_X7_familyComes_p2 n o (Int32.ofNat c) I A L = some (I, va_up A 60 s', L) ∧ rpM s' 0 (pl ++ (fam T c0).map (sgP o)) := by
  have h48 := fam_len (T := T) h0
  intro n
  induction n with
  | zero => intro c w I A L h1 h2; omega
  | succ n ih =>
    intro c w I A L h1 h2 hw hA hlo hhi hp
    rw [f_X7_familyComes_p2_e, i_1]
    have hlen : ∀ x, x < (fam T c0).length → (fam T c0).getD x 0 < 343 := fun x hx => (rch_lt h0 ((fam_mem h0).mp (fam_gm hx))).1
    by_cases hc : c = 343
    · subst hc
      have : w = (fam T c0).length := by
        rcases Nat.lt_or_ge w (fam T c0).length with q | q
        · have a1 := hhi w (Nat.le_refl _) q
          have a2 := hlen w q
          omega
        · omega
      rw [if_pos (by decide)]
      rw [this, List.take_length] at hp
      exact ⟨A 60, by rw [uself], hp⟩
    · rw [if_neg (show ¬ (343 : Int32) ≤ Int32.ofNat c from o_nle (a := 343) (by omega) (by omega) (by omega)), o_ck (by omega) (by omega), i_tnn (by omega), hA c (by omega)]
      obtain ⟨f1, f2⟩ := fam_at hw hlo hhi
      by_cases hin : c ∈ fam T c0
      · obtain ⟨g1, g2⟩ := f1 hin
        have hs := sg_m c (by omega)
        rw [Bool.and_eq_true, Bool.and_eq_true] at hs
        rw [if_pos hin, if_neg (by decide), eq_of_beq hs.1, eq_of_beq hs.2.1, eq_of_beq hs.2.2]
        have hlt : (pl ++ ((fam T c0).take w).map (sgP o)).length < 32 := by
          rw [List.length_append, List.length_map, List.length_take]; omega
        obtain ⟨s1, e1, r1, z1⟩ := comes_s (I := I) (A := A) (L := L) (h := Int32.ofNat (ch c) - 3) (k := Int32.ofNat (ck c) - 3) (l := Int32.ofNat (cl c) - 3) (o := o) hp hlt
        rw [e1, b1_some]
        obtain ⟨s', m1, m2⟩ := ih (c + 1) (w + 1) I (va_up A 60 s1) L (by omega) (by omega) (by omega) (by rw [un _ _ (by omega)]; exact hA) (fun j hj => by
          by_cases e : j = w
          · rw [e, g2]; omega
          · have := hlo j (by omega); omega) (fun j a b => by
          have := fam_gl (T := T) (c0 := c0) (i := w) (j := j) (by omega) b
          omega) (by
          rw [us, tk_s g1, ← List.append_assoc, g2]
          exact r1)
        exact ⟨s', by rw [m1, uu], m2⟩
      · rw [if_neg hin, if_pos rfl]
        exact ih (c + 1) w I A L (by omega) (by omega) hw hA (fun j hj => by have := hlo j hj; omega) (f2 hin) hp
theorem st_family : gStep_family Inv := by
  intro T h k l o I A L hI
  have bx : f_X6_family_p25 I A L = some (-2, va_up I 13 (I 13 + 1), A, L) := by unfold f_X6_family_p25; rw [rf_bad]; rfl
  have bm : f_X7_family_p31 (va_up I 13 (I 13 + 1)) A L = some (-2, va_up I 13 (I 13 + 1), va_up A 63 (upd (A 63) 0 (A 63 0 + 1)), L) := by unfold f_X7_family_p31; rw [rm_bad]; rfl
  by_cases hT : 0 ≤ T ∧ T ≤ 63
  · by_cases hs : sgn h k l
    · by_cases ho : 1 ≤ o ∧ o ≤ 60
      · obtain ⟨t, ht, rfl⟩ := set_nat hT
        obtain ⟨h0, -⟩ := cOf_lt hs
        have hn171 := cOf_171 hs
        obtain ⟨I1, A1, e1, e2, e3, e4, e5⟩ := gather_s ht hs I A L
        have hI1 : Inv I1 A1 L := inv_fr (fun i hi => e4 i (by omega)) (fun r hr => e5 r (by omega) (by omega)) hI
        obtain ⟨pl, I2, A2, ok, hx, hm, l1, hx2, l60, lA, lI, key⟩ := change2 hI1
        have h48 := fam_len (T := t) h0
        have hmem : ∀ c ∈ fam t (cOf h k l), c < 343 ∧ c ≠ 171 := fun c hc => fam_171 h0 hn171 hc
        have hok32 := ok.2.1
        have hsum : Int32.ofNat pl.length + Int32.ofNat (fam t (cOf h k l)).length = Int32.ofNat (pl.length + (fam t (cOf h k l)).length) := by rw [← Int32.ofNat_add]
        by_cases hfit : pl.length + (fam t (cOf h k l)).length ≤ 32
        · have hle : Int32.ofNat (pl.length + (fam t (cOf h k l)).length) ≤ 32 := o_le (b := 32) (by omega) (by omega) hfit
          have h866 : I2 866 = I1 866 := lI 866 (by omega) (by omega) (by omega) (by omega) (by omega)
          obtain ⟨I3, A3, p1, p2, p3, p4⟩ := putF_l (b := 1) (o := o) (pl := pl) (fs := fam t (cOf h k l)) (by omega) hfit (fun c hc => (hmem c hc).1) 4096 0 I2 A2 L (Nat.zero_le _) (by omega) (by rw [h866, e2]) (fun m hm' => by rw [lA 56 (by omega)]; exact e3 m hm') (by rw [List.take_zero, List.map_nil, List.append_nil]; exact hx2)
          have p1 : f_X2_putFamily_p2 1 54 4096 o 0 I2 A2 L = _ := p1
          obtain ⟨A4, m1, m2, m3⟩ := lays_s ht hs I3 A3 L
          obtain ⟨I5, A5, k1, k2, k3⟩ := key I3 A4 (pl ++ (fam t (cOf h k l)).map (sgP o)) (okL_apps _ _ ok (fun q hq => by
              obtain ⟨c, hc, rfl⟩ := List.mem_map.mp hq
              exact sg_ok (hmem c hc).1 (hmem c hc).2 ho) (by rw [List.length_map]; exact hfit)) (fun i hi => p3 i (by omega)) (fun r hr => by rw [m3 r (by omega) (by omega), p4 r (by omega)]) (by rw [m3 2 (by omega) (by omega), m3 3 (by omega) (by omega), m3 4 (by omega) (by omega), m3 5 (by omega) (by omega)]; exact p2) (fun I17 A18 L19 => g_b1 (f_X7_familyComes o I17 A18 L19) (fun I21 A22 L23 => some (Int32.ofNat (fam t (cOf h k l)).length, I21, A22, L23)))
          obtain ⟨k3, k4, k5⟩ := k3
          obtain ⟨s', q1, q2⟩ := fcm_l (T := t) (c0 := cOf h k l) h0 (o := o) (pl := pl) hfit 4096 0 0 I5 A5 L (by omega) (by omega) (Nat.zero_le _) (by rw [k3 67 (by omega) (by omega)]; exact m2) (fun j hj => by omega) (fun j _ _ => Nat.zero_le _) (by rw [List.take_zero, List.map_nil, List.append_nil, k2]; exact hm)
          have q1 : f_X7_familyComes_p2 4096 o 0 I5 A5 L = _ := q1
          refine ⟨Int32.ofNat (fam t (cOf h k l)).length, I3, A3, L, I5, va_up A5 60 s', L, ?_, ?_, k5 s' q2⟩
          · unfold f_X6_family
            rw [x_set, if_pos hT, bd_some, if_neg (by decide), x_sign1 I A L hs, bd_some, if_neg (by decide), x_off, if_pos ho, bd_some, if_neg (by decide), e1, b1_some, hx.1, e2, hsum, if_pos hle, l1, b1_some]
            unfold f_X2_putFamily
            rw [p1, b1_some, p3 866 (by omega), h866, e2]
          · unfold f_X7_family
            rw [m_in, if_pos hT, bd_some, if_neg (by decide), m_sign1 _ _ _ hs, bd_some, if_neg (by decide), m_in, if_pos ho, bd_some, if_neg (by decide), m1, b2_some, m_c0]
            have z60 : A4 60 (Int32.toNatClampNeg 0) = Int32.ofNat pl.length := by rw [m3 60 (by omega) (by omega), p4 60 (by omega), l60]; exact hm.1
            rw [z60, hsum, if_pos hle, k1]
            unfold f_X7_familyComes
            rw [q1, b1_some]
        · have hle : ¬ Int32.ofNat (pl.length + (fam t (cOf h k l)).length) ≤ 32 := o_nle (b := 32) (by omega) (by omega) (by omega)
          obtain ⟨A4, m1, m2, m3⟩ := lays_s ht hs (va_up I1 15 (I1 15 + 1)) A1 L
          refine ⟨-4, va_up I1 15 (I1 15 + 1), A1, L, va_up I1 15 (I1 15 + 1), va_up A4 63 (upd (A4 63) 2 (A4 63 2 + 1)), L, ?_, ?_, ?_⟩
          · unfold f_X6_family
            rw [x_set, if_pos hT, bd_some, if_neg (by decide), x_sign1 I A L hs, bd_some, if_neg (by decide), x_off, if_pos ho, bd_some, if_neg (by decide), e1, b1_some, hx.1, e2, hsum, if_neg hle, rf_full, b2_some]
          · unfold f_X7_family
            rw [m_in, if_pos hT, bd_some, if_neg (by decide), m_sign1 _ _ _ hs, bd_some, if_neg (by decide), m_in, if_pos ho, bd_some, if_neg (by decide), m1, b2_some, m_c0]
            have z60 : A4 60 (Int32.toNatClampNeg 0) = Int32.ofNat pl.length := by rw [m3 60 (by omega) (by omega)]; exact hm.1
            rw [z60, hsum, if_neg hle, rm_full, b2_some]
          · have hI4 : Inv I1 A4 L := inv_fr (fun i hi => rfl) (fun r hr => m3 r (by omega) (by omega)) hI1
            exact inv_full hI4
      · obtain ⟨I2, A2, L2, e1, e2, e3⟩ := bad2 hI (F := f_X6_family T h k l o I A L) (G := f_X7_family T h k l o (va_up I 13 (I 13 + 1)) A L) (a := -2) (by unfold f_X6_family; rw [x_set, if_pos hT, bd_some, if_neg (by decide), x_sign1 I A L hs, bd_some, if_neg (by decide), x_off, if_neg ho, bd_some, if_pos rfl, bx]) (by unfold f_X7_family; rw [m_in, if_pos hT, bd_some, if_neg (by decide), m_sign1 _ _ _ hs, bd_some, if_neg (by decide), m_in, if_neg ho, bd_some, if_pos rfl, bm])
        exact ⟨-2, _, _, _, I2, A2, L2, e1, e2, e3⟩
    · obtain ⟨I2, A2, L2, e1, e2, e3⟩ := bad2 hI (F := f_X6_family T h k l o I A L) (G := f_X7_family T h k l o (va_up I 13 (I 13 + 1)) A L) (a := -2) (by unfold f_X6_family; rw [x_set, if_pos hT, bd_some, if_neg (by decide), x_sign0 I A L hs, bd_some, if_pos rfl, bx]) (by unfold f_X7_family; rw [m_in, if_pos hT, bd_some, if_neg (by decide), m_sign0 _ _ _ hs, bd_some, if_pos rfl, bm])
      exact ⟨-2, _, _, _, I2, A2, L2, e1, e2, e3⟩
  · obtain ⟨I2, A2, L2, e1, e2, e3⟩ := bad2 hI (F := f_X6_family T h k l o I A L) (G := f_X7_family T h k l o (va_up I 13 (I 13 + 1)) A L) (a := -2) (by unfold f_X6_family; rw [x_set, if_neg hT, bd_some, if_pos rfl, bx]) (by unfold f_X7_family; rw [m_in, if_neg hT, bd_some, if_pos rfl, bm])
    exact ⟨-2, _, _, _, I2, A2, L2, e1, e2, e3⟩
