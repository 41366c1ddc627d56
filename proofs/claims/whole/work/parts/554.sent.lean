def mEnd (s0 w : Int32) (I : Nat → Int32) (A : Nat → Nat → Int32) (L : Nat → Int64) : Option (Int32 × gS) := g_b1 (f_X7_skips I A L) (fun I12 A13 L14 => Option.bind (f_X7_byteAt I12 A13 L14 (I12 951)) (fun v16 => if v16 = 59 then (g_ck 0 129 (g_ck 0 3 (g_ck 1 3 (g_ck 2 3 (g_b2 (f_X7_laysFamily s0 (A13 68 (Int32.toNatClampNeg 0)) (A13 68 (Int32.toNatClampNeg 1)) (A13 68 (Int32.toNatClampNeg 2)) I12 A13 L14) (fun v21 I18 A19 L20 => if ((A13 60 (Int32.toNatClampNeg 0)) + v21) ≤ 32 then (g_lt (va_up I18 951 ((I18 951) + 1)) (fun I22 => g_b1 (f_X7_familyComes w I22 A19 L20) (fun I24 A25 L26 => some (1, I24, A25, L26)))) else (some (0, I18, A19, L20)))))))) else (some (0, I12, A13, L14))))
theorem RX_fr {t : Nat → Int32} {n a : Nat} {I I2 : Nat → Int32} {A A2 : Nat → Nat → Int32} (h : RX I A t n a) (h1 : I2 913 = I 913) (h2 : I2 914 = I 914) (h3 : A2 58 = A 58) : RX I2 A2 t n a := ⟨by rw [h1]; exact h.1, by rw [h2]; exact h.2.1, h.2.2.1, h.2.2.2.1, fun j hj => by rw [h3]; exact h.2.2.2.2 j hj⟩
theorem RM_fr {t : Nat → Int32} {n a : Nat} {I I2 : Nat → Int32} {A A2 : Nat → Nat → Int32} (h : RM I A t n a) (h1 : I2 950 = I 950) (h2 : I2 951 = I 951) (h3 : A2 64 = A 64) : RM I2 A2 t n a := ⟨by rw [h1]; exact h.1, by rw [h2]; exact h.2.1, h.2.2.1, h.2.2.2.1, fun j hj => by rw [h3]; exact h.2.2.2.2 j hj⟩
theorem end_b {t : Nat → Int32} {n a T : Nat} {I : Nat → Int32} {A : Nat → Nat → Int32} {L : Nat → Int64} {I' : Nat → Int32} {A' : Nat → Nat → Int32} {L' : Nat → Int64} {w : Int32} {cur : List Pl} (hx : RX I A t n a) (hm : RM I' A' t n a) (hT : T < 64) (h15 : I 915 = Int32.ofNat T) (hs : sgn (A' 68 0) (A' 68 1) (A' 68 2)) (h16 : I 916 = A' 68 0) (h17 : I 917 = A' 68 1) (h18 : I 918 = A' 68 2) (h19 : I 919 = w) (hw : 1 ≤ w ∧ w ≤ 60) (ok : okL cur) (cx : rpX (I 100) (A 7) (A 8) (A 9) (A 10) cur) (cm : rpM (A' 60) 0 cur) : ∃ (r : Int32) (b : Nat) (I1 : Nat → Int32) (A1 : Nat → Nat → Int32) (I2 : Nat → Int32) (A2 : Nat → Nat → Int32) (cur' : List Pl), f_X3_endOne 6 54 I A L = some (r, I1, A1, L) ∧ mEnd (Int32.ofNat T) w I' A' L' = some (r, I2, A2, L') ∧ RX I1 A1 t n b ∧ RM I2 A2 t n b ∧ a ≤ b ∧ (∀ i, i ≠ 100 → i ≠ 866 → i ≠ 914 → I1 i = I i) ∧ (∀ r, (r < 7 ∨ (10 < r ∧ r ≠ 55 ∧ r ≠ 56)) → A1 r = A r) ∧ (∀ i, i ≠ 951 → I2 i = I' i) ∧ (∀ r, r ≠ 60 → r ≠ 67 → r ≠ 69 → A2 r = A' r) ∧ ((r = 0 ∧ byt t n b ≠ 32) ∨ (r = 1 ∧ a < b ∧ okL cur' ∧ rpX (I1 100) (A1 7) (A1 8) (A1 9) (A1 10) cur' ∧ rpM (A2 60) 0 cur')) := by
  have hn := hx.2.2.1
  have ha := hx.2.2.2.1
  have hsk := skp_le (t := t) ha
  have hsn := skp_ne (t := t) (n := n) _ a rfl ha
  unfold f_X3_endOne mEnd
  rw [look_s hx, b2_some, skips_s hm, b1_some, us, byteAt_s (RM_at hm hsk.2) (by omega), bd_some]
  generalize hz : skp t n a = z at hsk hsn
  have hx2 := RX_at hx hsk.2
  have hm2 := RM_at hm hsk.2
  have c0 : ∀ {τ : Type} (F : Option τ), g_ck 0 129 F = F := fun F => rfl
  have d0 : ∀ {τ : Type} (F : Option τ), g_ck 0 3 F = F := fun F => rfl
  have d1 : ∀ {τ : Type} (F : Option τ), g_ck 1 3 F = F := fun F => rfl
  have d2 : ∀ {τ : Type} (F : Option τ), g_ck 2 3 F = F := fun F => rfl
  rw [c0, d0, d1, d2, show Int32.toNatClampNeg 0 = 0 from rfl, show Int32.toNatClampNeg 1 = 1 from rfl, show Int32.toNatClampNeg 2 = 2 from rfl]
  by_cases q : byt t n z = 59
  · have l1 := (byt_lt (t := t) (n := n) (a := z) (by rw [q]; decide)).1
    obtain ⟨h0, -⟩ := cOf_lt hs
    have hn171 := cOf_171 hs
    obtain ⟨I3, A3, e1, e2, e3, e4, e5⟩ := gather_s (T := T) hT hs (va_up I 914 (Int32.ofNat z)) A L
    obtain ⟨A4, m1, m2, m3⟩ := lays_s (T := T) hT hs (va_up I' 951 (Int32.ofNat z)) A' L'
    have h48 := fam_len (T := T) h0
    have hmem : ∀ c ∈ fam T (cOf (A' 68 0) (A' 68 1) (A' 68 2)), c < 343 ∧ c ≠ 171 := fun c hc => fam_171 h0 hn171 hc
    have hok32 := ok.2.1
    have k100 : I3 (16 * 6 + 4) = Int32.ofNat cur.length := by rw [e4 _ (by omega), un _ _ (by omega)]; exact cx.1
    have k60 : A' 60 0 = Int32.ofNat cur.length := cm.1
    rw [if_pos q, if_pos q, un _ _ (show 915 ≠ 914 by omega), un _ _ (show 916 ≠ 914 by omega), un _ _ (show 917 ≠ 914 by omega), un _ _ (show 918 ≠ 914 by omega), h15, h16, h17, h18, e1, b1_some, m1, b2_some, k100, k60, show I3 (16 * 54 + 2) = _ from e2, o_add, g_lt_eq]
    have f19 : I3 919 = w := by rw [e4 _ (by omega), un _ _ (by omega)]; exact h19
    have x3 : RX I3 A3 t n z := RX_fr hx2 (e4 _ (by omega)) (e4 _ (by omega)) (e5 _ (by omega) (by omega))
    have m4 : RM (va_up I' 951 (Int32.ofNat z)) A4 t n z := RM_fr hm2 rfl rfl (m3 _ (by omega) (by omega))
    generalize hF : fam T (cOf (A' 68 0) (A' 68 1) (A' 68 2)) = fs at e2 e3 m2 h48 hmem
    by_cases hfit : cur.length + fs.length ≤ 32
    · have hle : Int32.ofNat (cur.length + fs.length) ≤ 32 := o_le (b := 32) (by omega) (by omega) hfit
      rw [if_pos hle, if_pos hle]
      obtain ⟨I5, A5, p1, p2, p3, p4⟩ := putF_l (b := 6) (o := w) (pl := cur) (fs := fs) (by omega) hfit (fun c hc => (hmem c hc).1) 4096 0 I3 A3 L (Nat.zero_le _) (by omega) e2 e3 (by
        rw [List.take_zero, List.map_nil, List.append_nil, e5 _ (by omega) (by omega), e5 _ (by omega) (by omega), e5 _ (by omega) (by omega), e5 _ (by omega) (by omega), e4 _ (by omega), un _ _ (by omega)]
        exact cx)
      have p1 : f_X2_putFamily_p2 6 54 4096 w 0 I3 A3 L = _ := p1
      obtain ⟨s', q1, q2⟩ := fcm_l (T := T) (c0 := cOf (A' 68 0) (A' 68 1) (A' 68 2)) h0 (o := w) (pl := cur) (by rw [hF]; exact hfit) 4096 0 0 (va_up (va_up I' 951 (Int32.ofNat z)) 951 (Int32.ofNat (z + 1))) A4 L' (by omega) (by omega) (Nat.zero_le _) (by rw [hF]; exact m2) (fun j hj => by omega) (fun j _ _ => Nat.zero_le _) (by rw [List.take_zero, List.map_nil, List.append_nil, m3 60 (by omega) (by omega)]; exact cm)
      rw [hF] at q2
      have q1 : f_X7_familyComes_p2 4096 w 0 _ _ _ = _ := q1
      refine ⟨1, z + 1, va_up I5 914 (Int32.ofNat (z + 1)), A5, va_up (va_up I' 951 (Int32.ofNat z)) 951 (Int32.ofNat (z + 1)), va_up A4 60 s', cur ++ fs.map (sgP w), ?_, ?_, ?_, ?_, by omega, ?_, ?_, ?_, ?_, Or.inr ⟨rfl, by omega, ?_, ?_, ?_⟩⟩
      · unfold f_X2_putFamily
        rw [f19, p1, b1_some, g_lt_eq, p3 914 (by omega), x3.2.1, i_1]
      · unfold f_X7_familyComes
        rw [us, i_1, q1, b1_some]
      · exact RX_at (RX_fr x3 (p3 _ (by omega)) (p3 _ (by omega)) (p4 _ (by omega))) l1
      · exact RM_A (RM_at m4 l1) (by omega)
      · intro i a1 a2 a3
        rw [un _ _ a3, p3 i (by omega), e4 i a2, un _ _ a3]
      · intro r hr
        rw [p4 r (by omega), e5 r (by omega) (by omega)]
      · intro i a1
        rw [un _ _ a1, un _ _ a1]
      · intro r a1 a2 a3
        rw [un _ _ a1, m3 r a2 a3]
      · exact okL_apps _ _ ok (fun q hq => by
              obtain ⟨c, hc, rfl⟩ := List.mem_map.mp hq
              exact sg_ok (hmem c hc).1 (hmem c hc).2 hw) (by rw [List.length_map]; exact hfit)
      · rw [un _ _ (by omega)]
        exact p2
      · rw [us]; exact q2
    · have hle : ¬ Int32.ofNat (cur.length + fs.length) ≤ 32 := o_nle (b := 32) (by omega) (by omega) (by omega)
      rw [if_neg hle, if_neg hle]
      exact ⟨0, z, I3, A3, _, A4, cur, rfl, rfl, x3, m4, by omega, fun i a1 a2 a3 => by rw [e4 i a2, un _ _ a3], fun r hr => e5 r (by omega) (by omega), fun i a1 => un _ _ a1, fun r a1 a2 a3 => m3 r a2 a3, Or.inl ⟨rfl, hsn⟩⟩
  · rw [if_neg q, if_neg q]
    exact ⟨0, z, _, A, _, A', cur, rfl, rfl, hx2, hm2, by omega, fun i a1 a2 a3 => un _ _ a3, fun r hr => rfl, fun i a1 => un _ _ a1, fun r a1 a2 a3 => rfl, Or.inl ⟨rfl, hsn⟩⟩
/-- sign, off and end of a sentence -/
theorem rest_b {t : Nat → Int32} {n a a' T : Nat} {I : Nat → Int32} {A : Nat → Nat → Int32} {L : Nat → Int64} {I' : Nat → Int32} {A' : Nat → Nat → Int32} {L' : Nat → Int64} {cur : List Pl} (hx : RX I A t n a) (hm : RM I' A' t n a') (hsk : skp t n a' = skp t n a) (hT : T < 64) (h15 : I 915 = Int32.ofNat T) (ok : okL cur) (cx : rpX (I 100) (A 7) (A 8) (A 9) (A 10) cur) (cm : rpM (A' 60) 0 cur) : ∃ (r : Int32) (b : Nat) (I1 : Nat → Int32) (A1 : Nat → Nat → Int32) (I2 : Nat → Int32) (A2 : Nat → Nat → Int32) (cur' : List Pl), f_X3_readOne_p21 6 54 I A L = some (r, I1, A1, L) ∧ f_X7_sentence_p17 (Int32.ofNat T) I' A' L' = some (r, I2, A2, L') ∧ RX I1 A1 t n b ∧ RM I2 A2 t n b ∧ a ≤ b ∧ (∀ i, i ≠ 100 → i ≠ 866 → (i < 914 ∨ 920 < i) → I1 i = I i) ∧ (∀ r, (r < 7 ∨ (10 < r ∧ r ≠ 55 ∧ r ≠ 56)) → A1 r = A r) ∧ (∀ i, i ≠ 951 → I2 i = I' i) ∧ (∀ r, r ≠ 60 → r ≠ 67 → r ≠ 68 → r ≠ 69 → A2 r = A' r) ∧ ((r = 0 ∧ byt t n b ≠ 32) ∨ (r = 1 ∧ a < b ∧ okL cur' ∧ rpX (I1 100) (A1 7) (A1 8) (A1 9) (A1 10) cur' ∧ rpM (A2 60) 0 cur')) := by
  have hT0 : ¬ Int32.ofNat T < 0 := by
    rw [i_lt, i_nat (by omega)]
    show ¬ (T : Int) < 0
    omega
  unfold f_X3_readOne_p21 f_X7_sentence_p17
  rw [if_neg hT0]
  obtain ⟨r, b, I1, s, p1, p2, p3, p4, p5, p6⟩ := sign_b (L := L) (L' := L') hx hm hsk
  rw [p1, p2, b2_some, b2_some]
  rcases p6 with ⟨rfl, p6⟩ | ⟨rfl, p6, p7, p8, p9⟩
  · rw [if_pos z00, if_pos z00]
    exact ⟨0, b, I1, A, _, _, cur, rfl, rfl, p3, RM_A (RM_at hm p3.2.2.2.1) (by omega), p4, fun i a1 a2 a3 => p5 i (by omega), fun r hr => rfl, fun i a1 => un _ _ a1, fun r a1 a2 a3 a4 => un _ _ a3, Or.inl ⟨rfl, p6⟩⟩
  · rw [if_neg n10, if_neg n10]
    have hm2 : RM (va_up I' 951 (Int32.ofNat b)) (va_up A' 68 s) t n b := RM_A (RM_at hm p3.2.2.2.1) (by omega)
    obtain ⟨r, w, b2, I2, q1, q2, q3, q4, q5, q6⟩ := off_b (L := L) (L' := L') p3 hm2
    rw [q1, q2, b2_some, b2_some]
    rcases q6 with ⟨rfl, rfl, q6⟩ | ⟨rfl, q6, q7⟩
    · rw [if_pos z00, if_pos z00]
      exact ⟨0, b2, I2, A, _, _, cur, rfl, rfl, q3, RM_at hm2 q3.2.2.2.1, by omega, fun i a1 a2 a3 => by rw [q5 i (by omega) (by omega), p5 i (by omega)], fun r hr => rfl, fun i a1 => by rw [un _ _ a1, un _ _ a1], fun r a1 a2 a3 a4 => un _ _ a3, Or.inl ⟨rfl, q6⟩⟩
    · have hw0 : ¬ w = 0 := fun z => by rw [z] at q6; exact absurd q6.1 (by decide)
      rw [if_neg n10, if_neg hw0]
      have hm3 := RM_at hm2 q3.2.2.2.1
      obtain ⟨r, b3, I3, A3, I4, A4, cur', u1, u2, u3, u4, u5, u6, u7, u8, u9, u10⟩ := end_b (L := L) (L' := L') (cur := cur) (w := w) q3 hm3 hT (by rw [q5 _ (by omega) (by omega), p5 _ (by omega)]; exact h15) (by rw [us]; exact p6) (by rw [q5 _ (by omega) (by omega), us]; exact p7) (by rw [q5 _ (by omega) (by omega), us]; exact p8) (by rw [q5 _ (by omega) (by omega), us]; exact p9) q7 q6 ok (by rw [q5 _ (by omega) (by omega), p5 _ (by omega)]; exact cx) (by rw [un _ _ (by omega)]; exact cm)
      unfold mEnd at u2
      rw [u1, u2, b2_some]
      refine ⟨r, b3, I3, A3, I4, A4, cur', ?_, rfl, u3, u4, by omega, fun i a1 a2 a3 => by rw [u6 i a1 a2 (by omega), q5 i (by omega) (by omega), p5 i (by omega)], u7, fun i a1 => by rw [u8 i a1, un _ _ a1, un _ _ a1], fun r a1 a2 a3 a4 => by rw [u9 r a1 a2 a4, un _ _ a3], ?_⟩
      · rcases u10 with ⟨rfl, _⟩ | ⟨rfl, _⟩
        · rw [if_pos z00]
        · rw [if_neg n10]
      · rcases u10 with q | ⟨a1, a2, a3⟩
        · exact Or.inl q
        · exact Or.inr ⟨a1, by omega, a3⟩
theorem col_skp {t : Nat → Int32} {n : Nat} : ∀ k a, n - a = k → a ≤ n → col t n (skp t n a) = col t n a
  | 0, a, hk, ha => by
    have : a = n := by omega
    subst this
    rw [skp_n]
  | k + 1, a, hk, ha => by
    rw [skp_s (by omega)]
    split
    next q =>
      rw [col_skp k (a + 1) (by omega) (by omega), col_s (n := n) (a := a) (by omega), if_neg (by rw [q]; decide), if_neg (by rw [q]; decide)]
    next => rfl
/-- a whole sentence: the class may stand ahead of blanks, the reference stands behind them -/
theorem one_b {t : Nat → Int32} {n a : Nat} {I : Nat → Int32} {A : Nat → Nat → Int32} {L : Nat → Int64} {I' : Nat → Int32} {A' : Nat → Nat → Int32} {L' : Nat → Int64} {cur : List Pl} (hx : RX I A t n a) (hm : RM I' A' t n (skp t n a)) (ok : okL cur) (cx : rpX (I 100) (A 7) (A 8) (A 9) (A 10) cur) (cm : rpM (A' 60) 0 cur) : ∃ (r : Int32) (b : Nat) (I1 : Nat → Int32) (A1 : Nat → Nat → Int32) (I2 : Nat → Int32) (A2 : Nat → Nat → Int32) (cur' : List Pl), f_X3_readOne 6 54 I A L = some (r, I1, A1, L) ∧ f_X7_sentence I' A' L' = some (r, I2, A2, L') ∧ RX I1 A1 t n b ∧ RM I2 A2 t n b ∧ a ≤ b ∧ (∀ i, i ≠ 100 → i ≠ 866 → (i < 914 ∨ 920 < i) → I1 i = I i) ∧ (∀ r, (r < 7 ∨ (10 < r ∧ r ≠ 55 ∧ r ≠ 56)) → A1 r = A r) ∧ (∀ i, i ≠ 951 → I2 i = I' i) ∧ (∀ r, r ≠ 60 → r ≠ 67 → r ≠ 68 → r ≠ 69 → A2 r = A' r) ∧ ((r = 0 ∧ byt t n b ≠ 32) ∨ (r = 1 ∧ a < b ∧ okL cur' ∧ rpX (I1 100) (A1 7) (A1 8) (A1 9) (A1 10) cur' ∧ rpM (A2 60) 0 cur')) := by
  have ha := hx.2.2.2.1
  have hn := hx.2.2.1
  have hsl := skp_le (t := t) ha
  have hx1 : RX (va_up I 915 0) A t n a := RX_up hx (by omega) (by omega)
  unfold f_X3_readOne f_X7_sentence f_X3_isColonAhead f_X7_isFamily
  rw [g_lt_eq, hx1.2.1, hm.2.1, colx_l hx1 4096 a (by omega) ha, colm_l hm 4096 _ (by omega) hsl.2, col_skp _ a rfl ha, bd_some, bd_some]
  by_cases q : col t n a = true
  · rw [if_pos q, if_neg n10, if_neg n10]
    obtain ⟨r, w, b, I1, p1, p2, p3, p4, p5, p6⟩ := turns_b (L := L) (L' := L') hx1 hm (us _ _ _)
    rw [p1, p2, b2_some, b2_some]
    rcases p6 with ⟨rfl, rfl, p6⟩ | ⟨rfl, s', p6, rfl, p8⟩
    · rw [if_pos z00]
      refine ⟨0, b, I1, A, va_up I' 951 (Int32.ofNat b), A', cur, rfl, ?_, p3, RM_at hm p3.2.2.2.1, p4, fun i a1 a2 a3 => by rw [p5 i (by omega) (by omega), un _ _ (by omega)], fun r hr => rfl, fun i a1 => un _ _ a1, fun r a1 a2 a3 a4 => rfl, Or.inl ⟨rfl, p6⟩⟩
      unfold f_X7_sentence_p17
      rw [if_pos (by decide)]
    · rw [if_neg n10]
      obtain ⟨r, b3, I3, A3, I4, A4, cur', u1, u2, u3, u4, u5, u6, u7, u8, u9, u10⟩ := rest_b (L := L) (L' := L') (cur := cur) p3 (RM_at (b := b) hm p3.2.2.2.1) rfl p6 p8 ok (by rw [p5 _ (by omega) (by omega), un _ _ (by omega)]; exact cx) cm
      refine ⟨r, b3, I3, A3, I4, A4, cur', u1, u2, u3, u4, by omega, fun i a1 a2 a3 => by rw [u6 i a1 a2 a3, p5 i (by omega) (by omega), un _ _ (by omega)], u7, fun i a1 => by rw [u8 i a1, un _ _ a1], u9, ?_⟩
      rcases u10 with q | ⟨a1, a2, a3⟩
      · exact Or.inl q
      · exact Or.inr ⟨a1, by omega, a3⟩
  · rw [if_neg q, if_pos z00, if_pos z00]
    obtain ⟨r, b3, I3, A3, I4, A4, cur', u1, u2, u3, u4, u5, u6, u7, u8, u9, u10⟩ := rest_b (T := 0) (L := L) (L' := L') (cur := cur) hx1 hm (skp_skp ha) (by omega) (us _ _ _) ok (by rw [un _ _ (by omega)]; exact cx) cm
    exact ⟨r, b3, I3, A3, I4, A4, cur', u1, u2, u3, u4, by omega, fun i a1 a2 a3 => by rw [u6 i a1 a2 a3, un _ _ (by omega)], u7, u8, u9, u10⟩
