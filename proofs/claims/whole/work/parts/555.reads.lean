theorem skp_b {t : Nat → Int32} {n b : Nat} (h : b ≤ n) (hb : byt t n b ≠ 32) : skp t n b = b := by
  rcases Nat.lt_or_ge b n with q | q
  · unfold byt at hb
    rw [if_pos q] at hb
    rw [skp_s q, if_neg hb]
  · have : b = n := by omega
    subst this
    exact skp_n
theorem all_l {t : Nat → Int32} {n : Nat} {L L' : Nat → Int64} (ht : ∀ j, j < n → 0 ≤ t j) : ∀ (f g i a : Nat) (I : Nat → Int32) (A : Nat → Nat → Int32) (I' : Nat → Int32) (A' : Nat → Nat → Int32) (cur : List Pl), n - a < f → n - a + 1 < g → i ≤ a → i ≤ 119 → (i = 0 ∨ skp t n a < n) → RX I A t n a → RM I' A' t n (skp t n a) → okL cur → rpX (I 100) (A 7) (A 8) (A 9) (A 10) cur → rpM (A' 60) 0 cur → ∃ (r : Int32) (b : Nat) (I1 : Nat → Int32) (A1 : Nat → Nat → Int32) (I2 : Nat → Int32) (A2 : Nat → Nat → Int32) (cur' : List Pl), f_X3_readAll_p7 6 54 f (Int32.ofNat i) I A L = some (r, I1, A1, L) ∧ f_X7_reads_p17 g (Int32.ofNat i) 1 I' A' L' = f_X7_reads_p51 r I2 A2 L' ∧ RX I1 A1 t n b ∧ RM I2 A2 t n b ∧ (∀ i, i ≠ 100 → i ≠ 866 → (i < 914 ∨ 920 < i) → I1 i = I i) ∧ (∀ r, (r < 7 ∨ (10 < r ∧ r ≠ 55 ∧ r ≠ 56)) → A1 r = A r) ∧ (∀ i, i ≠ 951 → I2 i = I' i) ∧ (∀ r, r ≠ 60 → r ≠ 67 → r ≠ 68 → r ≠ 69 → A2 r = A' r) ∧ (r = 0 ∨ (r = 1 ∧ okL cur' ∧ rpX (I1 100) (A1 7) (A1 8) (A1 9) (A1 10) cur' ∧ rpM (A2 60) 0 cur')) := by
  intro f
  induction f with
  | zero => intro g i a I A I' A' cur h; omega
  | succ f ih =>
    intro g i a I A I' A' cur hf hg hia hi h0 hx hm ok cx cm
    obtain ⟨g, rfl⟩ : ∃ k, g = k + 1 + 1 := ⟨g - 2, by omega⟩
    have hn := hx.2.2.1
    have ha := hx.2.2.2.1
    have hsl := skp_le (t := t) ha
    rw [f_X3_readAll_p7_e, if_neg (show ¬ (120 : Int32) ≤ Int32.ofNat i from o_nle (a := 120) (by omega) (by omega) (by omega))]
    have hgo : f_X7_reads_p17 (g + 1 + 1) (Int32.ofNat i) 1 I' A' L' = f_X7_reads_p36 (f_X7_reads_p17 (g + 1)) (Int32.ofNat i) I' A' L' := by
      rw [f_X7_reads_p17_e, if_neg n10]
      by_cases q : I' 951 < I' 950
      · rw [if_pos q]
      · rw [if_neg q]
        rcases h0 with rfl | h0
        · rw [if_pos (by rfl)]
        · rw [hm.1, hm.2.1, i_lt, i_nat (by omega), i_nat (by omega)] at q
          omega
    obtain ⟨r, b, I1, A1, I2, A2, cur', u1, u2, u3, u4, u5, u6, u7, u8, u9, u10⟩ := one_b (L := L) (L' := L') (cur := cur) hx hm ok cx cm
    have hbn := u3.2.2.2.1
    have hsb := skp_le (t := t) hbn
    rw [hgo, u1, b2_some]
    unfold f_X7_reads_p36
    rw [u2, b2_some, skips_s u4, b1_some, i_1]
    rcases u10 with ⟨rfl, u10⟩ | ⟨rfl, v1, v2, v3, v4⟩
    · rw [if_pos z00, f_X7_reads_p17_e, if_pos z00, skp_b hbn u10, ← u4.2.1, uself]
      exact ⟨0, b, I1, A1, I2, A2, cur', rfl, rfl, u3, u4, u6, u7, u8, u9, Or.inl rfl⟩
    · rw [if_neg n10, look_s u3, b2_some]
      have x1 := RX_at u3 hsb.2
      have m1 := RM_at u4 hsb.2
      rcases Nat.lt_or_ge (skp t n b) n with q | q
      · have hb : ¬ byt t n (skp t n b) = -1 := by
          intro z
          have : byt t n (skp t n b) = t (skp t n b) := by unfold byt; rw [if_pos q]
          rw [this] at z
          have := ht _ q
          rw [z] at this
          exact absurd this (by decide)
        rw [if_neg hb]
        obtain ⟨r, b2, I3, A3, I4, A4, cur2, w1, w2, w3, w4, w5, w6, w7, w8, w9⟩ := ih (g + 1) (i + 1) (skp t n b) _ A1 _ A2 cur' (by omega) (by omega) (by omega) (by omega) (Or.inr (by rw [skp_skp hbn]; exact q)) x1 (by rw [skp_skp hbn]; exact m1) v2 (by rw [un _ _ (by omega)]; exact v3) v4
        exact ⟨r, b2, I3, A3, I4, A4, cur2, w1, w2, w3, w4, fun i a1 a2 a3 => by rw [w5 i a1 a2 a3, un _ _ (by omega), u6 i a1 a2 a3], fun r hr => by rw [w6 r hr, u7 r hr], fun i a1 => by rw [w7 i a1, un _ _ a1, u8 i a1], fun r a1 a2 a3 a4 => by rw [w8 r a1 a2 a3 a4, u9 r a1 a2 a3 a4], w9⟩
      · have hsn : skp t n b = n := by omega
        have hb : byt t n (skp t n b) = -1 := by unfold byt; rw [if_neg (by omega)]
        rw [if_pos hb, f_X7_reads_p17_e, if_neg n10, us, un _ _ (by omega), u4.1, if_neg (by rw [i_lt, i_nat (by omega), i_nat (by omega)]; omega), if_neg (by rw [i_eq, i_nat (by omega)]; show ¬ ((i + 1 : Nat) : Int) = 0; omega)]
        exact ⟨1, skp t n b, _, A1, _, A2, cur', rfl, rfl, x1, m1, fun i a1 a2 a3 => by rw [un _ _ (by omega), u6 i a1 a2 a3], u7, fun i a1 => by rw [un _ _ a1, u8 i a1], u9, Or.inr ⟨rfl, v2, by rw [un _ _ (by omega)]; exact v3, v4⟩⟩
theorem inv_60 {I : Nat → Int32} {A : Nat → Nat → Int32} {L : Nat → Int64} {s' : Nat → Int32} (h : Inv I A L) (hs : ∀ i, i < 129 → s' i = A 60 i) : Inv I (va_up A 60 s') L := by
  obtain ⟨pl, past, ⟨ok, hx, hm⟩, h2, h3, h4, h5, h6, h7⟩ := h
  have e : rgX I (va_up A 60 s') = rgX I A := rgX_up (fun i a b => rfl) (fun r a b => un _ _ (by omega))
  refine ⟨pl, past, ⟨ok, ?_, ?_⟩, ?_, ?_, ?_, h5, ?_, h7⟩
  · simp only [va_up, Nat.reduceEqDiff, reduceIte]; exact hx
  · rw [us]
    exact rpM_eq ok.2.1 hm (fun i hi => by simp only [Nat.zero_add]; exact hs i hi)
  · rw [e]
    simp only [va_up, Nat.reduceEqDiff, reduceIte]; exact h2
  · simp only [va_up, Nat.reduceEqDiff, reduceIte]; exact h3
  · simp only [va_up, Nat.reduceEqDiff, reduceIte]; exact h4
  · simp only [va_up, Nat.reduceEqDiff, reduceIte]; exact h6
theorem rpX_u {n : Int32} {h k l o : Nat → Int32} {p q : List Pl} (hp : rpX n h k l o p) (hq : rpX n h k l o q) (lp : p.length ≤ 32) (lq : q.length ≤ 32) : p = q := by
  have e : p.length = q.length := by
    have := hp.1.symm.trans hq.1
    rw [i_eq, i_nat (by omega), i_nat (by omega)] at this
    omega
  refine List.ext_getElem e (fun i h1 h2 => ?_)
  have a1 := hp.2 i h1
  have a2 := hq.2 i h2
  rw [List.getD_eq_getElem?_getD, List.getElem?_eq_getElem h1] at a1
  rw [List.getD_eq_getElem?_getD, List.getElem?_eq_getElem h2] at a2
  exact a1.trans a2.symm
theorem st_reads : gStep_reads Inv := by
  intro I A L hI
  obtain ⟨pl, past, ⟨ok, hx, hm⟩, hst, hTx, h4, h5, h6, h7⟩ := id hI
  obtain ⟨g1, n, g2, g3, g4⟩ := hTx
  obtain ⟨A1, c1, c2, c3⟩ := copy_s (b := 6) (q := 1) (I := I) (A := A) (L := L) (by omega) hx ok.2.1
  -- the class's reading begins
  have x0 : RX (va_up (va_up I 100 (I 20)) 914 (Int32.ofNat 0)) A1 (A 64) n 0 := ⟨by rw [un _ _ (by omega), un _ _ (by omega)]; exact g3, us _ _ _, g2, Nat.zero_le _, fun j hj => by rw [c3 58 (by omega)]; exact (g4 j hj).1⟩
  have hs0 := skp_le (t := A 64) (n := n) (a := 0) (Nat.zero_le _)
  have cx0 : rpX (va_up (va_up I 100 (I 20)) 914 (Int32.ofNat 0) 100) (A1 7) (A1 8) (A1 9) (A1 10) pl := by
    rw [un _ _ (by omega), us]; exact c2
  have rd : ∀ (I' : Nat → Int32) (A' : Nat → Nat → Int32), RM I' A' (A 64) n (skp (A 64) n 0) → rpM (A' 60) 0 pl → ∃ (r : Int32) (b : Nat) (I1 : Nat → Int32) (A1' : Nat → Nat → Int32) (I2 : Nat → Int32) (A2 : Nat → Nat → Int32) (cur' : List Pl), f_X3_readAll_p7 6 54 4096 (Int32.ofNat 0) (va_up (va_up I 100 (I 20)) 914 (Int32.ofNat 0)) A1 L = some (r, I1, A1', L) ∧ f_X7_reads_p17 4096 (Int32.ofNat 0) 1 I' A' L = f_X7_reads_p51 r I2 A2 L ∧ RX I1 A1' (A 64) n b ∧ RM I2 A2 (A 64) n b ∧ (∀ i, i ≠ 100 → i ≠ 866 → (i < 914 ∨ 920 < i) → I1 i = I i) ∧ (∀ r, (r < 7 ∨ (10 < r ∧ r ≠ 55 ∧ r ≠ 56)) → A1' r = A r) ∧ (∀ i, i ≠ 951 → I2 i = I' i) ∧ (∀ r, r ≠ 60 → r ≠ 67 → r ≠ 68 → r ≠ 69 → A2 r = A' r) ∧ (r = 0 ∨ (r = 1 ∧ okL cur' ∧ rpX (I1 100) (A1' 7) (A1' 8) (A1' 9) (A1' 10) cur' ∧ rpM (A2 60) 0 cur')) := by
    intro I' A' hm' cm'
    obtain ⟨r, b, I1, A1', I2, A2, cur', w1, w2, w3, w4, w5, w6, w7, w8, w9⟩ := all_l (L := L) (L' := L) (fun j hj => (g4 j hj).2.1) 4096 4096 0 0 _ A1 I' A' pl (by omega) (by omega) (by omega) (by omega) (Or.inl rfl) x0 hm' ok cx0 cm'
    exact ⟨r, b, I1, A1', I2, A2, cur', w1, w2, w3, w4, fun i a1 a2 a3 => by rw [w5 i a1 a2 a3, un _ _ (by omega), un _ _ a1], fun r hr => by rw [w6 r hr, c3 r (by omega)], w7, w8, w9⟩
  have m0 : ∀ (I' : Nat → Int32) (A' : Nat → Nat → Int32), I' 950 = I 950 → A' 64 = A 64 → RM (va_up I' 951 (Int32.ofNat 0)) A' (A 64) n 0 := fun I' A' e1 e2 => ⟨by rw [un _ _ (by omega), e1, ← g1]; exact g3, us _ _ _, g2, Nat.zero_le _, fun j hj => by rw [e2]⟩
  obtain ⟨r, b, I1, A1', I2d, A2d, cur', w1, -, w3, -, w5, w6, -, -, w9⟩ := rd (va_up (va_up I 951 (Int32.ofNat 0)) 951 (Int32.ofNat (skp (A 64) n 0))) A (RM_at (m0 I A rfl rfl) hs0.2) hm
  have hI1 : Inv I1 A1' L := inv_fr (fun i hi => w5 i (by omega) (by omega) (by omega)) (fun r hr => w6 r (by omega)) hI
  have ex : f_X6_reads I A L = if r = 0 then some (((-10) - (I1 914)), I1, A1', L) else (g_lt ((I1 100) - (I1 20)) (fun v10 => g_b1 (f_X6_leaveState I1 A1' L) (fun I12 A13 L14 => g_b1 (f_X2_copyFrom 1 6 I12 A13 L14) (fun I16 A17 L18 => some (v10, I16, A17, L18))))) := by
    unfold f_X6_reads f_X3_readAll
    have w1 : f_X3_readAll_p7 6 54 4096 0 (va_up (va_up I 100 (I 20)) 914 0) A1 L = _ := w1
    rw [c1, b1_some, g_lt_eq, show va_up I (16 * 6 + 4) (I (16 * 1 + 4)) = va_up I 100 (I 20) from rfl, w1, b2_some]
  -- what the reference does from a state of the class
  have em : ∀ (If : Nat → Int32) (Af : Nat → Nat → Int32), (∀ i, i = 950 → If i = I i) → Af 64 = A 64 → Af 60 = A 60 → ∃ (b2 : Nat) (row : Nat → Int32) (I2 : Nat → Int32) (A2 : Nat → Nat → Int32), f_X7_reads If Af L = f_X7_reads_p51 r I2 A2 L ∧ I1 914 = Int32.ofNat b2 ∧ I2 951 = Int32.ofNat b2 ∧ (∀ i, i ≠ 951 → I2 i = If i) ∧ (∀ r, r ≠ 60 → r ≠ 62 → r ≠ 67 → r ≠ 68 → r ≠ 69 → A2 r = Af r) ∧ (∀ i, i < 129 → A2 62 i = A 60 i) ∧ (r = 0 ∨ (r = 1 ∧ ∃ cur', okL cur' ∧ rpX (I1 100) (A1' 7) (A1' 8) (A1' 9) (A1' 10) cur' ∧ rpM (A2 60) 0 cur')) := by
    intro If Af e1 e2 e3
    obtain ⟨row, a1, a2⟩ := aside_s If Af L
    have ma := m0 If (va_up Af 62 row) (e1 950 rfl) (by rw [un _ _ (by omega)]; exact e2)
    obtain ⟨r', b', I1', A1'', I2, A2, cur2, v1, v2, v3, v4, v5, v6, v7, v8, v9⟩ := rd (va_up (va_up If 951 (Int32.ofNat 0)) 951 (Int32.ofNat (skp (A 64) n 0))) (va_up Af 62 row) (RM_at ma hs0.2) (by rw [un _ _ (by omega), e3]; exact hm)
    rw [w1] at v1
    have v1 := Option.some.inj v1
    have q1 : r = r' := congrArg Prod.fst v1
    have q2 : I1 = I1' := congrArg (fun z => z.2.1) v1
    have q3 : A1' = A1'' := congrArg (fun z => z.2.2.1) v1
    subst q1 q2 q3
    refine ⟨b', row, I2, A2, ?_, v3.2.1, v4.2.1, fun i hi => by rw [v7 i hi, un _ _ hi, un _ _ hi], fun r b1 b2 b3 b4 b5 => by rw [v8 r b1 b3 b4 b5, un _ _ b2], fun i hi => by rw [v8 62 (by omega) (by omega) (by omega) (by omega), us, a2 i hi, e3], ?_⟩
    · unfold f_X7_reads
      rw [a1, b1_some, g_lt_eq]
      have ma' : RM (va_up If 951 0) (va_up Af 62 row) (A 64) n 0 := ma
      rw [skips_s ma', b1_some]
      exact v2
    · rcases v9 with q | ⟨q, p⟩
      · exact Or.inl q
      · exact Or.inr ⟨q, cur2, p⟩
  rcases w9 with rfl | ⟨rfl, w9⟩
  · rw [if_pos z00] at ex
    obtain ⟨b2, row, I2, A2, k1, k2, k3, k4, k5, k6, -⟩ := em I1 A1' (fun i hi => w5 i (by omega) (by omega) (by omega)) (w6 64 (by omega)) (w6 60 (by omega))
    unfold f_X7_reads_p51 at k1
    rw [if_pos z00] at k1
    obtain ⟨row2, z1, z2⟩ := rest_s I2 A2 L
    rw [z1, b1_some] at k1
    refine ⟨(-10) - (I1 914), I1, A1', L, I2, va_up A2 60 row2, L, ex, by rw [k1, k2, k3], ?_⟩
    have hI2 : Inv I2 (va_up A2 60 (A 60)) L := inv_fr (fun i hi => k4 i (by omega)) (fun r hr => by
      by_cases q : r = 60
      · subst q; rw [us, w6 60 (by omega)]
      · rw [un _ _ q]; exact k5 r q (by omega) (by omega) (by omega) (by omega)) hI1
    have := inv_60 (s' := row2) hI2 (fun i hi => by rw [us, z2 i hi, k6 i hi])
    rw [uu] at this
    exact this
  · rw [if_neg n10, g_lt_eq] at ex
    obtain ⟨okc, cxc, -⟩ := w9
    obtain ⟨pl1, past1, ⟨ok1, hx1, hm1⟩, hst1, hTx1, h41, h51, -, -⟩ := hI1
    obtain ⟨sx, sm, so⟩ := vSt_split hst1
    obtain ⟨I3, A3, l1, x1, x7, x8, xI, xA⟩ := leave_s (L := L) sx hx1 ok1.2.1
    have e100 : I3 100 = I1 100 := xI 100 (by omega) (by omega) (by omega) (by omega) (by omega)
    obtain ⟨A4, y1, y2, y3⟩ := copy_s (b := 1) (q := 6) (I := I3) (A := A3) (L := L) (pl := cur') (by omega) (by rw [show I3 (16 * 6 + 4) = I1 100 from e100, xA _ (by omega), xA _ (by omega), xA _ (by omega), xA _ (by omega)]; exact cxc) okc.2.1
    have y1 : f_X2_copyFrom 1 6 I3 A3 L = some (va_up I3 20 (I3 100), A4, L) := y1
    have y2 : rpX (I3 100) (A4 2) (A4 3) (A4 4) (A4 5) cur' := y2
    rw [l1, b1_some, y1, b1_some] at ex
    have fI : ∀ i, i ≠ 20 → i ≠ 177 → i ≠ 178 → i ≠ 7 → i ≠ 8 → (i < 212 ∨ 532 < i) → va_up I3 20 (I3 100) i = I1 i := fun i a0 a1 a2 a3 a4 a5 => by rw [un _ _ a0, xI i a1 a2 a3 a4 a5]
    have fA : ∀ r, (r ≤ 1 ∨ (6 ≤ r ∧ r ≤ 13) ∨ 37 < r) → A4 r = A1' r := fun r hr => by rw [y3 r (by omega), xA r (by omega)]
    obtain ⟨b2, row, I2, A2, k1, k2, k3, k4, k5, k6, k7⟩ := em (va_up I3 20 (I3 100)) A4 (fun i hi => by rw [fI i (by omega) (by omega) (by omega) (by omega) (by omega) (by omega), w5 i (by omega) (by omega) (by omega)]) (by rw [fA 64 (by omega), w6 64 (by omega)]) (by rw [fA 60 (by omega), w6 60 (by omega)])
    obtain ⟨-, cur2, okc2, cx2, cm2⟩ := k7.resolve_left (fun z => n10 z)
    have hcc := rpX_u cxc cx2 okc.2.1 okc2.2.1
    subst hcc
    have h62 : rpM (A2 62) 0 pl1 := rpM_eq ok1.2.1 hm1 (fun i hi => by rw [Nat.zero_add, k6 i hi, w6 60 (by omega)])
    obtain ⟨kk, r61, z1, z2⟩ := keeps_s (I := I2) (A := A2) (L := L) (past := past1) (pl := pl1) (by rw [k4 946 (by omega), fI 946 (by omega) (by omega) (by omega) (by omega) (by omega) (by omega), k5 61 (by omega) (by omega) (by omega) (by omega) (by omega), fA 61 (by omega)]; exact sm) h62 ok1.2.1
    unfold f_X7_reads_p51 at k1
    have c0 : ∀ {τ : Type} (F : Option τ), g_ck 0 129 F = F := fun F => rfl
    rw [if_neg n10, z1, b1_some, c0, c0, show Int32.toNatClampNeg 0 = 0 from rfl, un _ _ (by omega), un _ _ (by omega), cm2.1, h62.1] at k1
    refine ⟨_, _, _, _, va_up I2 946 kk, va_up A2 61 r61, L, ex, ?_, ?_⟩
    · rw [k1, cxc.1, hx1.1]
    · have hc := inv_change2 (I := I1) (A := A1') (L := L) (pl := pl1) (pl' := cur') (past := past1) hTx1 h41 h51 (psh_ok so ok1) (I2 := va_up I3 20 (I3 100)) (A2 := A4) (by
        rw [un _ _ (by omega), un _ _ (by omega), rgX_up (I := I3) (A := A3) (fun i a b => un _ _ (by omega)) (fun r a b => y3 r (by omega))]
        exact x1) (by rw [un _ _ (by omega)]; exact x7) (by rw [un _ _ (by omega)]; exact x8) (fun i hi => fI i (by omega) (by omega) (by omega) (by omega) (by omega) (by omega)) (fun r hr => fA r (by omega)) (k := kk) (r61 := r61) (r62 := A2 62) (s' := A2 60) z2 ⟨okc, by rw [us]; exact y2, cm2⟩
      refine inv_fr (fun i hi => ?_) (fun r hr => ?_) hc
      · by_cases q : i = 946
        · subst q; rw [us, us]
        · rw [un _ _ q, un _ _ q, k4 i (by omega)]
      · by_cases q : r = 61
        · subst q; rw [us, un _ _ (by omega), us]
        · rw [un _ _ q]
          by_cases q2 : r = 60
          · subst q2; rw [us]
          · rw [un _ _ q2, un _ _ q, un _ _ (by omega)]
            exact k5 r q2 (by omega) (by omega) (by omega) (by omega)
