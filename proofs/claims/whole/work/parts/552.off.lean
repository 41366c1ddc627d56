theorem fgA_ge {t : Nat → Int32} {n a : Nat} (h : a ≤ n) : a ≤ fgA t n a := by
  have h1 := skp_le (t := t) h
  unfold fgA
  split
  next q =>
    have := (byt_lt (t := t) (n := n) (a := skp t n a) (by rw [q]; decide)).1
    have := skp_le (t := t) (n := n) (a := skp t n a + 1) (by omega)
    omega
  next => omega
theorem fgA_c {t : Nat → Int32} {n a a' : Nat} (h : skp t n a' = skp t n a) : fgA t n a' = fgA t n a ∧ fgV t n a' = fgV t n a := by
  have : fgA t n a' = fgA t n a := by unfold fgA; rw [h]
  refine ⟨this, ?_⟩
  unfold fgV
  rw [h, this]
theorem sgx (I : Nat → Int32) (A : Nat → Nat → Int32) (L : Nat → Int64) {h k l : Int32} (h1 : -3 ≤ h ∧ h ≤ 3) (h2 : -3 ≤ k ∧ k ≤ 3) (h3 : -3 ≤ l ∧ l ≤ 3) : f_X6_isSign I A L h k l = some (if h = 0 ∧ k = 0 ∧ l = 0 then 0 else 1) := by
  by_cases q : h = 0 ∧ k = 0 ∧ l = 0
  · rw [if_pos q]; exact x_sign0 I A L (fun s => s.2.2.2 q)
  · rw [if_neg q]; exact x_sign1 I A L ⟨h1, h2, h3, q⟩
theorem sign_b {t : Nat → Int32} {n a a' : Nat} {I : Nat → Int32} {A : Nat → Nat → Int32} {L : Nat → Int64} {I' : Nat → Int32} {A' : Nat → Nat → Int32} {L' : Nat → Int64} (hx : RX I A t n a) (hm : RM I' A' t n a') (hsk : skp t n a' = skp t n a) : ∃ (r : Int32) (b : Nat) (I1 : Nat → Int32) (s : Nat → Int32), f_X3_readSign I A L = some (r, I1, A, L) ∧ f_X7_readsSign I' A' L' = some (r, va_up I' 951 (Int32.ofNat b), va_up A' 68 s, L') ∧ RX I1 A t n b ∧ a ≤ b ∧ (∀ i, (i < 914 ∨ i = 915 ∨ i = 919 ∨ 920 < i) → I1 i = I i) ∧ ((r = 0 ∧ byt t n b ≠ 32) ∨ (r = 1 ∧ sgn (s 0) (s 1) (s 2) ∧ I1 916 = s 0 ∧ I1 917 = s 1 ∧ I1 918 = s 2)) := by
  have hn := hx.2.2.1
  have ha := hx.2.2.2.1
  have e0 : f_X7_readsSign I' A' L' = f_X7_readsSign_p2 (4095 + 1) (Int32.ofNat 0) I' A' L' := rfl
  obtain ⟨w1, w2⟩ := fgA_c hsk
  rw [e0, fig_m hm (by omega) 4095, w1, w2]
  unfold f_X3_readSign
  obtain ⟨I1, f1, g1⟩ := fig_x (L := L) hx
  have ne1 := fgA_ne (t := t) ha
  have ge1 := fgA_ge (t := t) ha
  generalize hb1 : fgA t n a = b1 at g1 ne1 ge1 w1 ⊢
  generalize hv1 : fgV t n a = v1 at g1 ⊢
  by_cases q1 : 48 ≤ byt t n b1 ∧ byt t n b1 ≤ 51
  · have y1 := hv1 ▸ fgV_in (t := t) (n := n) (a := a) (by rw [hb1]; exact q1)
    rw [if_pos q1] at g1 ⊢
    obtain ⟨e1, x1, z1⟩ := g1
    rw [e1, b2_some, if_neg (by decide), g_lt_eq, z1]
    have x1' := RX_up (i := 916) (v := v1) x1 (by omega) (by omega)
    have m1 := RM_A (r := 68) (row := upd (A' 68) 0 v1) (RM_at (b := b1 + 1) hm x1.2.2.2.1) (by omega)
    have e0 : f_X7_readsSign_p2 4095 (Int32.ofNat (0 + 1)) (va_up I' 951 (Int32.ofNat (b1 + 1))) (va_up A' 68 (upd (A' 68) 0 v1)) L' = f_X7_readsSign_p2 (4094 + 1) (Int32.ofNat 1) (va_up I' 951 (Int32.ofNat (b1 + 1))) (va_up A' 68 (upd (A' 68) 0 v1)) L' := rfl
    rw [e0, fig_m m1 (by omega) 4094]
    obtain ⟨I2, f2, g2⟩ := fig_x (L := L) x1'
    have ne2 := fgA_ne (t := t) x1.2.2.2.1
    have ge2 := fgA_ge (t := t) x1.2.2.2.1
    generalize hb2 : fgA t n (b1 + 1) = b2 at g2 ne2 ge2 ⊢
    generalize hv2 : fgV t n (b1 + 1) = v2 at g2 ⊢
    by_cases q2 : 48 ≤ byt t n b2 ∧ byt t n b2 ≤ 51
    · have y2 := hv2 ▸ fgV_in (t := t) (n := n) (a := b1 + 1) (by rw [hb2]; exact q2)
      rw [if_pos q2] at g2 ⊢
      obtain ⟨e2, x2, z2⟩ := g2
      rw [e2, b2_some, if_neg (by decide), g_lt_eq, z2, uu, uu, us]
      have x2' := RX_up (i := 917) (v := v2) x2 (by omega) (by omega)
      have m2 := RM_A (r := 68) (row := upd (upd (A' 68) 0 v1) 1 v2) (RM_at (b := b2 + 1) hm x2.2.2.2.1) (by omega)
      have e0 : f_X7_readsSign_p2 4094 (Int32.ofNat (1 + 1)) (va_up I' 951 (Int32.ofNat (b2 + 1))) (va_up A' 68 (upd (upd (A' 68) 0 v1) 1 v2)) L' = f_X7_readsSign_p2 (4093 + 1) (Int32.ofNat 2) (va_up I' 951 (Int32.ofNat (b2 + 1))) (va_up A' 68 (upd (upd (A' 68) 0 v1) 1 v2)) L' := rfl
      rw [e0, fig_m m2 (by omega) 4093]
      obtain ⟨I3, f3, g3⟩ := fig_x (L := L) x2'
      have ne3 := fgA_ne (t := t) x2.2.2.2.1
      have ge3 := fgA_ge (t := t) x2.2.2.2.1
      generalize hb3 : fgA t n (b2 + 1) = b3 at g3 ne3 ge3 ⊢
      generalize hv3 : fgV t n (b2 + 1) = v3 at g3 ⊢
      by_cases q3 : 48 ≤ byt t n b3 ∧ byt t n b3 ≤ 51
      · have y3 := hv3 ▸ fgV_in (t := t) (n := n) (a := b2 + 1) (by rw [hb3]; exact q3)
        rw [if_pos q3] at g3 ⊢
        obtain ⟨e3, x3, z3⟩ := g3
        rw [e3, b2_some, if_neg (by decide), g_lt_eq, z3, uu, uu, us]
        have x3' := RX_up (i := 918) (v := v3) x3 (by omega) (by omega)
        have m3 := RM_A (r := 68) (row := upd (upd (upd (A' 68) 0 v1) 1 v2) 2 v3) (RM_at (b := b3 + 1) hm x3.2.2.2.1) (by omega)
        have hs3 := skp_le (t := t) x3.2.2.2.1
        have hsn := skp_ne (t := t) (n := n) _ (b3 + 1) rfl x3.2.2.2.1
        generalize hb4 : skp t n (b3 + 1) = b4 at hs3 hsn
        have m4 : f_X7_readsSign_p2 4093 (Int32.ofNat (2 + 1)) (va_up I' 951 (Int32.ofNat (b3 + 1))) (va_up A' 68 (upd (upd (upd (A' 68) 0 v1) 1 v2) 2 v3)) L' = if byt t n b4 = 47 then (if v1 = 0 ∧ v2 = 0 ∧ v3 = 0 then some (0, va_up I' 951 (Int32.ofNat b4), va_up A' 68 (upd (upd (upd (A' 68) 0 v1) 1 v2) 2 v3), L') else some (1, va_up I' 951 (Int32.ofNat (b4 + 1)), va_up A' 68 (upd (upd (upd (A' 68) 0 v1) 1 v2) 2 v3), L')) else some (0, va_up I' 951 (Int32.ofNat b4), va_up A' 68 (upd (upd (upd (A' 68) 0 v1) 1 v2) 2 v3), L') := by
          rw [show (4093 : Nat) = 4092 + 1 from rfl, f_X7_readsSign_p2_e, if_pos (by decide), skips_s m3, b1_some, hb4, uu, us, byteAt_s (RM_A (RM_at hm hs3.2) (by omega)) (by omega), bd_some]
          by_cases q : byt t n b4 = 47
          · rw [if_pos q, if_pos q, g_lt_eq, uu, i_1, us]
            have c0 : ∀ {τ : Type} (F : Option τ), g_ck 0 3 F = F := fun F => rfl
            have c1 : ∀ {τ : Type} (F : Option τ), g_ck 1 3 F = F := fun F => rfl
            have c2 : ∀ {τ : Type} (F : Option τ), g_ck 2 3 F = F := fun F => rfl
            rw [c0, c1, c2, show Int32.toNatClampNeg 0 = 0 from rfl, show Int32.toNatClampNeg 1 = 1 from rfl, show Int32.toNatClampNeg 2 = 2 from rfl, ds, dn _ _ (show 0 ≠ 2 by omega), dn _ _ (show 0 ≠ 1 by omega), ds, dn _ _ (show 1 ≠ 2 by omega), ds]
            by_cases p1 : v1 = 0
            · rw [if_pos p1]
              by_cases p2 : v2 = 0
              · rw [if_pos p2]
                by_cases p3 : v3 = 0
                · rw [if_pos p3, if_pos ⟨p1, p2, p3⟩]
                · rw [if_neg p3, if_neg (fun z => p3 z.2.2)]
              · rw [if_neg p2, if_neg (fun z => p2 z.2.1)]
            · rw [if_neg p1, if_neg (fun z => p1 z.1)]
          · rw [if_neg q, if_neg q]
        rw [m4, look_s x3', b2_some, hb4]
        have fr3 : ∀ i, (i < 914 ∨ i = 915 ∨ i = 919 ∨ 920 < i) → va_up (va_up I3 918 v3) 914 (Int32.ofNat b4) i = I i := fun i hi => by rw [un _ _ (by omega), un _ _ (by omega), f3 i (by omega) (by omega), un _ _ (by omega), f2 i (by omega) (by omega), un _ _ (by omega), f1 i (by omega) (by omega)]
        have k16 : va_up (va_up I3 918 v3) 914 (Int32.ofNat b4) 916 = v1 := by rw [un _ _ (by omega), un _ _ (by omega), f3 916 (by omega) (by omega), un _ _ (by omega), f2 916 (by omega) (by omega), us]
        have k17 : va_up (va_up I3 918 v3) 914 (Int32.ofNat b4) 917 = v2 := by rw [un _ _ (by omega), un _ _ (by omega), f3 917 (by omega) (by omega), us]
        have k18 : va_up (va_up I3 918 v3) 914 (Int32.ofNat b4) 918 = v3 := by rw [un _ _ (by omega), us]
        by_cases q : byt t n b4 = 47
        · have q9 := (byt_lt (t := t) (n := n) (a := b4) (by rw [q]; decide)).1
          rw [if_pos q, if_pos q, k16, k17, k18, sgx _ _ _ y1 y2 y3, bd_some]
          by_cases p : v1 = 0 ∧ v2 = 0 ∧ v3 = 0
          · rw [if_pos p, if_pos p, if_pos rfl]
            exact ⟨0, b4, _, _, rfl, rfl, RX_at x3' hs3.2, by omega, fr3, Or.inl ⟨rfl, hsn⟩⟩
          · rw [if_neg p, if_neg p, if_neg (by decide), g_lt_eq, uu, us, i_1]
            refine ⟨1, b4 + 1, va_up (va_up I3 918 v3) 914 (Int32.ofNat (b4 + 1)), upd (upd (upd (A' 68) 0 v1) 1 v2) 2 v3, rfl, rfl, RX_at x3' (by omega), by omega, fun i hi => ?_, Or.inr ⟨rfl, ⟨y1, y2, y3, p⟩, ?_, ?_, ?_⟩⟩
            · have := fr3 i hi
              rw [un _ _ (by omega)] at this ⊢
              exact this
            · rw [un _ _ (by omega)] at k16 ⊢
              exact k16
            · rw [un _ _ (by omega)] at k17 ⊢
              exact k17
            · rw [un _ _ (by omega)] at k18 ⊢
              exact k18
        · rw [if_neg q, if_neg q]
          exact ⟨0, b4, _, _, rfl, rfl, RX_at x3' hs3.2, by omega, fr3, Or.inl ⟨rfl, hsn⟩⟩
      · rw [if_neg q3] at g3 ⊢
        obtain ⟨e3, x3⟩ := g3
        rw [e3, b2_some, if_pos rfl, uu]
        exact ⟨0, b3, I3, _, rfl, rfl, x3, by omega, fun i hi => by rw [f3 i (by omega) (by omega), un _ _ (by omega), f2 i (by omega) (by omega), un _ _ (by omega), f1 i (by omega) (by omega)], Or.inl ⟨rfl, ne3⟩⟩
    · rw [if_neg q2] at g2 ⊢
      obtain ⟨e2, x2⟩ := g2
      rw [e2, b2_some, if_pos rfl, uu]
      exact ⟨0, b2, I2, _, rfl, rfl, x2, by omega, fun i hi => by rw [f2 i (by omega) (by omega), un _ _ (by omega), f1 i (by omega) (by omega)], Or.inl ⟨rfl, ne2⟩⟩
  · rw [if_neg q1] at g1 ⊢
    obtain ⟨e1, x1⟩ := g1
    rw [e1, b2_some, if_pos rfl]
    exact ⟨0, b1, I1, A' 68, rfl, by rw [uself], x1, by omega, fun i hi => f1 i (by omega) (by omega), Or.inl ⟨rfl, ne1⟩⟩
