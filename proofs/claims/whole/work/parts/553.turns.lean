theorem n10 : ¬ (1 : Int32) = 0 := by decide
theorem z00 : (0 : Int32) = 0 := rfl
/-- the value of the first k figures -/
def vdg (t : Nat → Int32) (a : Nat) : Nat → Int32
  | 0 => 0
  | k + 1 => ((10 * vdg t a k) + t (a + k)) - 48
theorem o_add (a b : Nat) : Int32.ofNat a + Int32.ofNat b = Int32.ofNat (a + b) := (Int32.ofNat_add a b).symm
theorem o_sub {a b : Nat} : Int32.ofNat (a + b) - Int32.ofNat a = Int32.ofNat b := by
  rw [Int32.ofNat_add, Int32.add_comm, Int32.add_sub_cancel]
theorem off_l {t : Nat → Int32} {n a : Nat} {A : Nat → Nat → Int32} {L : Nat → Int64} {A' : Nat → Nat → Int32} {L' : Nat → Int64} : ∀ (f k : Nat) (I I' : Nat → Int32) (v : Int32), n - (a + k) < f → RX I A t n (a + k) → RM I' A' t n a → I 919 = (if k ≤ 2 then vdg t a k else 0) → (k ≤ 2 → v = vdg t a k) → ∃ (r w : Int32) (b : Nat) (I1 : Nat → Int32), f_X3_readOff_p15 f (Int32.ofNat a) I A L = some (r, I1, A, L) ∧ f_X7_readsOff_p8 f v (Int32.ofNat k) I' A' L' = some (w, va_up I' 951 (Int32.ofNat b), A', L') ∧ RX I1 A t n b ∧ a ≤ b ∧ (∀ i, i ≠ 914 → i ≠ 919 → I1 i = I i) ∧ ((r = 0 ∧ w = 0 ∧ b = a) ∨ (r = 1 ∧ (1 ≤ w ∧ w ≤ 60) ∧ I1 919 = w)) := by
  intro f
  induction f with
  | zero => intro k I I' v h; omega
  | succ f ih =>
    intro k I I' v hf hx hm h19 hv
    have hn := hx.2.2.1
    have hak := hx.2.2.2.1
    rw [f_X3_readOff_p15_e, f_X7_readsOff_p8_e, hm.2.1, o_add, byteAt_s hm (by omega), bd_some, m_in, bd_some, hx.1, hx.2.1]
    have endd : ∃ (r w : Int32) (b : Nat) (I1 : Nat → Int32), f_X3_readOff_p105 (Int32.ofNat a) I A L = some (r, I1, A, L) ∧ (if Int32.ofNat k = 0 then (some ((0 : Int32), I', A', L')) else (if 2 < Int32.ofNat k then (some (0, I', A', L')) else (Option.bind (f_X7_in I' A' L' v 1 60) (fun v6 => if v6 = 0 then (some (0, I', A', L')) else (g_lt (va_up I' 951 (Int32.ofNat (a + k))) (fun I7 => some (v, I7, A', L'))))))) = some (w, va_up I' 951 (Int32.ofNat b), A', L') ∧ RX I1 A t n b ∧ a ≤ b ∧ (∀ i, i ≠ 914 → i ≠ 919 → I1 i = I i) ∧ ((r = 0 ∧ w = 0 ∧ b = a) ∨ (r = 1 ∧ (1 ≤ w ∧ w ≤ 60) ∧ I1 919 = w)) := by
      unfold f_X3_readOff_p105
      rw [hx.2.1, o_sub, g_lt_eq, g_lt_eq]
      have em : va_up I' 951 (Int32.ofNat a) = I' := by rw [← hm.2.1, uself]
      have fail : ∀ F : Option (Int32 × gS), F = some (0, I', A', L') → ∃ (r w : Int32) (b : Nat) (I1 : Nat → Int32), (some ((0 : Int32), va_up I 914 (Int32.ofNat a), A, L)) = some (r, I1, A, L) ∧ F = some (w, va_up I' 951 (Int32.ofNat b), A', L') ∧ RX I1 A t n b ∧ a ≤ b ∧ (∀ i, i ≠ 914 → i ≠ 919 → I1 i = I i) ∧ ((r = 0 ∧ w = 0 ∧ b = a) ∨ (r = 1 ∧ (1 ≤ w ∧ w ≤ 60) ∧ I1 919 = w)) := fun F hF => ⟨0, 0, a, va_up I 914 (Int32.ofNat a), rfl, by rw [hF, em], RX_at hx (by omega), Nat.le_refl _, fun i a1 a2 => un _ _ a1, Or.inl ⟨rfl, rfl, rfl⟩⟩
      by_cases h2 : 2 < k
      · have e2 : (2 : Int32) < Int32.ofNat k := by rw [i_lt, i_nat (by omega)]; show (2 : Int) < k; omega
        rw [if_pos e2]
        exact fail _ (by
          rw [if_pos e2]
          split <;> rfl)
      · have e2 : ¬ (2 : Int32) < Int32.ofNat k := by rw [i_lt, i_nat (by omega)]; show ¬ (2 : Int) < k; omega
        have h19' : I 919 = vdg t a k := by rw [h19, if_pos (show k ≤ 2 by omega)]
        rw [if_neg e2, if_neg e2, x_off, m_in, bd_some, bd_some, h19', hv (by omega)]
        by_cases q : 1 ≤ vdg t a k ∧ vdg t a k ≤ 60
        · rw [if_pos q, if_neg (show ¬ (1 : Int32) = 0 by decide), if_neg (show ¬ (1 : Int32) = 0 by decide)]
          have hk0 : ¬ Int32.ofNat k = 0 := by
            intro z
            rw [i_eq, i_nat (by omega)] at z
            have z : (k : Int) = 0 := z
            have : k = 0 := by omega
            rw [this] at q
            exact absurd q.1 (by show ¬ (1 : Int32) ≤ 0; decide)
          rw [if_neg hk0]
          exact ⟨1, vdg t a k, a + k, I, rfl, rfl, hx, by omega, fun _ _ _ => rfl, Or.inr ⟨rfl, q, h19'⟩⟩
        · rw [if_neg q, if_pos (show (0 : Int32) = 0 from rfl), if_pos (show (0 : Int32) = 0 from rfl)]
          exact fail _ (by split <;> rfl)
    by_cases hlt : a + k < n
    · have hb : byt t n (a + k) = t (a + k) := by unfold byt; rw [if_pos hlt]
      rw [if_neg (o_nle (by omega) (by omega) hlt), o_ck (by omega) (by omega), o_ck (by omega) (by omega), i_tnn (by omega), hx.2.2.2.2 _ hlt, hb]
      by_cases q : 48 ≤ t (a + k) ∧ t (a + k) ≤ 57
      · rw [if_neg (Int32.not_lt.mpr q.1), if_neg (Int32.not_lt.mpr q.2), if_pos q, if_neg n10, o_sub]
        simp only [g_lt_eq]
        rw [o_ck (by omega) (by omega), o_ck (by omega) (by omega), i_1, hm.2.2.2.2 _ hlt]
        by_cases h2 : 2 ≤ k
        · have e2 : (2 : Int32) ≤ Int32.ofNat k := o_le (a := 2) (by omega) (by omega) h2
          rw [if_pos e2, un _ _ (by omega), hx.2.1, i_1]
          obtain ⟨r, w, b, I1, p1, p2, p3, p4, p5, p6⟩ := ih (k + 1) (va_up (va_up I 919 0) 914 (Int32.ofNat (a + k + 1))) I' (if (3 : Int32) ≤ Int32.ofNat k then v else 10 * v + t (a + k) - 48) (by omega) (RX_at (RX_up hx (by omega) (by omega)) hlt) hm (by rw [un _ _ (by omega), us, if_neg (by omega)]) (fun z => by omega)
          refine ⟨r, w, b, I1, p1, ?_, p3, p4, fun i a1 a2 => by rw [p5 i a1 a2, un _ _ a1, un _ _ a2], p6⟩
          rw [← p2]
          split <;> rfl
        · have e2 : ¬ (2 : Int32) ≤ Int32.ofNat k := o_nle (a := 2) (by omega) (by omega) (by omega)
          have e3 : ¬ (3 : Int32) ≤ Int32.ofNat k := o_nle (a := 3) (by omega) (by omega) (by omega)
          rw [if_neg e2, if_neg e3, un _ _ (by omega), hx.2.1, i_1, h19, if_pos (show k ≤ 2 by omega), hv (by omega)]
          obtain ⟨r, w, b, I1, p1, p2, p3, p4, p5, p6⟩ := ih (k + 1) (va_up (va_up I 919 (10 * vdg t a k + t (a + k) - 48)) 914 (Int32.ofNat (a + k + 1))) I' (10 * vdg t a k + t (a + k) - 48) (by omega) (RX_at (RX_up hx (by omega) (by omega)) hlt) hm (by rw [un _ _ (by omega), us, if_pos (by omega)]; rfl) (fun z => rfl)
          exact ⟨r, w, b, I1, p1, p2, p3, p4, fun i a1 a2 => by rw [p5 i a1 a2, un _ _ a1, un _ _ a2], p6⟩
      · rw [if_neg q, if_pos z00]
        obtain ⟨r, w, b, I1, p1, p2⟩ := endd
        refine ⟨r, w, b, I1, ?_, p2⟩
        by_cases q1 : t (a + k) < 48
        · rw [if_pos q1]; exact p1
        · rw [if_neg q1, if_pos (i_nle (fun z => q ⟨i_nlt q1, z⟩))]; exact p1
    · have hb : byt t n (a + k) = -1 := by unfold byt; rw [if_neg hlt]
      rw [if_pos (o_le (by omega) (by omega) (by omega)), hb, if_neg (show ¬ ((48 : Int32) ≤ -1 ∧ (-1 : Int32) ≤ 57) by decide), if_pos z00]
      exact endd
theorem off_b {t : Nat → Int32} {n a : Nat} {I : Nat → Int32} {A : Nat → Nat → Int32} {L : Nat → Int64} {I' : Nat → Int32} {A' : Nat → Nat → Int32} {L' : Nat → Int64} (hx : RX I A t n a) (hm : RM I' A' t n a) : ∃ (r w : Int32) (b : Nat) (I1 : Nat → Int32), f_X3_readOff I A L = some (r, I1, A, L) ∧ f_X7_readsOff I' A' L' = some (w, va_up I' 951 (Int32.ofNat b), A', L') ∧ RX I1 A t n b ∧ a ≤ b ∧ (∀ i, i ≠ 914 → i ≠ 919 → I1 i = I i) ∧ ((r = 0 ∧ w = 0 ∧ byt t n b ≠ 32) ∨ (r = 1 ∧ (1 ≤ w ∧ w ≤ 60) ∧ I1 919 = w)) := by
  have ha := hx.2.2.2.1
  have hn := hx.2.2.1
  have hs := skp_le (t := t) ha
  have hsn := skp_ne (t := t) (n := n) _ a rfl ha
  unfold f_X3_readOff f_X7_readsOff
  rw [look_s hx, b2_some, g_lt_eq, us, skips_s hm, b1_some]
  obtain ⟨r, w, b, I1, p1, p2, p3, p4, p5, p6⟩ := off_l (a := skp t n a) (L := L) (L' := L') 4096 0 (va_up (va_up I 914 (Int32.ofNat (skp t n a))) 919 0) (va_up I' 951 (Int32.ofNat (skp t n a))) 0 (by omega) (RX_up (RX_at hx hs.2) (by omega) (by omega)) (RM_at hm hs.2) (by rw [us]; rfl) (fun _ => rfl)
  have p2 : f_X7_readsOff_p8 4096 0 0 _ _ _ = _ := p2
  refine ⟨r, w, b, I1, p1, by rw [p2, uu], p3, by omega, fun i a1 a2 => by rw [p5 i a1 a2, un _ _ a2, un _ _ a1], ?_⟩
  rcases p6 with ⟨a1, a2, a3⟩ | a1
  · exact Or.inl ⟨a1, a2, by rw [a3]; exact hsn⟩
  · exact Or.inr a1
theorem bits_d : ∀ s, s < 64 → ∀ d, d < 6 → ((Int32.ofNat s ||| (1 <<< ((Int32.ofNat (48 + d) - 48) &&& 31))) == Int32.ofNat (s ||| 2 ^ d)) = true ∧ (s ||| 2 ^ d) < 64 ∧ (s ||| 2 ^ d) ≠ 0 := by decide +kernel
theorem bits_c {s : Nat} {c : Int32} (hs : s < 64) (hc : 48 ≤ c ∧ c ≤ 53) : ∃ s', s' < 64 ∧ s' ≠ 0 ∧ (Int32.ofNat s ||| (1 <<< ((c - 48) &&& 31))) = Int32.ofNat s' := by
  have h1 := i_le.mp hc.1
  have h2 := i_le.mp hc.2
  have h1 : 48 ≤ c.toInt := h1
  have h2 : c.toInt ≤ 53 := h2
  have e : c = Int32.ofNat (48 + (c.toInt - 48).toNat) := by
    rw [i_eq, i_nat (by omega)]; omega
  obtain ⟨a1, a2, a3⟩ := bits_d s hs (c.toInt - 48).toNat (by omega)
  rw [← e] at a1
  exact ⟨_, a2, a3, eq_of_beq a1⟩
theorem turns_l {t : Nat → Int32} {n : Nat} {A : Nat → Nat → Int32} {L : Nat → Int64} {A' : Nat → Nat → Int32} {L' : Nat → Int64} : ∀ (f i a s : Nat) (I I' : Nat → Int32), 121 - i < f → i ≤ a → s < 64 → RX I A t n a → RM I' A' t n (skp t n a) → I 915 = Int32.ofNat s → ∃ (r w : Int32) (b : Nat) (I1 : Nat → Int32), f_X3_readTurns_p2 f (Int32.ofNat i) I A L = some (r, I1, A, L) ∧ f_X7_readsTurns_p6 f (Int32.ofNat s) I' A' L' = some (w, va_up I' 951 (Int32.ofNat b), A', L') ∧ RX I1 A t n b ∧ a ≤ b ∧ (∀ i, i ≠ 914 → i ≠ 915 → I1 i = I i) ∧ ((r = 0 ∧ w = -1 ∧ byt t n b ≠ 32) ∨ (r = 1 ∧ ∃ s', s' < 64 ∧ w = Int32.ofNat s' ∧ I1 915 = w)) := by
  intro f
  induction f with
  | zero => intro i a s I I' h; omega
  | succ f ih =>
    intro i a s I I' hf hia hs hx hm h15
    have hn := hx.2.2.1
    have han := hx.2.2.2.1
    have hsk := skp_le (t := t) han
    have hsn := skp_ne (t := t) (n := n) _ a rfl han
    have hskk := skp_skp (t := t) han
    rw [f_X3_readTurns_p2_e, f_X7_readsTurns_p6_e, hm.2.1, byteAt_s hm (by omega), bd_some, m_in, bd_some]
    generalize hz : skp t n a = z at hsk hsn hskk hm
    by_cases hi : i = 120
    · have : a = 120 := by omega
      have hz' : z = n := by omega
      have hb : byt t n z = -1 := by unfold byt; rw [if_neg (by omega)]
      have em : va_up I' 951 (Int32.ofNat z) = I' := by rw [← hm.2.1, uself]
      rw [if_pos (show (120 : Int32) ≤ Int32.ofNat i by rw [hi]; decide), hb, if_neg (show ¬ ((48 : Int32) ≤ -1 ∧ (-1 : Int32) ≤ 53) by decide), if_pos z00]
      refine ⟨0, -1, z, I, rfl, ?_, by rw [show z = a by omega]; exact hx, by omega, fun _ _ _ => rfl, Or.inl ⟨rfl, rfl, hsn⟩⟩
      rw [em]
      by_cases q : Int32.ofNat s = 0
      · rw [if_pos q]
      · rw [if_neg q, bd_some, if_neg (by decide)]
    · rw [if_neg (show ¬ (120 : Int32) ≤ Int32.ofNat i from o_nle (a := 120) (by omega) (by omega) (by omega)), look_s hx, b2_some, hz, un _ _ (by omega), h15]
      have em : va_up I' 951 (Int32.ofNat z) = I' := by rw [← hm.2.1, uself]
      unfold f_X3_readTurns_p38
      by_cases q : 48 ≤ byt t n z ∧ byt t n z ≤ 53
      · obtain ⟨l1, l2⟩ := byt_48 q.1
        have q58 : ¬ byt t n z = 58 := fun y => by rw [y] at q; exact absurd q.2 (by decide)
        rw [if_neg q58, if_neg (Int32.not_lt.mpr q.1), if_pos q.2, if_pos q, if_neg n10]
        simp only [g_lt_eq]
        rw [un _ _ (show 914 ≠ 915 by omega), un _ _ (show 915 ≠ 914 by omega), us, h15, o_ck (by omega) (by omega), i_tnn (by omega), hm.2.2.2.2 _ l1, i_1, i_1, skips_s (RM_at hm l1), b1_some, uu, ← l2]
        obtain ⟨s', b1, b2, b3⟩ := bits_c hs q
        rw [b3]
        obtain ⟨r, w, b, I1, p1, p2, p3, p4, p5, p6⟩ := ih (i + 1) (z + 1) s' (va_up (va_up (va_up I 914 (Int32.ofNat z)) 915 (Int32.ofNat s')) 914 (Int32.ofNat (z + 1))) (va_up I' 951 (Int32.ofNat (skp t n (z + 1)))) (by omega) (by omega) b1 (RX_at (RX_up (RX_at hx hsk.2) (by omega) (by omega)) l1) (RM_at hm (skp_le l1).2) (by rw [un _ _ (by omega), us])
        exact ⟨r, w, b, I1, p1, by rw [p2, uu], p3, by omega, fun j a1 a2 => by rw [p5 j a1 a2, un _ _ a1, un _ _ a2, un _ _ a1], p6⟩
      · rw [if_neg q, if_pos z00]
        have fail : ∀ F G : Option (Int32 × gS), F = some (0, va_up I 914 (Int32.ofNat z), A, L) → G = some (-1, I', A', L') → ∃ (r w : Int32) (b : Nat) (I1 : Nat → Int32), F = some (r, I1, A, L) ∧ G = some (w, va_up I' 951 (Int32.ofNat b), A', L') ∧ RX I1 A t n b ∧ a ≤ b ∧ (∀ i, i ≠ 914 → i ≠ 915 → I1 i = I i) ∧ ((r = 0 ∧ w = -1 ∧ byt t n b ≠ 32) ∨ (r = 1 ∧ ∃ s', s' < 64 ∧ w = Int32.ofNat s' ∧ I1 915 = w)) := fun F G hF hG => ⟨0, -1, z, _, hF, by rw [hG, em], RX_at hx hsk.2, by omega, fun j a1 a2 => un _ _ a1, Or.inl ⟨rfl, rfl, hsn⟩⟩
        have hp38 : (if byt t n z < 48 then (some ((0 : Int32), va_up I 914 (Int32.ofNat z), A, L)) else (if byt t n z ≤ 53 then (g_lt (va_up (va_up I 914 (Int32.ofNat z)) 915 (((va_up I 914 (Int32.ofNat z)) 915) ||| (1 <<< ((byt t n z - 48) &&& 31)))) (fun I1 => g_lt (va_up I1 914 ((I1 914) + 1)) (fun I2 => f_X3_readTurns_p2 f (Int32.ofNat i + 1) I2 A L))) else (some (0, va_up I 914 (Int32.ofNat z), A, L)))) = some (0, va_up I 914 (Int32.ofNat z), A, L) := by
          by_cases y : byt t n z < 48
          · rw [if_pos y]
          · rw [if_neg y, if_neg (fun x => q ⟨i_nlt y, x⟩)]
        by_cases q58 : byt t n z = 58
        · by_cases hs0 : Int32.ofNat s = 0
          · rw [if_pos q58, if_pos hs0, if_pos hs0]
            exact fail _ _ hp38 rfl
          · have l1 := (byt_lt (t := t) (n := n) (a := z) (by rw [q58]; decide)).1
            rw [if_pos q58, if_neg hs0, if_neg hs0, bd_some, if_pos q58, g_lt_eq, g_lt_eq, us, uu, i_1]
            exact ⟨1, Int32.ofNat s, z + 1, _, rfl, rfl, RX_at hx l1, by omega, fun j a1 a2 => un _ _ a1, Or.inr ⟨rfl, s, hs, rfl, by rw [un _ _ (by omega), h15]⟩⟩
        · rw [if_neg q58]
          refine fail _ _ hp38 ?_
          by_cases hs0 : Int32.ofNat s = 0
          · rw [if_pos hs0]
          · rw [if_neg hs0, bd_some, if_neg q58]
theorem turns_b {t : Nat → Int32} {n a : Nat} {I : Nat → Int32} {A : Nat → Nat → Int32} {L : Nat → Int64} {I' : Nat → Int32} {A' : Nat → Nat → Int32} {L' : Nat → Int64} (hx : RX I A t n a) (hm : RM I' A' t n (skp t n a)) (h15 : I 915 = 0) : ∃ (r w : Int32) (b : Nat) (I1 : Nat → Int32), f_X3_readTurns I A L = some (r, I1, A, L) ∧ f_X7_readsTurns I' A' L' = some (w, va_up I' 951 (Int32.ofNat b), A', L') ∧ RX I1 A t n b ∧ a ≤ b ∧ (∀ i, i ≠ 914 → i ≠ 915 → I1 i = I i) ∧ ((r = 0 ∧ w = -1 ∧ byt t n b ≠ 32) ∨ (r = 1 ∧ ∃ s', s' < 64 ∧ w = Int32.ofNat s' ∧ I1 915 = w)) := by
  unfold f_X3_readTurns f_X7_readsTurns
  rw [skips_s hm, b1_some, skp_skp hx.2.2.2.1, ← hm.2.1, uself]
  obtain ⟨r, w, b, I1, p1, p2, p3⟩ := turns_l (L := L) (L' := L') 4096 0 a 0 I I' (by omega) (by omega) (by omega) hx hm h15
  have p1 : f_X3_readTurns_p2 4096 0 _ _ _ = _ := p1
  have p2 : f_X7_readsTurns_p6 4096 0 _ _ _ = _ := p2
  exact ⟨r, w, b, I1, p1, p2, p3⟩
