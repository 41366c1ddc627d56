/-! stays, symmetry -/
def tq (t : Nat) (v : Q4) : Q4 :=
  (if t = 3 then -v.2.1 else if t = 4 then v.2.2.1 else if t = 5 then v.2.1 else -v.1,
   if t = 0 then -v.2.1 else if t = 1 then v.2.1 else if t = 2 then -v.2.1 else v.1,
   if t = 0 then -v.2.2.1 else if t = 4 then v.2.1 else v.2.2.1, v.2.2.2)
theorem tq_bP {x y z d : Int32} {v : Q4} (h : bP x y z d v) {t : Nat} (ht : t < 6) : bP (mt0 t x y z) (mt1 t x y z) (mt2 t x y z) d (tq t v) := by
  obtain ⟨h1, h2, h3, h4⟩ := h
  have n1 := b_neg h1 (by decide)
  have n2 := b_neg h2 (by decide)
  have n3 := b_neg h3 (by decide)
  rcases (show t = 0 ∨ t = 1 ∨ t = 2 ∨ t = 3 ∨ t = 4 ∨ t = 5 by omega) with rfl | rfl | rfl | rfl | rfl | rfl
  · exact ⟨n1, n2, n3, h4⟩
  · exact ⟨n1, h2, h3, h4⟩
  · exact ⟨n1, n2, h3, h4⟩
  · exact ⟨n2, h1, h3, h4⟩
  · exact ⟨h3, h1, h2, h4⟩
  · exact ⟨h2, h1, h3, h4⟩
theorem tq_rdc {v : Q4} (h : rdc v) {t : Nat} (ht : t < 6) : rdc (tq t v) := by
  obtain ⟨h1, h2⟩ := h
  have s1 : Nat.gcd (Nat.gcd v.2.1.natAbs v.1.natAbs) (Nat.gcd v.2.2.1.natAbs v.2.2.2.natAbs) = 1 := by rw [Nat.gcd_comm v.2.1.natAbs]; exact h2
  have s2 : Nat.gcd (Nat.gcd v.2.2.1.natAbs v.1.natAbs) (Nat.gcd v.2.1.natAbs v.2.2.2.natAbs) = 1 := by
    rw [← h2, Nat.gcd_comm v.2.2.1.natAbs, Nat.gcd_assoc, Nat.gcd_assoc, ← Nat.gcd_assoc v.2.2.1.natAbs, Nat.gcd_comm v.2.2.1.natAbs, Nat.gcd_assoc]
  rcases (show t = 0 ∨ t = 1 ∨ t = 2 ∨ t = 3 ∨ t = 4 ∨ t = 5 by omega) with rfl | rfl | rfl | rfl | rfl | rfl
  · refine ⟨h1, ?_⟩
    show Nat.gcd (Nat.gcd (-v.1).natAbs (-v.2.1).natAbs) (Nat.gcd (-v.2.2.1).natAbs v.2.2.2.natAbs) = 1
    rw [Int.natAbs_neg, Int.natAbs_neg, Int.natAbs_neg]; exact h2
  · refine ⟨h1, ?_⟩
    show Nat.gcd (Nat.gcd (-v.1).natAbs v.2.1.natAbs) (Nat.gcd v.2.2.1.natAbs v.2.2.2.natAbs) = 1
    rw [Int.natAbs_neg]; exact h2
  · refine ⟨h1, ?_⟩
    show Nat.gcd (Nat.gcd (-v.1).natAbs (-v.2.1).natAbs) (Nat.gcd v.2.2.1.natAbs v.2.2.2.natAbs) = 1
    rw [Int.natAbs_neg, Int.natAbs_neg]; exact h2
  · refine ⟨h1, ?_⟩
    show Nat.gcd (Nat.gcd (-v.2.1).natAbs v.1.natAbs) (Nat.gcd v.2.2.1.natAbs v.2.2.2.natAbs) = 1
    rw [Int.natAbs_neg]; exact s1
  · exact ⟨h1, s2⟩
  · exact ⟨h1, s1⟩
theorem m1_x (x : Int32) : (-1) * x = -x := by rw [Int32.neg_mul, Int32.one_mul]
theorem p1_x (x : Int32) : 1 * x = x := Int32.one_mul x
theorem xturn {t : Nat} (ht : t < 6) (x y z : Int32) (I : Nat → Int32) (A : Nat → Nat → Int32) (L : Nat → Int64) : f_X6_turned I A L (Int32.ofNat t) 0 x y z = some (mt0 t x y z) ∧ f_X6_turned I A L (Int32.ofNat t) 1 x y z = some (mt1 t x y z) ∧ f_X6_turned I A L (Int32.ofNat t) 2 x y z = some (mt2 t x y z) := by
  rcases (show t = 0 ∨ t = 1 ∨ t = 2 ∨ t = 3 ∨ t = 4 ∨ t = 5 by omega) with rfl | rfl | rfl | rfl | rfl | rfl
  · exact ⟨show some ((-1) * x) = some (-x) by rw [m1_x], show some ((-1) * y) = some (-y) by rw [m1_x], show some ((-1) * z) = some (-z) by rw [m1_x]⟩
  · exact ⟨show some ((-1) * x) = some (-x) by rw [m1_x], show some (1 * y) = some y by rw [p1_x], show some (1 * z) = some z by rw [p1_x]⟩
  · exact ⟨show some ((-1) * x) = some (-x) by rw [m1_x], show some ((-1) * y) = some (-y) by rw [m1_x], show some (1 * z) = some z by rw [p1_x]⟩
  · exact ⟨show some ((-1) * y) = some (-y) by rw [m1_x], show some (1 * x) = some x by rw [p1_x], show some (1 * z) = some z by rw [p1_x]⟩
  · exact ⟨show some (1 * z) = some z by rw [p1_x], show some (1 * x) = some x by rw [p1_x], show some (1 * y) = some y by rw [p1_x]⟩
  · exact ⟨show some (1 * y) = some y by rw [p1_x], show some (1 * x) = some x by rw [p1_x], show some (1 * z) = some z by rw [p1_x]⟩
/-- each corner comes to a corner -/
def kpt (t : Nat) (vs : List Q4) : Prop := ∀ v ∈ vs, tq t v ∈ vs
theorem kX_l {I : Nat → Int32} {A : Nat → Nat → Int32} {L : Nat → Int64} {vs : List Q4} (hc : cX I A vs) (hs : vs.Pairwise ltQ) (hrd : ∀ v ∈ vs, rdc v) {t : Nat} (ht : t < 6) : ∀ (n j : Nat), j ≤ vs.length → vs.length - j < n → (∀ i, i < j → tq t (vs.getD i q0) ∈ vs) → ∃ c, f_X4_isKeptBy_p2 38 I A L n (Int32.ofNat t) (Int32.ofNat j) = some c ∧ ((c = 1 ∧ kpt t vs) ∨ (c = 0 ∧ ¬ kpt t vs)) := by
  obtain ⟨hr, h60, hb⟩ := hc
  intro n
  induction n with
  | zero => intro j h1 h2; omega
  | succ n ih =>
    intro j j1 j2 j3
    rw [f_X4_isKeptBy_p2_e, show I (16 * 38 + 7) = Int32.ofNat vs.length from hr.1]
    by_cases e : j = vs.length
    · rw [if_pos (by rw [e]; exact o_le (by omega) (by omega) (by omega))]
      refine ⟨1, rfl, Or.inl ⟨rfl, fun v hv => ?_⟩⟩
      obtain ⟨i, hi, rfl⟩ := vD_ex hv
      exact j3 i (by omega)
    · have hj : j < vs.length := by omega
      have rb := bP_row (hr.2 j hj) (hb _ (vD_mem hj))
      obtain ⟨x1, x2, x3⟩ := xturn ht (A (38 + 1) j) (A (38 + 2) j) (A (38 + 3) j) I A L
      have tb := tq_bP rb ht
      have trd := tq_rdc (hrd _ (vD_mem hj)) ht
      rw [if_neg (o_nle (by omega) (by omega) hj)]
      simp only [o_ck (show j < 60 by omega) (show 60 < 2147483648 by omega), i_tnn (show j < 2147483648 by omega), x1, x2, x3, bd_some, i_1]
      obtain ⟨k, p1, p2, p3, p4⟩ := place_s (b := 38) (I := I) (L := L) h60 hr hs hb tb trd.1
      rw [p1, bd_some]
      have no : tq t (vs.getD j q0) ∉ vs → ¬ kpt t vs := fun q z => q (z _ (vD_mem hj))
      by_cases ck : vs.length ≤ k
      · rw [if_pos (o_le (by omega) (by omega) ck)]
        refine ⟨0, rfl, Or.inr ⟨rfl, no (fun q => ?_)⟩⟩
        obtain ⟨i, hi, ei⟩ := vD_ex q
        have := p3 i (by omega)
        rw [ei] at this
        exact lt_ir _ this
      · have hk : k < vs.length := by omega
        rw [if_neg (o_nle (by omega) (by omega) hk)]
        obtain ⟨o, o1, o2, o3⟩ := ord_s (b := 38) (I := I) (L := L) hk h60 (hr.2 k hk) (hb _ (vD_mem hk)) tb
        rw [o1, bd_some]
        have n1 := p4 k (by omega) hk
        by_cases c2 : ltQ (tq t (vs.getD j q0)) (vs.getD k q0)
        · rw [if_neg (fun q => (o3.mp q).2 c2)]
          refine ⟨0, rfl, Or.inr ⟨rfl, no (fun q => ?_)⟩⟩
          obtain ⟨i, hi, ei⟩ := vD_ex q
          rcases (show i < k ∨ i = k ∨ k < i by omega) with c | c | c
          · have := p3 i c
            rw [ei] at this
            exact lt_ir _ this
          · rw [← ei, c] at c2
            exact lt_ir _ c2
          · have := srt_lt hs c hi
            rw [ei] at this
            exact lt_as this c2
        · rw [if_pos (o3.mpr ⟨n1, c2⟩)]
          have ew : vs.getD k q0 = tq t (vs.getD j q0) := lt_tri (hrd _ (vD_mem hk)) trd n1 c2
          refine ih (j + 1) (by omega) (by omega) (fun i hi => ?_)
          by_cases ei : i = j
          · rw [ei, ← ew]; exact vD_mem hk
          · exact j3 i (by omega)
theorem sM_l {pl : List Pl} {vs : List Q4} (h60 : vs.length ≤ 60) (hb : ∀ v ∈ vs, bQ v) {t : Nat} (ht : t < 6) {I : Nat → Int32} {L : Nat → Int64} : ∀ (n j : Nat) (A : Nat → Nat → Int32) (s : Int32), j ≤ vs.length → vs.length - j < n → crM (I 955) (A 65) pl vs → ((s = 1 ∧ ∀ i, i < j → tq t (vs.getD i q0) ∈ vs) ∨ (s = 0 ∧ ¬ kpt t vs)) → ∃ c row, f_X7_isStaying_p4 n (Int32.ofNat t) s (Int32.ofNat j) I A L = some (c, I, va_up A 69 row, L) ∧ ((c = 1 ∧ kpt t vs) ∨ (c = 0 ∧ ¬ kpt t vs)) := by
  intro n
  induction n with
  | zero => intro j A s h1 h2; omega
  | succ n ih =>
    intro j A s j1 j2 hm j3
    rw [f_X7_isStaying_p4_e, hm.1]
    by_cases e : j = vs.length
    · rw [if_pos (by rw [e]; exact o_le (by omega) (by omega) (by omega))]
      rcases j3 with ⟨rfl, j3⟩ | ⟨rfl, j3⟩
      · refine ⟨1, A 69, by rw [uself]; rfl, Or.inl ⟨rfl, fun v hv => ?_⟩⟩
        obtain ⟨i, hi, rfl⟩ := vD_ex hv
        exact j3 i (by omega)
      · exact ⟨0, A 69, by rw [uself]; rfl, Or.inr ⟨rfl, j3⟩⟩
    · have hj : j < vs.length := by omega
      rw [if_neg (o_nle (by omega) (by omega) hj), m_51 j, m_52 j, m_53 j, m_50 j, o_ck (by omega) (by omega), o_ck (by omega) (by omega), o_ck (by omega) (by omega), i_tnn (by omega), i_tnn (by omega), i_tnn (by omega), i_tnn (by omega), i_1]
      obtain ⟨row, r1, r2, r3, r4⟩ := mturn ht (A 65 (5 * j)) (A 65 (5 * j + 1)) (A 65 (5 * j + 2)) I A L
      rw [r1, b1_some]
      have hm' : crM (I 955) (va_up A 69 row 65) pl vs := by rw [un _ _ (by omega)]; exact hm
      have go : ∀ s', ((s' = 1 ∧ ∀ i, i < j + 1 → tq t (vs.getD i q0) ∈ vs) ∨ (s' = 0 ∧ ¬ kpt t vs)) → ∃ c row', f_X7_isStaying_p4 n (Int32.ofNat t) s' (Int32.ofNat (j + 1)) I (va_up A 69 row) L = some (c, I, va_up A 69 row', L) ∧ ((c = 1 ∧ kpt t vs) ∨ (c = 0 ∧ ¬ kpt t vs)) := fun s' hs' => by
        obtain ⟨c, row', k1, k2⟩ := ih (j + 1) (va_up A 69 row) s' (by omega) (by omega) hm' hs'
        exact ⟨c, row', by rw [k1, uu], k2⟩
      rcases j3 with ⟨rfl, j3⟩ | ⟨rfl, j3⟩
      · rw [if_neg (by decide)]
        have tb := tq_bP (bP_M (hm.2 j hj) (hb _ (vD_mem hj))) ht
        obtain ⟨c, c1, c2⟩ := isCor_s (I := I) (A := va_up A 69 row) (L := L) h60 hm' (px := row 0) (py := row 1) (pz := row 2) (pd := A 65 (5 * j + 3)) (v := tq t (vs.getD j q0)) (by rw [r2, r3, r4, tb.1.1, tb.2.1.1, tb.2.2.1.1, tb.2.2.2.1])
        have c1' : f_X7_isCorner I (va_up A 69 row) L (va_up A 69 row 69 (Int32.toNatClampNeg 0)) (va_up A 69 row 69 (Int32.toNatClampNeg 1)) (va_up A 69 row 69 (Int32.toNatClampNeg 2)) (va_up A 69 row 65 (5 * j + 3)) = some c := by
          rw [us, un (j := 65) _ _ (by omega)]; exact c1
        rw [show g_ck (0 : Int32) 3 = fun (F : Option (Int32 × gS)) => F from rfl, show g_ck (1 : Int32) 3 = fun (F : Option (Int32 × gS)) => F from rfl, show g_ck (2 : Int32) 3 = fun (F : Option (Int32 × gS)) => F from rfl]
        simp only []
        rw [o_ck (by omega) (by omega), c1', bd_some]
        rcases c2 with ⟨rfl, c2⟩ | ⟨rfl, c2⟩
        · rw [if_neg (by decide)]
          refine go 1 (Or.inl ⟨rfl, fun i hi => ?_⟩)
          by_cases ei : i = j
          · rw [ei]; exact c2
          · exact j3 i (by omega)
        · rw [if_pos rfl]
          exact go 0 (Or.inr ⟨rfl, fun z => c2 (z _ (vD_mem hj))⟩)
      · rw [if_pos rfl]
        exact go 0 (Or.inr ⟨rfl, j3⟩)
/-- both say alike of a turn -/
theorem turn_b {I1 : Nat → Int32} {A1 : Nat → Nat → Int32} {L : Nat → Int64} {pl : List Pl} {vs : List Q4} (ok : okL pl) (h : So I1 A1 pl vs) {I2 : Nat → Int32} {A2 : Nat → Nat → Int32} (hm : crM (I2 955) (A2 65) pl vs) {t : Nat} (ht : t < 6) : ∃ c row, f_X4_isKeptBy 38 I1 A1 L (Int32.ofNat t) = some c ∧ f_X7_isStaying (Int32.ofNat t) I2 A2 L = some (c, I2, va_up A2 69 row, L) ∧ (c = 0 ∨ c = 1) := by
  have hb := So_bQ ok h
  have h60 := h.2.1
  obtain ⟨c, c1, c2⟩ := kX_l (I := I1) (L := L) (⟨h.2.2.1, h60, hb⟩ : cX I1 A1 vs) h.1.1 (fun v hv => ((h.1.2 v).mp hv).1) ht 4096 0 (by omega) (by omega) (fun i hi => by omega)
  obtain ⟨d, row, d1, d2⟩ := sM_l (I := I2) (L := L) h60 hb ht 4096 0 A2 1 (by omega) (by omega) hm (Or.inl ⟨rfl, fun i hi => by omega⟩)
  have e : d = c := by
    rcases c2 with ⟨rfl, c2⟩ | ⟨rfl, c2⟩ <;> rcases d2 with ⟨rfl, d2⟩ | ⟨rfl, d2⟩
    · rfl
    · exact absurd c2 d2
    · exact absurd d2 c2
    · rfl
  subst e
  refine ⟨d, row, c1, d1, ?_⟩
  rcases c2 with ⟨z, -⟩ | ⟨z, -⟩
  · exact Or.inr z
  · exact Or.inl z
theorem inv_69 {I : Nat → Int32} {A : Nat → Nat → Int32} {L : Nat → Int64} (hI : Inv I A L) (row : Nat → Int32) : Inv I (va_up A 69 row) L := Inv_c hI (fun _ _ => rfl) (fun r hr => un _ _ (by omega))
theorem st_stays : gStep_stays Inv := by
  intro t I A L hI
  have bx : f_X6_stays_p10 I A L = some (-2, va_up I 13 (I 13 + 1), A, L) := by unfold f_X6_stays_p10; rw [rf_bad]; rfl
  by_cases h : 0 ≤ t ∧ t ≤ 5
  · obtain ⟨t, h5, rfl⟩ := rng_n (n := 5) (by omega) h
    obtain ⟨I1, A1, pl, vs, a1, a2, ok, a4, a5, a6, a7, I2, A2, b1, b2, b3, b4, b5⟩ := both hI
    obtain ⟨c, row, c1, c2, c3⟩ := turn_b (L := L) ok a5 b2.2.1 (show t < 6 by omega)
    refine ⟨c, I1, A1, L, I2, va_up A2 69 row, L, ?_, ?_, inv_69 b3 row⟩
    · unfold f_X6_stays
      rw [if_neg (Int32.not_lt.mpr h.1), if_pos (show Int32.ofNat t < 6 from (o_ltn (b := 6) (by omega) (by omega)).mpr (by omega)), a1, b1_some, c1, bd_some]
      rcases c3 with rfl | rfl <;> rfl
    · unfold f_X7_stays
      rw [m_in, if_pos h, bd_some, if_neg (by decide), b1, b1_some, c2, b2_some]
      rcases c3 with rfl | rfl <;> rfl
  · refine ⟨-2, va_up I 13 (I 13 + 1), A, L, _, _, _, ?_, ?_, inv_bad hI⟩
    · unfold f_X6_stays
      by_cases h1 : t < 0
      · rw [if_pos h1, bx]
      · rw [if_neg h1, if_neg (fun q => h ⟨i_nlt h1, by
          have := i_lt.mp q
          have : t.toInt < 6 := this
          rw [i_le]
          show t.toInt ≤ 5
          omega⟩), bx]
    · unfold f_X7_stays
      rw [m_in, if_neg h, bd_some, if_pos rfl, rm_bad]; rfl
theorem or0 (x : Int32) : x ||| 0 = x := by
  apply Int32.toBitVec_inj.mp
  rw [Int32.toBitVec_or]
  exact BitVec.or_zero
theorem sym_l {I1 : Nat → Int32} {A1 : Nat → Nat → Int32} {L : Nat → Int64} {pl : List Pl} {vs : List Q4} (ok : okL pl) (h : So I1 A1 pl vs) {I2 : Nat → Int32} : ∀ (n t : Nat) (x : Int32) (A2 : Nat → Nat → Int32), t ≤ 6 → 6 - t < n → crM (I2 955) (A2 65) pl vs → ∃ y row, f_X6_symmetry_p9 n x (Int32.ofNat t) I1 A1 L = some (y, I1, A1, L) ∧ f_X7_symmetry_p8 n x (Int32.ofNat t) I2 A2 L = some (y, I2, va_up A2 69 row, L) := by
  intro n
  induction n with
  | zero => intro t x A2 h1 h2; omega
  | succ n ih =>
    intro t x A2 t1 t2 hm
    rw [f_X6_symmetry_p9_e, f_X7_symmetry_p8_e]
    by_cases e : t = 6
    · rw [if_pos (by rw [e]; decide), if_pos (by rw [e]; decide)]
      exact ⟨x, A2 69, rfl, by rw [uself]⟩
    · rw [if_neg (show ¬ (6 : Int32) ≤ Int32.ofNat t from o_nle (a := 6) (by omega) (by omega) (by omega)), if_neg (show ¬ (6 : Int32) ≤ Int32.ofNat t from o_nle (a := 6) (by omega) (by omega) (by omega))]
      obtain ⟨c, row, c1, c2, c3⟩ := turn_b (L := L) ok h hm (show t < 6 by omega)
      rw [c1, bd_some, c2, b2_some, g_lt_eq, g_lt_eq, or0, i_1]
      have go : ∀ x', ∃ y row', f_X6_symmetry_p9 n x' (Int32.ofNat (t + 1)) I1 A1 L = some (y, I1, A1, L) ∧ f_X7_symmetry_p8 n x' (Int32.ofNat (t + 1)) I2 (va_up A2 69 row) L = some (y, I2, va_up A2 69 row', L) := fun x' => by
        obtain ⟨y, row', k1, k2⟩ := ih (t + 1) x' (va_up A2 69 row) (by omega) (by omega) (by rw [un _ _ (by omega)]; exact hm)
        exact ⟨y, row', k1, by rw [k2, uu]⟩
      rcases c3 with rfl | rfl
      · rw [if_pos rfl, if_pos rfl]; exact go x
      · rw [if_neg (by decide), if_neg (by decide)]; exact go _
theorem st_symmetry : gStep_symmetry Inv := by
  intro I A L hI
  obtain ⟨I1, A1, pl, vs, a1, a2, ok, a4, a5, a6, a7, I2, A2, b1, b2, b3, b4, b5⟩ := both hI
  obtain ⟨y, row, y1, y2⟩ := sym_l (L := L) ok a5 (I2 := I2) 4096 0 0 A2 (by omega) (by omega) b2.2.1
  refine ⟨y, I1, A1, L, I2, va_up A2 69 row, L, ?_, ?_, inv_69 b3 row⟩
  · unfold f_X6_symmetry
    rw [a1, b1_some]; exact y1
  · unfold f_X7_symmetry
    rw [b1, b1_some]; exact y2
