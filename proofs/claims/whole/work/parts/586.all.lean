/-! all -/
theorem sm_cut {n m : Nat} (h : n ≤ m) (P : Nat → Prop) : sm m (fun i => ib (i < n ∧ P i)) = sm n (fun i => ib (P i)) := by
  induction m with
  | zero =>
    have : n = 0 := by omega
    subst this; rfl
  | succ m ih =>
    by_cases e : n = m + 1
    · subst e
      exact sm_eq (fun i hi => ib_c ⟨fun z => z.2, fun z => ⟨hi, z⟩⟩)
    · rw [sm_s, ih (by omega), ib_0 (fun z => by omega)]; rfl
theorem sm_ib_le (n : Nat) (P : Nat → Prop) : sm n (fun i => ib (P i)) ≤ n := by
  have := sm_le (n := n) (f := fun i => ib (P i)) (g := fun _ => 1) (fun i _ => ib_le _)
  rw [sm_k] at this
  omega
noncomputable def nF (pl : List Pl) (vs : List Q4) : Nat := sm pl.length (fun i => ib (shw pl vs i))
theorem nF_le (pl : List Pl) (vs : List Q4) : nF pl vs ≤ pl.length := sm_ib_le _ _
theorem showing_x {I : Nat → Int32} {A : Nat → Nat → Int32} {L : Nat → Int64} {pl : List Pl} {vs : List Q4} (hl : pl.length ≤ 32) (h : So I A pl vs) : f_X4_showing 38 I A L = some (Int32.ofNat (nF pl vs)) := by
  unfold f_X4_showing
  rw [bc_n, bd_some]
  congr 2
  unfold nF
  rw [← sm_cut hl (fun i => shw pl vs i)]
  exact sm_eq (fun i hi => ib_c (h.2.2.2.2.2 i hi))
theorem showing_l {I : Nat → Int32} {A : Nat → Nat → Int32} {L : Nat → Int64} {pl : List Pl} {vs : List Q4} (hl : pl.length ≤ 32) (h : Mo I A pl vs) : ∀ (n p : Nat), p ≤ pl.length → pl.length - p < n → f_X7_showing_p4 I A L n (Int32.ofNat (sm p (fun i => ib (shw pl vs i)))) (Int32.ofNat p) = some (Int32.ofNat (nF pl vs)) := by
  intro n
  induction n with
  | zero => intro p h1 h2; omega
  | succ n ih =>
    intro p h1 h2
    rw [f_X7_showing_p4_e, m_c0, show A 60 (Int32.toNatClampNeg 0) = Int32.ofNat pl.length from h.1.1]
    by_cases e : p = pl.length
    · rw [if_pos (by rw [e]; exact o_le (by omega) (by omega) (by omega)), e]; rfl
    · have hp : p < pl.length := by omega
      rw [if_neg (o_nle (by omega) (by omega) hp), o_ck (by omega) (by omega), i_tnn (by omega), i_1, i_1, x_p0]
      have t := ih (p + 1) (by omega) (by omega)
      rw [sm_s] at t
      rcases h.2.2 p hp with ⟨a, b⟩ | ⟨a, b⟩
      · rw [if_neg (by rw [a]; decide)]
        rw [ib_1 b] at t
        exact t
      · rw [if_pos a]
        rw [ib_0 b] at t
        exact t
theorem showing_m {I : Nat → Int32} {A : Nat → Nat → Int32} {L : Nat → Int64} {pl : List Pl} {vs : List Q4} (hl : pl.length ≤ 32) (h : Mo I A pl vs) : f_X7_showing I A L = some (Int32.ofNat (nF pl vs)) := showing_l hl h 4096 0 (by omega) (by omega)
theorem eN_le (pl : List Pl) (vs : List Q4) (p : Nat) : eN pl vs p ≤ vs.length := by
  unfold eN
  have a := ib_le (shw pl vs p)
  have b := nOn_le pl vs p
  have : ib (shw pl vs p) * nOn pl vs p ≤ 1 * nOn pl vs p := Nat.mul_le_mul_right _ a
  omega
theorem edges_l {I : Nat → Int32} {A : Nat → Nat → Int32} {L : Nat → Int64} {pl : List Pl} {vs : List Q4} (ok : okL pl) (hv : IsCrn pl vs) (h60 : vs.length ≤ 60) (h : Mo I A pl vs) : ∀ (n p : Nat), p ≤ pl.length → pl.length - p < n → f_X7_edges_p4 I A L n (Int32.ofNat (sm p (eN pl vs))) (Int32.ofNat p) = some (Int32.ofNat (sm pl.length (eN pl vs)) / 2) := by
  have hl := ok.2.1
  intro n
  induction n with
  | zero => intro p h1 h2; omega
  | succ n ih =>
    intro p h1 h2
    rw [f_X7_edges_p4_e, m_c0, show A 60 (Int32.toNatClampNeg 0) = Int32.ofNat pl.length from h.1.1]
    by_cases e : p = pl.length
    · rw [if_pos (by rw [e]; exact o_le (by omega) (by omega) (by omega)), e]
    · have hp : p < pl.length := by omega
      rw [if_neg (o_nle (by omega) (by omega) hp), eOf_s ok hv h60 h hp, bd_some, i_1, o_add]
      exact ih (p + 1) (by omega) (by omega)
/-- Euler -/
theorem euler {pl : List Pl} (ok : okL pl) {vs : List Q4} (hv : IsCrn pl vs) : sm pl.length (eN pl vs) + 4 = 2 * (vs.length + nF pl vs) := by
  have f := flags (okL_Gd ok) (srt_nd hv.1) hv.2
  unfold nF
  rw [← f]
  congr 1
  refine sm_eq (fun p hp => ?_)
  unfold eN
  by_cases s : shw pl vs p
  · rw [ib_1 s, Nat.one_mul, nOn_E, nOE_sm]
    exact sm_eq (fun j _ => ib_c ⟨fun z => ⟨s, z⟩, fun z => z.2⟩)
  · rw [ib_0 s, Nat.zero_mul]
    exact (sm_0 (fun j _ => ib_0 (fun z => s z.1))).symm
theorem edges_m {I : Nat → Int32} {A : Nat → Nat → Int32} {L : Nat → Int64} {pl : List Pl} {vs : List Q4} (ok : okL pl) (hv : IsCrn pl vs) (h60 : vs.length ≤ 60) (h : Mo I A pl vs) : f_X7_edges I A L = some (Int32.ofNat (vs.length + nF pl vs - 2)) := by
  have t : f_X7_edges I A L = _ := edges_l (I := I) (L := L) ok hv h60 h 4096 0 (by omega) (by have := ok.2.1; omega)
  have eu := euler ok hv
  have nf := nF_le pl vs
  have hl := ok.2.1
  rw [t, show (2 : Int32) = Int32.ofNat 2 from rfl, o_div (by omega) (by omega), show sm pl.length (eN pl vs) / 2 = vs.length + nF pl vs - 2 by omega]
theorem edges_x {I : Nat → Int32} {A : Nat → Nat → Int32} {L : Nat → Int64} {pl : List Pl} {vs : List Q4} (ok : okL pl) (h : So I A pl vs) : f_X4_edges 38 I A L = some (Int32.ofNat (vs.length + nF pl vs - 2)) := by
  unfold f_X4_edges
  rw [showing_x ok.2.1 h, bd_some]
  have e : I (16 * 38 + 7) = Int32.ofNat vs.length := h.2.2.1.1
  have t := two_crn (okL_Gd ok) h.1.2
  rw [e, o_add]
  congr 1
  show Int32.ofNat (vs.length + nF pl vs) - Int32.ofNat 2 = _
  obtain ⟨k, hk⟩ : ∃ k, vs.length + nF pl vs = k + 2 := ⟨vs.length + nF pl vs - 2, by omega⟩
  rw [hk, Int32.ofNat_add, Int32.add_sub_cancel, Nat.add_sub_cancel]
/-! the most -/
noncomputable def mx (f : Nat → Nat) : Nat → Nat
  | 0 => 0
  | n + 1 => if mx f n < f n then f n else mx f n
theorem mx_s (f : Nat → Nat) (n : Nat) : mx f (n + 1) = if mx f n < f n then f n else mx f n := rfl
theorem mx_le {f : Nat → Nat} {B : Nat} (h : ∀ i, f i ≤ B) : ∀ n, mx f n ≤ B := by
  intro n
  induction n with
  | zero => exact Nat.zero_le _
  | succ n ih =>
    rw [mx_s]
    have := h n
    split <;> omega
theorem mostX_l {I : Nat → Int32} {A : Nat → Nat → Int32} {L : Nat → Int64} {pl : List Pl} {vs : List Q4} (hl : pl.length ≤ 32) (h : So I A pl vs) : ∀ (n p : Nat), p ≤ pl.length → pl.length - p < n → f_X4_mostCornersOnPlane_p4 38 I A L n (Int32.ofNat pl.length) (Int32.ofNat (mx (eN pl vs) p)) (Int32.ofNat p) = some (Int32.ofNat (mx (eN pl vs) pl.length)) := by
  intro n
  induction n with
  | zero => intro p h1 h2; omega
  | succ n ih =>
    intro p h1 h2
    rw [f_X4_mostCornersOnPlane_p4_e]
    by_cases e : p = pl.length
    · rw [if_pos (by rw [e]; exact o_le (by omega) (by omega) (by omega)), e]
    · have hp : p < pl.length := by omega
      rw [if_neg (o_nle (by omega) (by omega) hp)]
      obtain ⟨c, c1, c2⟩ := isSh_s (L := L) hl h hp
      rw [c1, bd_some, i_1]
      have t := ih (p + 1) (by omega) (by omega)
      rw [mx_s] at t
      rcases c2 with ⟨rfl, c2⟩ | ⟨rfl, c2⟩
      · have e1 : eN pl vs p = nOn pl vs p := by unfold eN; rw [ib_1 c2, Nat.one_mul]
        rw [if_neg (by decide), o_ck (by omega) (by omega), g_lt_eq, i_tnn (by omega), show A (38 + 6) p = Int32.ofNat (nOn pl vs p) from h.2.2.2.2.1 p hp]
        rw [e1] at t
        have b1 := nOn_le pl vs p
        have b2 := mx_le (eN_le pl vs) p
        have h60 := h.2.1
        have k := b_lt (b_n (n := mx (eN pl vs) p) (by omega)) (b_n (n := nOn pl vs p) (by omega))
        by_cases z : mx (eN pl vs) p < nOn pl vs p
        · rw [if_pos (k.mpr (by omega))]
          rw [if_pos z] at t
          exact t
        · rw [if_neg (fun q => z (by have := k.mp q; omega))]
          rw [if_neg z] at t
          exact t
      · have e1 : eN pl vs p = 0 := by unfold eN; rw [ib_0 c2, Nat.zero_mul]
        rw [if_pos rfl]
        rw [e1, if_neg (by omega)] at t
        exact t
theorem mostM_l {I : Nat → Int32} {A : Nat → Nat → Int32} {L : Nat → Int64} {pl : List Pl} {vs : List Q4} (hl : pl.length ≤ 32) (h60 : vs.length ≤ 60) (h : Mo I A pl vs) : ∀ (n p : Nat), p ≤ pl.length → pl.length - p < n → f_X7_mostOn_p4 I A L n (Int32.ofNat (mx (eN pl vs) p)) (Int32.ofNat p) = some (Int32.ofNat (mx (eN pl vs) pl.length)) := by
  intro n
  induction n with
  | zero => intro p h1 h2; omega
  | succ n ih =>
    intro p h1 h2
    rw [f_X7_mostOn_p4_e, m_c0, show A 60 (Int32.toNatClampNeg 0) = Int32.ofNat pl.length from h.1.1]
    by_cases e : p = pl.length
    · rw [if_pos (by rw [e]; exact o_le (by omega) (by omega) (by omega)), e]
    · have hp : p < pl.length := by omega
      rw [if_neg (o_nle (by omega) (by omega) hp), o_ck (by omega) (by omega), i_tnn (by omega), i_1]
      have t := ih (p + 1) (by omega) (by omega)
      rw [mx_s] at t
      rcases h.2.2 p hp with ⟨a, c2⟩ | ⟨a, c2⟩
      · have e1 : eN pl vs p = nOn pl vs p := by unfold eN; rw [ib_1 c2, Nat.one_mul]
        rw [if_neg (by rw [a]; decide), cOn_s hl h60 h.2.1 hp, bd_some, bd_some]
        rw [e1] at t
        have b1 := nOn_le pl vs p
        have b2 := mx_le (eN_le pl vs) p
        have k := b_le (b_n (n := nOn pl vs p) (by omega)) (b_n (n := mx (eN pl vs) p) (by omega))
        by_cases z : mx (eN pl vs) p < nOn pl vs p
        · rw [if_neg (fun q => by have := k.mp q; omega)]
          rw [if_pos z] at t
          exact t
        · rw [if_pos (k.mpr (by omega))]
          rw [if_neg z] at t
          exact t
      · have e1 : eN pl vs p = 0 := by unfold eN; rw [ib_0 c2, Nat.zero_mul]
        rw [if_pos a]
        rw [e1, if_neg (by omega)] at t
        exact t
/-! the most planes that show on a corner -/
noncomputable def aN (pl : List Pl) (vs : List Q4) (j : Nat) : Nat := sm pl.length (fun p => ib (shw pl vs p ∧ sd (pl.getD p p0) (vs.getD j q0) = 0))
theorem aN_le (pl : List Pl) (vs : List Q4) (j : Nat) : aN pl vs j ≤ pl.length := sm_ib_le _ _
theorem bc_at {I : Nat → Int32} {A : Nat → Nat → Int32} {L : Nat → Int64} {pl : List Pl} {vs : List Q4} (hl : pl.length ≤ 32) (h : So I A pl vs) {j : Nat} (hj : j < vs.length) : f_J6_bitCount_0f7a4 I A L (A 43 j &&& I 616) = some (Int32.ofNat (aN pl vs j)) := by
  rw [bc_n]
  congr 2
  unfold aN
  rw [← sm_cut hl]
  refine sm_eq (fun i hi => ib_c ?_)
  rw [bt_and, Bool.and_eq_true, h.2.2.2.2.2 i hi, h.2.2.2.1 j hj, onB_mk, bt_mk _ _ hl i hi]
  simp only [Bool.and_eq_true, decide_eq_true_eq]
  constructor
  · rintro ⟨⟨a, b⟩, c, d⟩; exact ⟨a, d, b⟩
  · rintro ⟨a, d, b⟩; exact ⟨⟨a, b⟩, a, d⟩
theorem atX_l {I : Nat → Int32} {A : Nat → Nat → Int32} {L : Nat → Int64} {pl : List Pl} {vs : List Q4} (hl : pl.length ≤ 32) (h : So I A pl vs) : ∀ (n j : Nat), j ≤ vs.length → vs.length - j < n → f_X4_mostPlanesOnCorner_p4 38 I A L n (Int32.ofNat (mx (aN pl vs) j)) (Int32.ofNat j) = some (Int32.ofNat (mx (aN pl vs) vs.length)) := by
  have h60 := h.2.1
  intro n
  induction n with
  | zero => intro j h1 h2; omega
  | succ n ih =>
    intro j h1 h2
    rw [f_X4_mostPlanesOnCorner_p4_e, show I (16 * 38 + 7) = Int32.ofNat vs.length from h.2.2.1.1]
    by_cases e : j = vs.length
    · rw [if_pos (by rw [e]; exact o_le (by omega) (by omega) (by omega)), e]
    · have hj : j < vs.length := by omega
      rw [if_neg (o_nle (by omega) (by omega) hj), o_ck (by omega) (by omega), i_tnn (by omega)]
      have bc : f_J6_bitCount_0f7a4 I A L (A (38 + 5) j &&& I (16 * 38 + 8)) = _ := bc_at (L := L) hl h hj
      rw [bc, bd_some, g_lt_eq, i_1]
      have t := ih (j + 1) (by omega) (by omega)
      rw [mx_s] at t
      have b1 := aN_le pl vs j
      have b2 := mx_le (aN_le pl vs) j
      have k := b_lt (b_n (n := mx (aN pl vs) j) (by omega)) (b_n (n := aN pl vs j) (by omega))
      by_cases z : mx (aN pl vs) j < aN pl vs j
      · rw [if_pos (k.mpr (by omega))]
        rw [if_pos z] at t
        exact t
      · rw [if_neg (fun q => z (by have := k.mp q; omega))]
        rw [if_neg z] at t
        exact t
theorem at17_l {I : Nat → Int32} {A : Nat → Nat → Int32} {L : Nat → Int64} {pl : List Pl} {vs : List Q4} (hl : pl.length ≤ 32) (h60 : vs.length ≤ 60) (h : Mo I A pl vs) (k4 : Int32 → Int32 → Option Int32) {j m : Nat} (hj : j < vs.length) (hm : m ≤ 32) : ∀ (n p : Nat), p ≤ pl.length → pl.length - p < n → f_X7_mostAt_p17 I A L k4 n (Int32.ofNat m) (Int32.ofNat j) (Int32.ofNat (sm p (fun i => ib (shw pl vs i ∧ sd (pl.getD i p0) (vs.getD j q0) = 0)))) (Int32.ofNat p) = k4 (Int32.ofNat (if m < aN pl vs j then aN pl vs j else m)) (Int32.ofNat (j + 1)) := by
  intro n
  induction n with
  | zero => intro p h1 h2; omega
  | succ n ih =>
    intro p h1 h2
    rw [f_X7_mostAt_p17_e, m_c0, show A 60 (Int32.toNatClampNeg 0) = Int32.ofNat pl.length from h.1.1]
    by_cases e : p = pl.length
    · rw [if_pos (by rw [e]; exact o_le (by omega) (by omega) (by omega)), e, i_1]
      have e1 : sm pl.length (fun i => ib (shw pl vs i ∧ sd (pl.getD i p0) (vs.getD j q0) = 0)) = aN pl vs j := rfl
      rw [e1]
      have b1 := aN_le pl vs j
      have k := b_le (b_n (n := aN pl vs j) (by omega)) (b_n (n := m) (by omega))
      by_cases z : m < aN pl vs j
      · rw [if_neg (fun q => by have := k.mp q; omega), if_pos z]
      · rw [if_pos (k.mpr (by omega)), if_neg z]
    · have hp : p < pl.length := by omega
      rw [if_neg (o_nle (by omega) (by omega) hp), o_ck (by omega) (by omega), i_tnn (by omega), i_1, i_1, x_p0]
      have t := ih (p + 1) (by omega) (by omega)
      rw [sm_s] at t
      rcases h.2.2 p hp with ⟨a, c2⟩ | ⟨a, c2⟩
      · rw [if_neg (by rw [a]; decide)]
        obtain ⟨c, d1, d2⟩ := isOn_s (I := I) (L := L) hl (show j < 60 by omega) (h.2.1.2 j hj) hp
        rw [d1, bd_some]
        rcases d2 with ⟨rfl, d2⟩ | ⟨rfl, d2⟩
        · rw [if_neg (by decide)]
          rw [ib_1 ⟨c2, d2⟩] at t
          exact t
        · rw [if_pos rfl]
          rw [ib_0 (fun z => d2 z.2)] at t
          exact t
      · rw [if_pos a]
        rw [ib_0 (fun z => c2 z.1)] at t
        exact t
theorem atM_l {I : Nat → Int32} {A : Nat → Nat → Int32} {L : Nat → Int64} {pl : List Pl} {vs : List Q4} (hl : pl.length ≤ 32) (h60 : vs.length ≤ 60) (h : Mo I A pl vs) : ∀ (n j : Nat), j ≤ vs.length → vs.length - j < n → f_X7_mostAt_p4 I A L n (Int32.ofNat (mx (aN pl vs) j)) (Int32.ofNat j) = some (Int32.ofNat (mx (aN pl vs) vs.length)) := by
  intro n
  induction n with
  | zero => intro j h1 h2; omega
  | succ n ih =>
    intro j h1 h2
    rw [f_X7_mostAt_p4_e, h.2.1.1]
    by_cases e : j = vs.length
    · rw [if_pos (by rw [e]; exact o_le (by omega) (by omega) (by omega)), e]
    · have hj : j < vs.length := by omega
      rw [if_neg (o_nle (by omega) (by omega) hj)]
      have b2 := mx_le (aN_le pl vs) j
      have t : f_X7_mostAt_p17 I A L (f_X7_mostAt_p4 I A L n) 4096 (Int32.ofNat (mx (aN pl vs) j)) (Int32.ofNat j) 0 0 = _ := at17_l (L := L) hl h60 h (f_X7_mostAt_p4 I A L n) hj (show mx (aN pl vs) j ≤ 32 by omega) 4096 0 (by omega) (by omega)
      rw [t, ← mx_s]
      exact ih (j + 1) (by omega) (by omega)
theorem st_all : gStep_all Inv := by
  intro w I A L hI
  by_cases hw : 0 ≤ w ∧ w ≤ 6
  · obtain ⟨c, hc, rfl⟩ := rng_n (n := 6) (by omega) hw
    obtain ⟨I1, A1, pl, vs, a1, a2, ok, a4, a5, a6, a7, I2, A2, b1, b2, b3, b4, b5⟩ := both hI
    have hl := ok.2.1
    have h60 := a5.2.1
    have m0 : A2 60 (Int32.toNatClampNeg 0) = Int32.ofNat pl.length := b2.1.1
    rcases (show c = 0 ∨ c = 1 ∨ c = 2 ∨ c = 3 ∨ c = 4 ∨ c = 5 ∨ c = 6 by omega) with rfl | rfl | rfl | rfl | rfl | rfl | rfl
    · -- planes: the class lays no crystal
      obtain ⟨pl', past, ⟨ok', hx, hm⟩, hst, h3, h4, h5, h6, h7⟩ := id hI
      obtain ⟨I3, A3, ws, c1, c2, c3, c4, c5, c6⟩ := mlay_s ok' (I := I) (L := L) hm
      refine ⟨I 20, I, A, L, I3, A3, L, rfl, ?_, inv_lay hI c5 c6⟩
      have em : f_X7_all (Int32.ofNat 0) I A L = g_b1 (f_X7_lays I A L) (fun I4 A5 L6 => g_ck 0 129 (some ((A5 60 (Int32.toNatClampNeg 0)), I4, A5, L6))) := rfl
      rw [em, c1, b1_some, m_c0, show A3 60 (Int32.toNatClampNeg 0) = Int32.ofNat pl'.length from c4.1.1, hx.1]
    · have ex : f_X6_all (Int32.ofNat 1) I A L = g_b1 (f_X6_crystal I A L) (fun I4 A5 L6 => Option.bind (f_X4_showing 38 I4 A5 L6) (fun v8 => some (v8, I4, A5, L6))) := rfl
      have em : f_X7_all (Int32.ofNat 1) I1 A1 L = g_b1 (f_X7_lays I1 A1 L) (fun I4 A5 L6 => Option.bind (f_X7_showing I4 A5 L6) (fun v10 => some (v10, I4, A5, L6))) := rfl
      refine ⟨Int32.ofNat (nF pl vs), I1, A1, L, I2, A2, L, ?_, ?_, b3⟩
      · rw [ex, a1, b1_some, showing_x hl a5, bd_some]
      · rw [em, b1, b1_some, showing_m hl b2, bd_some]
    · have ex : f_X6_all (Int32.ofNat 2) I A L = g_b1 (f_X6_crystal I A L) (fun I11 A12 L13 => Option.bind (f_X4_showing 38 I11 A12 L13) (fun v15 => some (((I 20) - v15), I11, A12, L13))) := rfl
      have em : f_X7_all (Int32.ofNat 2) I1 A1 L = g_b1 (f_X7_lays I1 A1 L) (fun I4 A5 L6 => g_ck 0 129 (Option.bind (f_X7_showing I4 A5 L6) (fun v13 => some (((A5 60 (Int32.toNatClampNeg 0)) - v13), I4, A5, L6)))) := rfl
      refine ⟨Int32.ofNat pl.length - Int32.ofNat (nF pl vs), I1, A1, L, I2, A2, L, ?_, ?_, b3⟩
      · rw [ex, a1, b1_some, showing_x hl a5, bd_some, ← a6, a4.1]
      · rw [em, b1, b1_some, m_c0, showing_m hl b2, bd_some, m0]
    · have ex : f_X6_all (Int32.ofNat 3) I A L = g_b1 (f_X6_crystal I A L) (fun I18 A19 L20 => some ((I18 615), I18, A19, L20)) := rfl
      have em : f_X7_all (Int32.ofNat 3) I1 A1 L = g_b1 (f_X7_lays I1 A1 L) (fun I4 A5 L6 => some ((I4 955), I4, A5, L6)) := rfl
      refine ⟨Int32.ofNat vs.length, I1, A1, L, I2, A2, L, ?_, ?_, b3⟩
      · rw [ex, a1, b1_some, a5.2.2.1.1]
      · rw [em, b1, b1_some, b2.2.1.1]
    · have ex : f_X6_all (Int32.ofNat 4) I A L = g_b1 (f_X6_crystal I A L) (fun I23 A24 L25 => Option.bind (f_X4_edges 38 I23 A24 L25) (fun v27 => some (v27, I23, A24, L25))) := rfl
      have em : f_X7_all (Int32.ofNat 4) I1 A1 L = g_b1 (f_X7_lays I1 A1 L) (fun I4 A5 L6 => Option.bind (f_X7_edges I4 A5 L6) (fun v17 => some (v17, I4, A5, L6))) := rfl
      refine ⟨Int32.ofNat (vs.length + nF pl vs - 2), I1, A1, L, I2, A2, L, ?_, ?_, b3⟩
      · rw [ex, a1, b1_some, edges_x ok a5, bd_some]
      · rw [em, b1, b1_some, edges_m ok a5.1 h60 b2, bd_some]
    · have ex : f_X6_all (Int32.ofNat 5) I A L = g_b1 (f_X6_crystal I A L) (fun I30 A31 L32 => Option.bind (f_X4_mostCornersOnPlane 38 I30 A31 L32 (I30 20)) (fun v34 => some (v34, I30, A31, L32))) := rfl
      have em : f_X7_all (Int32.ofNat 5) I1 A1 L = g_b1 (f_X7_lays I1 A1 L) (fun I4 A5 L6 => Option.bind (f_X7_mostOn I4 A5 L6) (fun v20 => some (v20, I4, A5, L6))) := rfl
      have tx : f_X4_mostCornersOnPlane 38 I1 A1 L (Int32.ofNat pl.length) = _ := mostX_l (L := L) hl a5 4096 0 (by omega) (by omega)
      have tm : f_X7_mostOn I2 A2 L = _ := mostM_l (L := L) hl h60 b2 4096 0 (by omega) (by omega)
      refine ⟨Int32.ofNat (mx (eN pl vs) pl.length), I1, A1, L, I2, A2, L, ?_, ?_, b3⟩
      · rw [ex, a1, b1_some, a4.1, tx, bd_some]
      · rw [em, b1, b1_some, tm, bd_some]
    · have ex : f_X6_all (Int32.ofNat 6) I A L = g_b1 (f_X6_crystal I A L) (fun I37 A38 L39 => Option.bind (f_X4_mostPlanesOnCorner 38 I37 A38 L39) (fun v41 => some (v41, I37, A38, L39))) := rfl
      have em : f_X7_all (Int32.ofNat 6) I1 A1 L = g_b1 (f_X7_lays I1 A1 L) (fun I4 A5 L6 => Option.bind (f_X7_mostAt I4 A5 L6) (fun v22 => some (v22, I4, A5, L6))) := rfl
      have tx : f_X4_mostPlanesOnCorner 38 I1 A1 L = _ := atX_l (L := L) hl a5 4096 0 (by omega) (by omega)
      have tm : f_X7_mostAt I2 A2 L = _ := atM_l (L := L) hl h60 b2 4096 0 (by omega) (by omega)
      refine ⟨Int32.ofNat (mx (aN pl vs) vs.length), I1, A1, L, I2, A2, L, ?_, ?_, b3⟩
      · rw [ex, a1, b1_some, tx, bd_some]
      · rw [em, b1, b1_some, tm, bd_some]
  · have nz : ∀ k : Nat, k ≤ 6 → ¬ w = Int32.ofNat k := fun k hk q => hw (by
      rw [q]
      exact ⟨o_le (a := 0) (by omega) (by omega) (by omega), o_le (b := 6) (by omega) (by omega) (by omega)⟩)
    refine ⟨-2, va_up I 13 (I 13 + 1), A, L, _, _, _, ?_, ?_, inv_bad hI⟩
    · unfold f_X6_all
      rw [if_neg (show ¬ w = 0 from nz 0 (by omega)), if_neg (show ¬ w = 1 from nz 1 (by omega)), if_neg (show ¬ w = 2 from nz 2 (by omega)), if_neg (show ¬ w = 3 from nz 3 (by omega)), if_neg (show ¬ w = 4 from nz 4 (by omega)), if_neg (show ¬ w = 5 from nz 5 (by omega)), if_neg (show ¬ w = 6 from nz 6 (by omega)), rf_bad]
      rfl
    · unfold f_X7_all
      rw [m_in, if_neg hw, bd_some, if_pos rfl, rm_bad]
      rfl
