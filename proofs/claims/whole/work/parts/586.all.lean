/-! all -/
theorem sm_cut {n m : Nat} (h : n ≤ m) (P : Nat → Prop) : sm m (fun i => ib (i < n ∧ P i)) = sm n (fun i => ib (P i)) := by
  induction m with
  | zero =>
    have : n = 0 := by omega
    subst this; rfl
  | succ m ih =>
    by_cases e : n = m + 1
    · subst e
      exact sm_eq (fun i hi => ib_c ⟨fun z => z.2, fun z => ⟨hi, z⟩⟩)
    · rw [sm_s, ih (by omega), ib_0 (fun z => by omega)]; rfl
theorem sm_ib_le (n : Nat) (P : Nat → Prop) : sm n (fun i => ib (P i)) ≤ n := by
  have := sm_le (n := n) (f := fun i => ib (P i)) (g := fun _ => 1) (fun i _ => ib_le _)
  rw [sm_k] at this
  omega
noncomputable def nF (pl : List Pl) (vs : List Q4) : Nat := sm pl.length (fun i => ib (shw pl vs i))
theorem nF_le (pl : List Pl) (vs : List Q4) : nF pl vs ≤ pl.length := sm_ib_le _ _
theorem showing_x {I : Nat → Int32} {A : Nat → Nat → Int32} {L : Nat → Int64} {pl : List Pl} {vs : List Q4} (hl : pl.length ≤ 32) (h : So I A pl vs) : f_X4_showing 38 I A L = some (Int32.ofNat (nF pl vs)) := by
  unfold f_X4_showing
  rw [bc_n, bd_some]
  congr 2
  unfold nF
  rw [← sm_cut hl (fun i => shw pl vs i)]
  exact sm_eq (fun i hi => ib_c (h.2.2.2.2.2 i hi))
theorem showing_l {I : Nat → Int32} {A : Nat → Nat → Int32} {L : Nat → Int64} {pl : List Pl} {vs : List Q4} (hl : pl.length ≤ 32) (h : Mo I A pl vs) : ∀ (n p : Nat), p ≤ pl.length → pl.length - p < n → f_X7_showing_p4 I A L n (Int32.ofNat (sm p (fun i => ib (shw pl vs i)))) (Int32.ofNat p) = some (Int32.ofNat (nF pl vs)) := by
  intro n
  induction n with
  | zero => intro p h1 h2; omega
  | succ n ih =>
    intro p h1 h2
    rw [f_X7_showing_p4_e, m_c0, show A 60 (Int32.toNatClampNeg 0) = Int32.ofNat pl.length from h.1.1]
    by_cases e : p = pl.length
    · rw [if_pos (by rw [e]; exact o_le (by omega) (by omega) (by omega)), e]; rfl
    · have hp : p < pl.length := by omega
      rw [if_neg (o_nle (by omega) (by omega) hp), o_ck (by omega) (by omega), i_tnn (by omega), i_1, i_1, x_p0]
      have t := ih (p + 1) (by omega) (by omega)
      rw [sm_s] at t
      rcases h.2.2 p hp with ⟨a, b⟩ | ⟨a, b⟩
      · rw [if_neg (by rw [a]; decide)]
        rw [ib_1 b] at t
        exact t
      · rw [if_pos a]
        rw [ib_0 b] at t
        exact t
theorem showing_m {I : Nat → Int32} {A : Nat → Nat → Int32} {L : Nat → Int64} {pl : List Pl} {vs : List Q4} (hl : pl.length ≤ 32) (h : Mo I A pl vs) : f_X7_showing I A L = some (Int32.ofNat (nF pl vs)) := showing_l hl h 4096 0 (by omega) (by omega)
theorem eN_le (pl : List Pl) (vs : List Q4) (p : Nat) : eN pl vs p ≤ vs.length := by
  unfold eN
  have a := ib_le (shw pl vs p)
  have b := nOn_le pl vs p
  have : ib (shw pl vs p) * nOn pl vs p ≤ 1 * nOn pl vs p := Nat.mul_le_mul_right _ a
  omega
theorem edges_l {I : Nat → Int32} {A : Nat → Nat → Int32} {L : Nat → Int64} {pl : List Pl} {vs : List Q4} (ok : okL pl) (hv : IsCrn pl vs) (h60 : vs.length ≤ 60) (h : Mo I A pl vs) : ∀ (n p : Nat), p ≤ pl.length → pl.length - p < n → f_X7_edges_p4 I A L n (Int32.ofNat (sm p (eN pl vs))) (Int32.ofNat p) = some (Int32.ofNat (sm pl.length (eN pl vs)) / 2) := by
  have hl := ok.2.1
  intro n
  induction n with
  | zero => intro p h1 h2; omega
  | succ n ih =>
    intro p h1 h2
    rw [f_X7_edges_p4_e, m_c0, show A 60 (Int32.toNatClampNeg 0) = Int32.ofNat pl.length from h.1.1]
    by_cases e : p = pl.length
    · rw [if_pos (by rw [e]; exact o_le (by omega) (by omega) (by omega)), e]
    · have hp : p < pl.length := by omega
      rw [if_neg (o_nle (by omega) (by omega) hp), eOf_s ok hv h60 h hp, bd_some, i_1, o_add]
      exact ih (p + 1) (by omega) (by omega)
/-- Euler -/
theorem euler {pl : List Pl} (ok : okL pl) {vs : List Q4} (hv : IsCrn pl vs) : sm pl.length (eN pl vs) + 4 = 2 * (vs.length + nF pl vs) := by
  have f := flags (okL_Gd ok) (srt_nd hv.1) hv.2
  unfold nF
  rw [← f]
  congr 1
  refine sm_eq (fun p hp => ?_)
  unfold eN
  by_cases s : shw pl vs p
  · rw [ib_1 s, Nat.one_mul, nOn_E, nOE_sm]
    exact sm_eq (fun j _ => ib_c ⟨fun z => ⟨s, z⟩, fun z => z.2⟩)
  · rw [ib_0 s, Nat.zero_mul]
    exact (sm_0 (fun j _ => ib_0 (fun z => s z.1))).symm
theorem edges_m {I : Nat → Int32} {A : Nat → Nat → Int32} {L : Nat → Int64} {pl : List Pl} {vs : List Q4} (ok : okL pl) (hv : IsCrn pl vs) (h60 : vs.length ≤ 60) (h : Mo I A pl vs) : f_X7_edges I A L = some (Int32.ofNat (vs.length + nF pl vs - 2)) := by
  have t : f_X7_edges I A L = _ := edges_l (I := I) (L := L) ok hv h60 h 4096 0 (by omega) (by have := ok.2.1; omega)
  have eu := euler ok hv
  have nf := nF_le pl vs
  have hl := ok.2.1
  rw [t, show (2 : Int32) = Int32.ofNat 2 from rfl, o_div (by omega) (by omega), show sm pl.length (eN pl vs) / 2 = vs.length + nF pl vs - 2 by omega]
theorem edges_x {I : Nat → Int32} {A : Nat → Nat → Int32} {L : Nat → Int64} {pl : List Pl} {vs : List Q4} (ok : okL pl) (h : So I A pl vs) : f_X4_edges 38 I A L = some (Int32.ofNat (vs.length + nF pl vs - 2)) := by
  unfold f_X4_edges
  rw [showing_x ok.2.1 h, bd_some]
  have e : I (16 * 38 + 7) = Int32.ofNat vs.length := h.2.2.1.1
  have t := two_crn (okL_Gd ok) h.1.2
  rw [e, o_add]
  congr 1
  show Int32.ofNat (vs.length + nF pl vs) - Int32.ofNat 2 = _
  obtain ⟨k, hk⟩ : ∃ k, vs.length + nF pl vs = k + 2 := ⟨vs.length + nF pl vs - 2, by omega⟩
  rw [hk, Int32.ofNat_add, Int32.add_sub_cancel, Nat.add_sub_cancel]
/-! the most -/
noncomputable def mx (f : Nat → Nat) : Nat → Nat
  | 0 => 0
  | n + 1 => if mx f n < f n then f n else mx f n
theorem mx_s (f : Nat → Nat) (n : Nat) : mx f (n + 1) = if mx f n < f n then f n else mx f n := rfl
theorem mx_le {f : Nat → Nat} {B : Nat} (h : ∀ i, f i ≤ B) : ∀ n, mx f n ≤ B := by
  intro n
  induction n with
  | zero => exact Nat.zero_le _
  | succ n ih =>
    rw [mx_s]
    have := h n
    split <;> omega
theorem mostX_l {I : Nat → Int32} {A : Nat → Nat → Int32} {L : Nat → Int64} {pl : List Pl} {vs : List Q4} (hl : pl.length ≤ 32) (h : So I A pl vs) : ∀ (n p : Nat), p ≤ pl.length → pl.length - p < n → f_X4_mostCornersOnPlane_p4 38 I A L n (Int32.ofNat pl.length) (Int32.ofNat (mx (eN pl vs) p)) (Int32.ofNat p) = some (Int32.ofNat (mx (eN pl vs) pl.length)) := by
  intro n
  induction n with
  | zero => intro p h1 h2; omega
  | succ n ih =>
    intro p h1 h2
    rw [f_X4_mostCornersOnPlane_p4_e]
    by_cases e : p = pl.length
    · rw [if_pos (by rw [e]; exact o_le (by omega) (by omega) (by omega)), e]
    · have hp : p < pl.length := by omega
      rw [if_neg (o_nle (by omega) (by omega) hp)]
      obtain ⟨c, c1, c2⟩ := isSh_s (L := L) hl h hp
      rw [c1, bd_some, i_1]
      have t := ih (p + 1) (by omega) (by omega)
      rw [mx_s] at t
      rcases c2 with ⟨rfl, c2⟩ | ⟨rfl, c2⟩
      · have e1 : eN pl vs p = nOn pl vs p := by unfold eN; rw [ib_1 c2, Nat.one_mul]
        rw [if_neg (by decide), o_ck (by omega) (by omega), g_lt_eq, i_tnn (by omega), show A (38 + 6) p = Int32.ofNat (nOn pl vs p) from h.2.2.2.2.1 p hp]
        rw [e1] at t
        have b1 := nOn_le pl vs p
        have b2 := mx_le (eN_le pl vs) p
        have h60 := h.2.1
        have k := b_lt (b_n (n := mx (eN pl vs) p) (by omega)) (b_n (n := nOn pl vs p) (by omega))
        by_cases z : mx (eN pl vs) p < nOn pl vs p
        · rw [if_pos (k.mpr (by omega))]
          rw [if_pos z] at t
          exact t
        · rw [if_neg (fun q => z (by have := k.mp q; omega))]
          rw [if_neg z] at t
          exact t
      · have e1 : eN pl vs p = 0 := by unfold eN; rw [ib_0 c2, Nat.zero_mul]
        rw [if_pos rfl]
        rw [e1, if_neg (by omega)] at t
        exact t
theorem mostM_l {I : Nat → Int32} {A : Nat → Nat → Int32} {L : Nat → Int64} {pl : List Pl} {vs : List Q4} (hl : pl.length ≤ 32) (h60 : vs.length ≤ 60) (h : Mo I A pl vs) : ∀ (n p : Nat), p ≤ pl.length → pl.length - p < n → f_X7_mostOn_p4 I A L n (Int32.ofNat (mx (eN pl vs) p)) (Int32.ofNat p) = some (Int32.ofNat (mx (eN pl vs) pl.length)) := by
  intro n
  induction n with
  | zero => intro p h1 h2; omega
  | succ n ih =>
    intro p h1 h2
    rw [f_X7_mostOn_p4_e, m_c0, show A 60 (Int32.toNatClampNeg 0) = Int32.ofNat pl.length from h.1.1]
    by_cases e : p = pl.length
    · rw [if_pos (by rw [e]; exact o_le (by omega) (by omega) (by omega)), e]
    · have hp : p < pl.length := by omega
      rw [if_neg (o_nle (by omega) (by omega) hp), o_ck (by omega) (by omega), i_tnn (by omega), i_1]
      have t := ih (p + 1) (by omega) (by omega)
      rw [mx_s] at t
      rcases h.2.2 p hp with ⟨a, c2⟩ | ⟨a, c2⟩
      · have e1 : eN pl vs p = nOn pl vs p := by unfold eN; rw [ib_1 c2, Nat.one_mul]
        rw [if_neg (by rw [a]; decide), cOn_s hl h60 h.2.1 hp, bd_some, bd_some]
        rw [e1] at t
        have b1 := nOn_le pl vs p
        have b2 := mx_le (eN_le pl vs) p
        have k := b_le (b_n (n := nOn pl vs p) (by omega)) (b_n (n := mx (eN pl vs) p) (by omega))
        by_cases z : mx (eN pl vs) p < nOn pl vs p
        · rw [if_neg (fun q => by have := k.mp q; omega)]
          rw [if_pos z] at t
          exact t
        · rw [if_pos (k.mpr (by omega))]
          rw [if_neg z] at t
          exact t
      · have e1 : eN pl vs p = 0 := by unfold eN; rw [ib_0 c2, Nat.zero_mul]
        rw [if_pos a]
        rw [e1, if_neg (by omega)] at t
        exact t
