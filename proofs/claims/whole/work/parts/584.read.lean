/-! what both read off the crystal -/
theorem Inv_c {I I' : Nat → Int32} {A A' : Nat → Nat → Int32} {L : Nat → Int64} (hI : Inv I A L) (e1 : ∀ i, (i < 720 ∨ i = 913 ∨ i = 946 ∨ i = 950) → I' i = I i) (e2 : ∀ r, (r ≤ 44 ∨ r = 58 ∨ r = 60 ∨ r = 61 ∨ r = 63 ∨ r = 64) → A' r = A r) : Inv I' A' L := by
  obtain ⟨pl, past, ⟨ok, hx, hm⟩, hst, h3, h4, h5, h6, h7⟩ := hI
  refine ⟨pl, past, ⟨ok, ?_, ?_⟩, ?_, ?_, ?_, ?_, ?_, ?_⟩
  · rw [e1 20 (by omega), e2 2 (by omega), e2 3 (by omega), e2 4 (by omega), e2 5 (by omega)]
    exact hx
  · rw [e2 60 (by omega)]; exact hm
  · rw [e1 177 (by omega), e1 178 (by omega), e1 946 (by omega), e2 61 (by omega), rgX_up (I := I) (A := A) (fun i i1 i2 => e1 i (by omega)) (fun r r1 r2 => e2 r (by omega))]
    exact hst
  · rw [e1 913 (by omega), e1 950 (by omega), e2 58 (by omega), e2 64 (by omega)]
    exact h3
  · rw [e1 13 (by omega), e1 14 (by omega), e1 15 (by omega), e2 63 (by omega)]
    exact h4
  · rw [e1 11 (by omega), e1 12 (by omega)]; exact h5
  · rw [e1 7 (by omega), e1 615 (by omega), e1 616 (by omega), e2 39 (by omega), e2 40 (by omega), e2 41 (by omega), e2 42 (by omega), e2 43 (by omega), e2 44 (by omega)]
    exact h6
  · rw [e1 8 (by omega), e1 9 (by omega), e1 10 (by omega)]; exact h7
theorem m_lay {pl : List Pl} (ok : okL pl) {vs : List Q4} (hv : IsCrn pl vs) {I : Nat → Int32} {A : Nat → Nat → Int32} {L : Nat → Int64} (hm : rpM (A 60) 0 pl) : ∃ I' A', f_X7_lays I A L = some (I', A', L) ∧ Mo I' A' pl vs ∧ (∀ i, i ≠ 955 → I' i = I i) ∧ ∀ r, r ≠ 65 → r ≠ 66 → A' r = A r := by
  obtain ⟨I', A', ws, a1, a2, a3, a4, a5, a6⟩ := mlay_s ok (I := I) (L := L) hm
  have e := crn_one hv a2
  subst e
  exact ⟨I', A', a1, a4, a5, a6⟩
theorem inv_lay {I I' : Nat → Int32} {A A' : Nat → Nat → Int32} {L : Nat → Int64} (hI : Inv I A L) (e1 : ∀ i, i ≠ 955 → I' i = I i) (e2 : ∀ r, r ≠ 65 → r ≠ 66 → A' r = A r) : Inv I' A' L := Inv_c hI (fun i hi => e1 i (by omega)) (fun r hr => e2 r (by omega) (by omega))
theorem isSh_s {I : Nat → Int32} {A : Nat → Nat → Int32} {L : Nat → Int64} {pl : List Pl} {vs : List Q4} (hl : pl.length ≤ 32) (h : So I A pl vs) {p : Nat} (hp : p < pl.length) : ∃ c, f_X4_isShown 38 I A L (Int32.ofNat p) = some c ∧ ((c = 1 ∧ shw pl vs p) ∨ (c = 0 ∧ ¬ shw pl vs p)) := by
  unfold f_X4_isShown
  have k := shr_1 (I 616) (show p < 32 by omega)
  rw [h.2.2.2.2.2 p (by omega)] at k
  have k' : (I (16 * 38 + 8)).toUInt32 >>> ((Int32.ofNat p).toUInt32 &&& Int32.toUInt32 31) = (I 616).toUInt32 >>> ((Int32.ofNat p).toUInt32 &&& Int32.toUInt32 31) := rfl
  rw [k']
  by_cases c : shw pl vs p
  · rw [if_pos (k.mpr ⟨hp, c⟩)]; exact ⟨1, rfl, Or.inl ⟨rfl, c⟩⟩
  · rw [if_neg (fun q => c (k.mp q).2)]; exact ⟨0, rfl, Or.inr ⟨rfl, c⟩⟩
theorem cBoth_l {I : Nat → Int32} {A : Nat → Nat → Int32} {L : Nat → Int64} {pl : List Pl} {vs : List Q4} (hl : pl.length ≤ 32) (h60 : vs.length ≤ 60) (hc : crM (I 955) (A 65) pl vs) {p q : Nat} (hp : p < pl.length) (hq : q < pl.length) : ∀ (n j : Nat), j ≤ vs.length → vs.length - j < n → f_X7_cornersOnBoth_p5 I A L n (Int32.ofNat p) (Int32.ofNat q) (Int32.ofNat (sm j (fun i => ib (sd (pl.getD p p0) (vs.getD i q0) = 0 ∧ sd (pl.getD q p0) (vs.getD i q0) = 0)))) (Int32.ofNat j) = some (Int32.ofNat (nB pl vs p q)) := by
  intro n
  induction n with
  | zero => intro j h1 h2; omega
  | succ n ih =>
    intro j h1 h2
    rw [f_X7_cornersOnBoth_p5_e, hc.1]
    by_cases e : j = vs.length
    · rw [if_pos (by rw [e]; exact o_le (by omega) (by omega) (by omega)), e, nB_sm]
    · have hj : j < vs.length := by omega
      rw [if_neg (o_nle (by omega) (by omega) hj)]
      obtain ⟨c, c1, c2⟩ := isOn_s (I := I) (L := L) hl (show j < 60 by omega) (hc.2 j hj) hp
      obtain ⟨d, d1, d2⟩ := isOn_s (I := I) (L := L) hl (show j < 60 by omega) (hc.2 j hj) hq
      rw [c1, bd_some, i_1, i_1, x_p0]
      have t := ih (j + 1) (by omega) (by omega)
      rw [sm_s] at t
      rcases c2 with ⟨rfl, c2⟩ | ⟨rfl, c2⟩
      · rw [if_neg (by decide), d1, bd_some]
        rcases d2 with ⟨rfl, d2⟩ | ⟨rfl, d2⟩
        · rw [if_neg (by decide)]
          rw [ib_1 ⟨c2, d2⟩] at t
          exact t
        · rw [if_pos rfl]
          rw [ib_0 (fun z => d2 z.2)] at t
          exact t
      · rw [if_pos rfl]
        rw [ib_0 (fun z => c2 z.1)] at t
        exact t
theorem cBoth_s {I : Nat → Int32} {A : Nat → Nat → Int32} {L : Nat → Int64} {pl : List Pl} {vs : List Q4} (hl : pl.length ≤ 32) (h60 : vs.length ≤ 60) (hc : crM (I 955) (A 65) pl vs) {p q : Nat} (hp : p < pl.length) (hq : q < pl.length) : f_X7_cornersOnBoth I A L (Int32.ofNat p) (Int32.ofNat q) = some (Int32.ofNat (nB pl vs p q)) := cBoth_l hl h60 hc hp hq 4096 0 (by omega) (by omega)
theorem nB_le (pl : List Pl) (vs : List Q4) (p q : Nat) : nB pl vs p q ≤ vs.length := List.length_filter_le _ _
theorem isEdge_s {I : Nat → Int32} {A : Nat → Nat → Int32} {L : Nat → Int64} {pl : List Pl} {vs : List Q4} (hl : pl.length ≤ 32) (h60 : vs.length ≤ 60) (h : Mo I A pl vs) {p q : Nat} (hp : p < pl.length) (hq : q < pl.length) : ∃ c, f_X7_isEdge I A L (Int32.ofNat p) (Int32.ofNat q) = some c ∧ ((c = 1 ∧ shw pl vs p ∧ shw pl vs q ∧ 2 ≤ nB pl vs p q) ∨ (c = 0 ∧ ¬ (shw pl vs p ∧ shw pl vs q ∧ 2 ≤ nB pl vs p q))) := by
  unfold f_X7_isEdge
  rw [o_ck (by omega) (by omega), i_tnn (by omega)]
  rcases h.2.2 p hp with ⟨a, b⟩ | ⟨a, b⟩
  · rw [if_neg (by rw [a]; decide), o_ck (by omega) (by omega), i_tnn (by omega)]
    rcases h.2.2 q hq with ⟨c, d⟩ | ⟨c, d⟩
    · rw [if_neg (by rw [c]; decide), cBoth_s (I := I) (L := L) hl h60 h.2.1 hp hq, bd_some]
      have hn := nB_le pl vs p q
      have k := b_le (b_n (n := nB pl vs p q) (by omega)) b_1
      by_cases z : nB pl vs p q ≤ 1
      · rw [if_pos (k.mpr (by omega))]; exact ⟨0, rfl, Or.inr ⟨rfl, fun y => by omega⟩⟩
      · rw [if_neg (fun y => by have := k.mp y; omega)]; exact ⟨1, rfl, Or.inl ⟨rfl, b, d, by omega⟩⟩
    · rw [if_pos c]; exact ⟨0, rfl, Or.inr ⟨rfl, fun y => d y.2.1⟩⟩
  · rw [if_pos a]; exact ⟨0, rfl, Or.inr ⟨rfl, fun y => b y.1⟩⟩
theorem eOf_l {I : Nat → Int32} {A : Nat → Nat → Int32} {L : Nat → Int64} {pl : List Pl} {vs : List Q4} (hl : pl.length ≤ 32) (h60 : vs.length ≤ 60) (h : Mo I A pl vs) {p : Nat} (hp : p < pl.length) : ∀ (n q : Nat), q ≤ pl.length → pl.length - q < n → f_X7_edgesOf_p4 I A L n (Int32.ofNat p) (Int32.ofNat (sm q (fun i => ib (i ≠ p ∧ shw pl vs p ∧ shw pl vs i ∧ 2 ≤ nB pl vs p i)))) (Int32.ofNat q) = some (Int32.ofNat (sm pl.length (fun i => ib (i ≠ p ∧ shw pl vs p ∧ shw pl vs i ∧ 2 ≤ nB pl vs p i)))) := by
  intro n
  induction n with
  | zero => intro q h1 h2; omega
  | succ n ih =>
    intro q h1 h2
    rw [f_X7_edgesOf_p4_e, m_c0, show A 60 (Int32.toNatClampNeg 0) = Int32.ofNat pl.length from h.1.1]
    by_cases e : q = pl.length
    · rw [if_pos (by rw [e]; exact o_le (by omega) (by omega) (by omega)), e]
    · have hq : q < pl.length := by omega
      rw [if_neg (o_nle (by omega) (by omega) hq), i_1, i_1, x_p0]
      have t := ih (q + 1) (by omega) (by omega)
      rw [sm_s] at t
      by_cases eq : q = p
      · rw [if_pos (by rw [eq])]
        rw [ib_0 (fun z => z.1 eq)] at t
        exact t
      · rw [if_neg (fun z => eq (by have := (b_eq (b_n (n := q) (by omega)) (b_n (n := p) (by omega))).mp z; omega))]
        obtain ⟨c, c1, c2⟩ := isEdge_s (I := I) (L := L) hl h60 h hp hq
        rw [c1, bd_some]
        rcases c2 with ⟨rfl, c2⟩ | ⟨rfl, c2⟩
        · rw [if_neg (by decide)]
          rw [ib_1 ⟨eq, c2⟩] at t
          exact t
        · rw [if_pos rfl]
          rw [ib_0 (fun z => c2 z.2)] at t
          exact t
/-- edges of a plane -/
noncomputable def eN (pl : List Pl) (vs : List Q4) (p : Nat) : Nat := ib (shw pl vs p) * nOn pl vs p
theorem eOf_s {I : Nat → Int32} {A : Nat → Nat → Int32} {L : Nat → Int64} {pl : List Pl} {vs : List Q4} (ok : okL pl) (hv : IsCrn pl vs) (h60 : vs.length ≤ 60) (h : Mo I A pl vs) {p : Nat} (hp : p < pl.length) : f_X7_edgesOf I A L (Int32.ofNat p) = some (Int32.ofNat (eN pl vs p)) := by
  have t : f_X7_edgesOf I A L (Int32.ofNat p) = _ := eOf_l (I := I) (L := L) ok.2.1 h60 h hp 4096 0 (by omega) (by have := ok.2.1; omega)
  rw [t]
  congr 2
  unfold eN
  by_cases s : shw pl vs p
  · rw [ib_1 s, Nat.one_mul, ← edges_p (okL_Gd ok) (srt_nd hv.1) hv.2 hp s]
    exact sm_eq (fun i _ => ib_c ⟨fun z => ⟨z.1, z.2.2⟩, fun z => ⟨z.1, s, z.2⟩⟩)
  · rw [ib_0 s, Nat.zero_mul]
    exact sm_0 (fun i _ => ib_0 (fun z => s z.2.1))
theorem eOn_x {I : Nat → Int32} {A : Nat → Nat → Int32} {L : Nat → Int64} {pl : List Pl} {vs : List Q4} (hl : pl.length ≤ 32) (h : So I A pl vs) {p : Nat} (hp : p < pl.length) : f_X4_edgesOn 38 I A L (Int32.ofNat p) = some (Int32.ofNat (eN pl vs p)) := by
  unfold f_X4_edgesOn eN
  obtain ⟨c, c1, c2⟩ := isSh_s (L := L) hl h hp
  rw [c1, bd_some]
  rcases c2 with ⟨rfl, c2⟩ | ⟨rfl, c2⟩
  · rw [if_neg (by decide), o_ck (by omega) (by omega), i_tnn (by omega), ib_1 c2, Nat.one_mul]
    exact congrArg some (h.2.2.2.2.1 p hp)
  · rw [if_pos rfl, ib_0 c2, Nat.zero_mul]; rfl
