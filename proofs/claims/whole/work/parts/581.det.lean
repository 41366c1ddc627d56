/-! THE REFERENCE'S CORNERS -/
theorem m_ix (p a : Nat) : (1 : Int32) + 4 * Int32.ofNat p + Int32.ofNat a = Int32.ofNat (4 * p + 1 + a) := by
  rw [Int32.add_comm 1, show (4 : Int32) * Int32.ofNat p + 1 = Int32.ofNat (4 * p + 1) from o_lin 4 p 1, o_add]
theorem m_i1 (p : Nat) : (1 : Int32) + 4 * Int32.ofNat p = Int32.ofNat (4 * p + 1) := by
  rw [Int32.add_comm 1]; exact o_lin 4 p 1
def clm (P : Pl) (c : Nat) : Int32 := if c = 0 then P.1 else if c = 1 then P.2.1 else if c = 2 then P.2.2.1 else P.2.2.2
theorem m_cell {A : Nat → Nat → Int32} {pl : List Pl} (hm : rpM (A 60) 0 pl) {p c : Nat} (hp : p < pl.length) (hc : c < 4) : A 60 (4 * p + 1 + c) = clm (pl.getD p p0) c := by
  have h := hm.2 p hp
  rw [h]
  unfold clm
  rcases (show c = 0 ∨ c = 1 ∨ c = 2 ∨ c = 3 by omega) with rfl | rfl | rfl | rfl
  · rw [if_pos rfl, show 0 + 1 + 4 * p = 4 * p + 1 + 0 by omega]
  · rw [if_neg (by omega), if_pos rfl, show 0 + 2 + 4 * p = 4 * p + 1 + 1 by omega]
  · rw [if_neg (by omega), if_neg (by omega), if_pos rfl, show 0 + 3 + 4 * p = 4 * p + 1 + 2 by omega]
  · rw [if_neg (by omega), if_neg (by omega), if_neg (by omega), show 0 + 4 + 4 * p = 4 * p + 1 + 3 by omega]
theorem get_s {I : Nat → Int32} {A : Nat → Nat → Int32} {L : Nat → Int64} {pl : List Pl} (hm : rpM (A 60) 0 pl) (hl : pl.length ≤ 32) {p c : Nat} (hp : p < pl.length) (hc : c < 4) : f_X7_get I A L (Int32.ofNat p) (Int32.ofNat c) = some (clm (pl.getD p p0) c) := by
  unfold f_X7_get
  rw [m_ix, o_ck (by omega) (by omega), i_tnn (by omega), m_cell hm hp hc]
theorem clm_b {P : Pl} (h : okP P) (c : Nat) : bI (clm P c) (clm P c).toInt 60 := by
  obtain ⟨a1, a2, a3, a4⟩ := okP_b h
  unfold clm
  by_cases c0 : c = 0
  · rw [if_pos c0]; exact b_w a1 (by decide)
  · rw [if_neg c0]
    by_cases c1 : c = 1
    · rw [if_pos c1]; exact b_w a2 (by decide)
    · rw [if_neg c1]
      by_cases c2 : c = 2
      · rw [if_pos c2]; exact b_w a3 (by decide)
      · rw [if_neg c2]; exact a4
def dcol (P Q R : Pl) (i j k : Nat) : Int := (clm P i).toInt * ((clm Q j).toInt * (clm R k).toInt - (clm Q k).toInt * (clm R j).toInt) - (clm P j).toInt * ((clm Q i).toInt * (clm R k).toInt - (clm Q k).toInt * (clm R i).toInt) + (clm P k).toInt * ((clm Q i).toInt * (clm R j).toInt - (clm Q j).toInt * (clm R i).toInt)
theorem d63_s {I : Nat → Int32} {A : Nat → Nat → Int32} {L : Nat → Int64} {pl : List Pl} (hm : rpM (A 60) 0 pl) (hl : pl.length ≤ 32) (ho : ∀ p ∈ pl, okP p) {p q r : Nat} (hp : p < pl.length) (hq : q < pl.length) (hr : r < pl.length) {i j k : Nat} (hi : i < 4) (hj : j < 4) (hk : k < 4) : ∃ D, f_X7_determinant_p63 I A L (Int32.ofNat (4 * p + 1)) (Int32.ofNat (4 * q + 1)) (Int32.ofNat (4 * r + 1)) (Int32.ofNat i) (Int32.ofNat j) (Int32.ofNat k) = some D ∧ bI D (dcol (pl.getD p p0) (pl.getD q p0) (pl.getD r p0) i j k) 1296000 := by
  have ck : ∀ (p c : Nat), p < pl.length → c < 4 → ∀ {τ : Type} (F : Option τ), g_ck (Int32.ofNat (4 * p + 1 + c)) 129 F = F := fun p c h1 h2 τ F => o_ck (by omega) (by omega)
  have tn : ∀ (p c : Nat), p < pl.length → c < 4 → (Int32.ofNat (4 * p + 1 + c)).toNatClampNeg = 4 * p + 1 + c := fun p c h1 h2 => i_tnn (by omega)
  have P := ho _ (pD_in hp)
  have Q := ho _ (pD_in hq)
  have R := ho _ (pD_in hr)
  unfold f_X7_determinant_p63
  simp only [o_add, ck p i hp hi, ck p j hp hj, ck p k hp hk, ck q i hq hi, ck q j hq hj, ck q k hq hk, ck r i hr hi, ck r j hr hj, ck r k hr hk, tn p i hp hi, tn p j hp hj, tn p k hp hk, tn q i hq hi, tn q j hq hj, tn q k hq hk, tn r i hr hi, tn r j hr hj, tn r k hr hk, m_cell hm hp hi, m_cell hm hp hj, m_cell hm hp hk, m_cell hm hq hi, m_cell hm hq hj, m_cell hm hq hk, m_cell hm hr hi, m_cell hm hr hj, m_cell hm hr hk]
  exact ⟨_, rfl, b_w (b_add (b_sub (b_mul (clm_b P i) (b_sub (b_mul (clm_b Q j) (clm_b R k) (by decide)) (b_mul (clm_b Q k) (clm_b R j) (by decide)) (by decide)) (by decide)) (b_mul (clm_b P j) (b_sub (b_mul (clm_b Q i) (clm_b R k) (by decide)) (b_mul (clm_b Q k) (clm_b R i) (by decide)) (by decide)) (by decide)) (by decide)) (b_mul (clm_b P k) (b_sub (b_mul (clm_b Q i) (clm_b R j) (by decide)) (b_mul (clm_b Q j) (clm_b R i) (by decide)) (by decide)) (by decide)) (by decide)) (by decide)⟩
theorem det_s {I : Nat → Int32} {A : Nat → Nat → Int32} {L : Nat → Int64} {pl : List Pl} (hm : rpM (A 60) 0 pl) (hl : pl.length ≤ 32) (ho : ∀ p ∈ pl, okP p) {p q r : Nat} (hp : p < pl.length) (hq : q < pl.length) (hr : r < pl.length) :
    (∃ D, f_X7_determinant I A L (Int32.ofNat p) (Int32.ofNat q) (Int32.ofNat r) 0 = some D ∧ bI D (dX (pl.getD p p0) (pl.getD q p0) (pl.getD r p0)) 1296000) ∧ (∃ D, f_X7_determinant I A L (Int32.ofNat p) (Int32.ofNat q) (Int32.ofNat r) 1 = some D ∧ bI D (dY (pl.getD p p0) (pl.getD q p0) (pl.getD r p0)) 1296000) ∧ (∃ D, f_X7_determinant I A L (Int32.ofNat p) (Int32.ofNat q) (Int32.ofNat r) 2 = some D ∧ bI D (dZ (pl.getD p p0) (pl.getD q p0) (pl.getD r p0)) 1296000) ∧ (∃ D, f_X7_determinant I A L (Int32.ofNat p) (Int32.ofNat q) (Int32.ofNat r) 3 = some D ∧ bI D (dt3 (pl.getD p p0) (pl.getD q p0) (pl.getD r p0)) 1296000) := by
  unfold f_X7_determinant f_X7_determinant_p37 f_X7_determinant_p50
  rw [m_i1, m_i1, m_i1]
  refine ⟨?_, ?_, ?_, ?_⟩
  · rw [if_pos rfl, if_neg (by decide), if_neg (by decide)]
    exact d63_s (i := 3) (j := 1) (k := 2) hm hl ho hp hq hr (by omega) (by omega) (by omega)
  · rw [if_neg (by decide), if_pos rfl, if_neg (by decide)]
    exact d63_s (i := 0) (j := 3) (k := 2) hm hl ho hp hq hr (by omega) (by omega) (by omega)
  · rw [if_neg (by decide), if_neg (by decide), if_pos rfl]
    exact d63_s (i := 0) (j := 1) (k := 3) hm hl ho hp hq hr (by omega) (by omega) (by omega)
  · rw [if_neg (by decide), if_neg (by decide), if_neg (by decide)]
    exact d63_s (i := 0) (j := 1) (k := 2) hm hl ho hp hq hr (by omega) (by omega) (by omega)
/-! a corner of the reference: five numbers -/
def rowM (f : Nat → Int32) (j : Nat) : Q4 := ((f (5 * j)).toInt, (f (5 * j + 1)).toInt, (f (5 * j + 2)).toInt, (f (5 * j + 3)).toInt)
def okE (pl : List Pl) (f : Nat → Int32) (j : Nat) (v : Q4) : Prop := v = rowM f j ∧ f (5 * j + 4) = onB pl v pl.length
def crM (n : Int32) (f : Nat → Int32) (pl : List Pl) (vs : List Q4) : Prop := n = Int32.ofNat vs.length ∧ ∀ j, j < vs.length → okE pl f j (vs.getD j q0)
theorem m_5 (j a : Nat) : (5 : Int32) * Int32.ofNat j + Int32.ofNat a = Int32.ofNat (5 * j + a) := o_lin 5 j a
theorem m_50 (j : Nat) : (5 : Int32) * Int32.ofNat j = Int32.ofNat (5 * j) := by
  show Int32.ofNat 5 * Int32.ofNat j = _
  rw [← Int32.ofNat_mul]
theorem o_p2 (n : Nat) : Int32.ofNat n + 2 = Int32.ofNat (n + 2) := o_add n 2
theorem o_p3 (n : Nat) : Int32.ofNat n + 3 = Int32.ofNat (n + 3) := o_add n 3
theorem o_p4 (n : Nat) : Int32.ofNat n + 4 = Int32.ofNat (n + 4) := o_add n 4
theorem m_51 (j : Nat) : (5 : Int32) * Int32.ofNat j + 1 = Int32.ofNat (5 * j + 1) := m_5 j 1
theorem m_52 (j : Nat) : (5 : Int32) * Int32.ofNat j + 2 = Int32.ofNat (5 * j + 2) := m_5 j 2
theorem m_53 (j : Nat) : (5 : Int32) * Int32.ofNat j + 3 = Int32.ofNat (5 * j + 3) := m_5 j 3
theorem m_54 (j : Nat) : (5 : Int32) * Int32.ofNat j + 4 = Int32.ofNat (5 * j + 4) := m_5 j 4
theorem bP_M {pl : List Pl} {f : Nat → Int32} {j : Nat} {v : Q4} (h : okE pl f j v) (k : bQ v) : bP (f (5 * j)) (f (5 * j + 1)) (f (5 * j + 2)) (f (5 * j + 3)) v := by
  obtain ⟨⟨k1, k2⟩, k3, k4, k5⟩ := k
  have h := h.1
  rw [h] at k1 k2 k3 k4 k5 ⊢
  exact ⟨⟨rfl, k3⟩, ⟨rfl, k4⟩, ⟨rfl, k5⟩, ⟨rfl, by
    show (rowM f j).2.2.2.natAbs ≤ 162
    omega⟩⟩
theorem ahead_s {I : Nat → Int32} {A : Nat → Nat → Int32} {L : Nat → Int64} {pl : List Pl} {j : Nat} {u : Q4} (hj : j < 60) (hu : okE pl (A 65) j u) (hb : bQ u) {px py pz pd : Int32} {v : Q4} (hv : bP px py pz pd v) : ∃ c, f_X7_isAhead I A L px py pz pd (Int32.ofNat j) = some c ∧ ((c = 1 ∧ ltQ v u) ∨ (c = 0 ∧ ¬ ltQ v u)) := by
  obtain ⟨r1, r2, r3, r4⟩ := bP_M hu hb
  obtain ⟨v1, v2, v3, v4⟩ := hv
  have x := b_sub (b_mul v1 r4 (by decide)) (b_mul r1 v4 (by decide)) (by decide)
  have y := b_sub (b_mul v2 r4 (by decide)) (b_mul r2 v4 (by decide)) (by decide)
  have z := b_sub (b_mul v3 r4 (by decide)) (b_mul r3 v4 (by decide)) (by decide)
  unfold f_X7_isAhead
  simp only [g_lt_eq, m_50, i_1, o_p2, o_p3, o_p4, o_ck (show 5 * j < 320 by omega) (show 320 < 2147483648 by omega), o_ck (show 5 * j + 1 < 320 by omega) (show 320 < 2147483648 by omega), o_ck (show 5 * j + 2 < 320 by omega) (show 320 < 2147483648 by omega), o_ck (show 5 * j + 3 < 320 by omega) (show 320 < 2147483648 by omega), i_tnn (show 5 * j < 2147483648 by omega), i_tnn (show 5 * j + 1 < 2147483648 by omega), i_tnn (show 5 * j + 2 < 2147483648 by omega), i_tnn (show 5 * j + 3 < 2147483648 by omega)]
  have x0 := b_eq x b_0
  have y0 := b_eq y b_0
  have x1 := b_le b_0 x
  have y1 := b_le b_0 y
  have z1 := b_le b_0 z
  have fin : ∀ (o : Int32) (V : Int), (0 ≤ o ↔ 0 ≤ V) → (ltQ v u ↔ V < 0) → ∃ c, (if 0 ≤ o then some (0 : Int32) else some 1) = some c ∧ ((c = 1 ∧ ltQ v u) ∨ (c = 0 ∧ ¬ ltQ v u)) := fun o V h1 h2 => by
    by_cases c : 0 ≤ V
    · rw [if_pos (h1.mpr c)]
      exact ⟨0, rfl, Or.inr ⟨rfl, fun q => by have := h2.mp q; omega⟩⟩
    · rw [if_neg (fun q => c (h1.mp q))]
      exact ⟨1, rfl, Or.inl ⟨rfl, h2.mpr (by omega)⟩⟩
  by_cases cx : v.1 * u.2.2.2 - u.1 * v.2.2.2 = 0
  · rw [if_pos (x0.mpr cx)]
    by_cases cy : v.2.1 * u.2.2.2 - u.2.1 * v.2.2.2 = 0
    · rw [if_pos (y0.mpr cy)]
      exact fin _ _ z1 (by unfold ltQ; omega)
    · rw [if_neg (fun q => cy (y0.mp q))]
      exact fin _ _ y1 (by unfold ltQ; omega)
  · rw [if_neg (fun q => cx (x0.mp q))]
    exact fin _ _ x1 (by unfold ltQ; omega)
theorem isCor_l {I : Nat → Int32} {A : Nat → Nat → Int32} {L : Nat → Int64} {pl : List Pl} {vs : List Q4} (h60 : vs.length ≤ 60) (hc : crM (I 955) (A 65) pl vs) {px py pz pd : Int32} {v : Q4} (hv : v = (px.toInt, py.toInt, pz.toInt, pd.toInt)) : ∀ (n j : Nat), j ≤ vs.length → vs.length - j < n → (∀ i, i < j → vs.getD i q0 ≠ v) → ∃ c, f_X7_isCorner_p3 I A L n px py pz pd (Int32.ofNat j) = some c ∧ ((c = 1 ∧ v ∈ vs) ∨ (c = 0 ∧ v ∉ vs)) := by
  intro n
  induction n with
  | zero => intro j h1 h2; omega
  | succ n ih =>
    intro j h1 h2 h3
    rw [f_X7_isCorner_p3_e, hc.1]
    by_cases e : j = vs.length
    · rw [if_pos (by rw [e]; exact o_le (by omega) (by omega) (by omega))]
      refine ⟨0, rfl, Or.inr ⟨rfl, fun q => ?_⟩⟩
      obtain ⟨i, hi, q⟩ := vD_ex q
      exact h3 i (by omega) q
    · have hj : j < vs.length := by omega
      rw [if_neg (o_nle (by omega) (by omega) hj)]
      have hE := (hc.2 j hj).1
      simp only [m_50, i_1, o_p2, o_p3, o_p4, o_ck (show 5 * j < 320 by omega) (show 320 < 2147483648 by omega), o_ck (show 5 * j + 1 < 320 by omega) (show 320 < 2147483648 by omega), o_ck (show 5 * j + 2 < 320 by omega) (show 320 < 2147483648 by omega), o_ck (show 5 * j + 3 < 320 by omega) (show 320 < 2147483648 by omega), i_tnn (show 5 * j < 2147483648 by omega), i_tnn (show 5 * j + 1 < 2147483648 by omega), i_tnn (show 5 * j + 2 < 2147483648 by omega), i_tnn (show 5 * j + 3 < 2147483648 by omega)]
      have next : vs.getD j q0 ≠ v → ∃ c, f_X7_isCorner_p3 I A L n px py pz pd (Int32.ofNat (j + 1)) = some c ∧ ((c = 1 ∧ v ∈ vs) ∨ (c = 0 ∧ v ∉ vs)) := fun ne => by
        refine ih (j + 1) (by omega) (by omega) (fun i hi => ?_)
        by_cases e1 : i = j
        · rw [e1]; exact ne
        · exact h3 i (by omega)
      by_cases c1 : A 65 (5 * j) = px
      · rw [if_pos c1]
        by_cases c2 : A 65 (5 * j + 1) = py
        · rw [if_pos c2]
          by_cases c3 : A 65 (5 * j + 2) = pz
          · rw [if_pos c3]
            by_cases c4 : A 65 (5 * j + 3) = pd
            · rw [if_pos c4]
              refine ⟨1, rfl, Or.inl ⟨rfl, ?_⟩⟩
              have : v = vs.getD j q0 := by rw [hE, hv]; unfold rowM; rw [c1, c2, c3, c4]
              rw [this]
              exact vD_mem hj
            · rw [if_neg c4]
              refine next (fun q => c4 ?_)
              rw [hE, hv] at q
              simp only [rowM, Prod.mk.injEq] at q
              exact Int32.toInt_inj.mp q.2.2.2
          · rw [if_neg c3]
            refine next (fun q => c3 ?_)
            rw [hE, hv] at q
            simp only [rowM, Prod.mk.injEq] at q
            exact Int32.toInt_inj.mp q.2.2.1
        · rw [if_neg c2]
          refine next (fun q => c2 ?_)
          rw [hE, hv] at q
          simp only [rowM, Prod.mk.injEq] at q
          exact Int32.toInt_inj.mp q.2.1
      · rw [if_neg c1]
        refine next (fun q => c1 ?_)
        rw [hE, hv] at q
        simp only [rowM, Prod.mk.injEq] at q
        exact Int32.toInt_inj.mp q.1
theorem isCor_s {I : Nat → Int32} {A : Nat → Nat → Int32} {L : Nat → Int64} {pl : List Pl} {vs : List Q4} (h60 : vs.length ≤ 60) (hc : crM (I 955) (A 65) pl vs) {px py pz pd : Int32} {v : Q4} (hv : v = (px.toInt, py.toInt, pz.toInt, pd.toInt)) : ∃ c, f_X7_isCorner I A L px py pz pd = some c ∧ ((c = 1 ∧ v ∈ vs) ∨ (c = 0 ∧ v ∉ vs)) := isCor_l h60 hc hv 4096 0 (by omega) (by omega) (fun i hi => by omega)
