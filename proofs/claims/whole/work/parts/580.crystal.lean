/-! the class's crystal -/
def So (I : Nat → Int32) (A : Nat → Nat → Int32) (pl : List Pl) (vs : List Q4) : Prop := IsCrn pl vs ∧ vs.length ≤ 60 ∧ crX (I 615) A 38 vs ∧ (∀ j, j < vs.length → A 43 j = onB pl (vs.getD j q0) pl.length) ∧ (∀ p, p < pl.length → A 44 p = Int32.ofNat (nOn pl vs p)) ∧ ∀ p, p < 32 → (bt (I 616) p = true ↔ (p < pl.length ∧ shw pl vs p))
theorem So_v {I : Nat → Int32} {A : Nat → Nat → Int32} {pl : List Pl} {vs : List Q4} (h : So I A pl vs) : vSo (I 615) (I 616) (A 39) (A 40) (A 41) (A 42) (A 43) (A 44) pl := by
  obtain ⟨h1, h2, h3, h4, h5, h6⟩ := h
  exact ⟨vs, h1, h2, h3.1, fun j hj => ⟨h3.2 j hj, h4 j hj⟩, h5, fun p hp => by rw [shr_1 _ hp]; exact h6 p hp⟩
theorem v_So {I : Nat → Int32} {A : Nat → Nat → Int32} {pl : List Pl} (h : vSo (I 615) (I 616) (A 39) (A 40) (A 41) (A 42) (A 43) (A 44) pl) : ∃ vs, So I A pl vs := by
  obtain ⟨vs, h1, h2, h3, h4, h5, h6⟩ := h
  exact ⟨vs, h1, h2, ⟨h3, fun j hj => (h4 j hj).1⟩, fun j hj => (h4 j hj).2, h5, fun p hp => by rw [← shr_1 _ hp]; exact h6 p hp⟩
theorem prt_all {pl : List Pl} (h : pl.length ≤ 32) (r : Pl) : r ∈ pl ↔ prt pl (-1) pl.length r := by
  constructor
  · intro hr
    obtain ⟨i, hi, e⟩ := pD_ex hr
    refine ⟨i, hi, hi, fun z => ?_, e⟩
    have := (b_eq (b_n (n := i) (by omega)) b_m1).mp z
    omega
  · rintro ⟨i, -, hi, -, e⟩
    rw [← e]; exact pD_in hi
theorem prt_er {pl : List Pl} (h : pl.length ≤ 32) {p : Nat} (hp : p < pl.length) (r : Pl) : r ∈ pl.eraseIdx p ↔ prt pl (Int32.ofNat p) pl.length r := by
  rw [er_mem hp]
  constructor
  · rintro ⟨i, h1, h2, h3⟩
    refine ⟨i, h1, h1, fun z => h2 ?_, h3⟩
    have := (b_eq (b_n (n := i) (by omega)) (b_n (n := p) (by omega))).mp z
    omega
  · rintro ⟨i, h1, -, h2, h3⟩
    exact ⟨i, h1, fun z => h2 (by rw [z]), h3⟩
/-- what crystal() may change -/
def CrI (I I' : Nat → Int32) : Prop := ∀ k, k ≠ 7 → k ≠ 615 → k ≠ 616 → (k < 720 ∨ 730 < k) → I' k = I k
def CrA (A A' : Nat → Nat → Int32) : Prop := ∀ r, (r ≤ 38 ∨ 44 < r) → A' r = A r
theorem crystal_s {I : Nat → Int32} {A : Nat → Nat → Int32} {L : Nat → Int64} {pl : List Pl} (ok : okL pl) (hx : rpX (I 20) (A 2) (A 3) (A 4) (A 5) pl) (h7 : I 7 = 0 ∨ (I 7 = 1 ∧ vSo (I 615) (I 616) (A 39) (A 40) (A 41) (A 42) (A 43) (A 44) pl)) :
    ∃ I' A' vs, f_X6_crystal I A L = some (I', A', L) ∧ I' 7 = 1 ∧ So I' A' pl vs ∧ CrI I I' ∧ CrA A A' := by
  unfold f_X6_crystal
  rcases h7 with h7 | ⟨h7, h8⟩
  · rw [if_pos h7]
    obtain ⟨I1, A1, vs, a1, a2, a3, a4, a5, a6⟩ := cut_s (b := 38) (by omega) (L := L) ok.2.1 ok.2.2.1 ok.2.1 (okL_Bx ok) (prt_all ok.2.1) hx
    have hb : ∀ v ∈ vs, bQ v := fun v hv => isC_bQ (okL_Bx ok) ((a2.2 v).mp hv)
    have hx1 : rpX (I1 20) (A1 2) (A1 3) (A1 4) (A1 5) pl := by
      rw [a5 20 (by omega) (by omega), a6 2 (by omega), a6 3 (by omega), a6 4 (by omega), a6 5 (by omega)]
      exact hx
    obtain ⟨r5, r6, b1, b2, b3⟩ := sol_s (b := 38) (by omega) (L := L) a3 hb ok.2.1 ok.2.2.1 hx1 a4
    rw [a1, b1_some, b1, b1_some, g_lt_eq]
    refine ⟨_, _, vs, rfl, us _ _ _, ⟨a2, a3, ?_, ?_, ?_, ?_⟩, ?_, ?_⟩
    · rw [un _ _ (by omega), un _ _ (by omega)]
      exact crX_c a4 (fun r r1 r2 => by rw [un _ _ (by omega), un _ _ (by omega)])
    · intro j hj
      rw [un _ _ (by omega), us]
      exact b2 j hj
    · intro p hp
      rw [us]
      exact b3 p hp
    · intro p hp
      rw [un _ _ (by omega), us, bt_mk _ _ ok.2.1 p hp]
      by_cases c : p < pl.length
      · simp only [c, decide_true, Bool.true_and, true_and]
        exact sB_t
      · simp only [c, decide_false, Bool.false_and, false_and]
        simp
    · intro k k1 k2 k3 k4
      rw [un _ _ k1, un _ _ (by omega), a5 k (by omega) (by omega)]
    · intro r hr
      rw [un _ _ (by omega), un _ _ (by omega), a6 r (by omega)]
  · rw [if_neg (by rw [h7]; decide)]
    obtain ⟨vs, h9⟩ := v_So h8
    exact ⟨I, A, vs, rfl, h7, h9, fun _ _ _ _ _ => rfl, fun _ _ => rfl⟩
/-- the invariant over what crystal() does -/
theorem inv_crystal {I : Nat → Int32} {A : Nat → Nat → Int32} {L : Nat → Int64} (hI : Inv I A L) : ∃ I' A' pl vs, f_X6_crystal I A L = some (I', A', L) ∧ Inv I' A' L ∧ okL pl ∧ rpX (I' 20) (A' 2) (A' 3) (A' 4) (A' 5) pl ∧ rpM (A' 60) 0 pl ∧ I' 7 = 1 ∧ So I' A' pl vs ∧ I' 20 = I 20 ∧ (∀ r, (r ≤ 38 ∨ 44 < r) → A' r = A r) ∧ CrI I I' := by
  obtain ⟨pl, past, ⟨ok, hx, hm⟩, hst, h3, h4, h5, h6, h7⟩ := hI
  obtain ⟨I', A', vs, a1, a2, a3, a4, a5⟩ := crystal_s (L := L) ok hx h6
  have e20 := a4 20 (by omega) (by omega) (by omega) (by omega)
  have hx' : rpX (I' 20) (A' 2) (A' 3) (A' 4) (A' 5) pl := by
    rw [e20, a5 2 (by omega), a5 3 (by omega), a5 4 (by omega), a5 5 (by omega)]
    exact hx
  have hm' : rpM (A' 60) 0 pl := by rw [a5 60 (by omega)]; exact hm
  refine ⟨I', A', pl, vs, a1, ⟨pl, past, ⟨ok, hx', hm'⟩, ?_, ?_, ?_, ?_, Or.inr ⟨a2, So_v a3⟩, ?_⟩, ok, hx', hm', a2, a3, e20, a5, a4⟩
  · rw [a4 177 (by omega) (by omega) (by omega) (by omega), a4 178 (by omega) (by omega) (by omega) (by omega), a4 946 (by omega) (by omega) (by omega) (by omega), a5 61 (by omega), rgX_up (I := I) (A := A) (fun i i1 i2 => a4 i (by omega) (by omega) (by omega) (by omega)) (fun r r1 r2 => a5 r (by omega))]
    exact hst
  · rw [a4 913 (by omega) (by omega) (by omega) (by omega), a4 950 (by omega) (by omega) (by omega) (by omega), a5 58 (by omega), a5 64 (by omega)]
    exact h3
  · rw [a4 13 (by omega) (by omega) (by omega) (by omega), a4 14 (by omega) (by omega) (by omega) (by omega), a4 15 (by omega) (by omega) (by omega) (by omega), a5 63 (by omega)]
    exact h4
  · rw [a4 11 (by omega) (by omega) (by omega) (by omega), a4 12 (by omega) (by omega) (by omega) (by omega)]
    exact h5
  · rw [a4 8 (by omega) (by omega) (by omega) (by omega), a4 9 (by omega) (by omega) (by omega) (by omega), a4 10 (by omega) (by omega) (by omega) (by omega)]
    exact h7
