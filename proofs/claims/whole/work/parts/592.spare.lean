/-! spare -/
def encP (pl : List Pl) (i : Nat) : Int32 := if i = 0 then Int32.ofNat pl.length else clm (pl.getD ((i - 1) / 4) p0) ((i - 1) % 4)
theorem encP_e (pl : List Pl) (j c : Nat) (hc : c < 4) : encP pl (c + 1 + 4 * j) = clm (pl.getD j p0) c := by
  unfold encP
  rw [if_neg (by omega), show (c + 1 + 4 * j - 1) / 4 = j by omega, show (c + 1 + 4 * j - 1) % 4 = c by omega]
theorem crn_ex {pl : List Pl} (ok : okL pl) : ∃ vs, IsCrn pl vs ∧ vs.length ≤ 60 := by
  have hm : rpM (encP pl) 0 pl := by
    refine ⟨rfl, fun j hj => ?_⟩
    rw [show 0 + 1 + 4 * j = 0 + 1 + 4 * j from rfl, encP_e pl j 0 (by omega), show 0 + 2 + 4 * j = 1 + 1 + 4 * j from rfl, encP_e pl j 1 (by omega), show 0 + 3 + 4 * j = 2 + 1 + 4 * j from rfl, encP_e pl j 2 (by omega), show 0 + 4 + 4 * j = 3 + 1 + 4 * j from rfl, encP_e pl j 3 (by omega)]
    rfl
  obtain ⟨I', A', vs, a1, a2, a3, -⟩ := mlay_s ok (I := fun _ => 0) (A := fun _ => encP pl) (L := fun _ => 0) hm
  exact ⟨vs, a2, a3⟩
/-- how many corners are left without a plane -/
def cnS (pl : List Pl) (cn : Nat → Nat) : Prop := ∀ p, 6 ≤ p → p < pl.length → ∃ vs, IsCrn (pl.eraseIdx p) vs ∧ vs.length = cn p ∧ cn p ≤ 60
theorem cn_ex {pl : List Pl} (ok : okL pl) : ∃ cn, cnS pl cn := by
  have : ∀ p, ∃ n, 6 ≤ p → p < pl.length → ∃ vs, IsCrn (pl.eraseIdx p) vs ∧ vs.length = n ∧ n ≤ 60 := fun p => by
    by_cases h : 6 ≤ p ∧ p < pl.length
    · obtain ⟨vs, h1, h2⟩ := crn_ex (okL_er ok h.2 h.1)
      exact ⟨vs.length, fun _ _ => ⟨vs, h1, rfl, h2⟩⟩
    · exact ⟨0, fun a b => absurd ⟨a, b⟩ h⟩
  exact ⟨fun p => Classical.choose (this p), fun p => Classical.choose_spec (this p)⟩
theorem cn_u {pl : List Pl} {cn cn' : Nat → Nat} (h : cnS pl cn) (k : cnS pl cn') (p : Nat) (h6 : 6 ≤ p) (hp : p < pl.length) : cn p = cn' p := by
  obtain ⟨vs, a1, a2, -⟩ := h p h6 hp
  obtain ⟨ws, b1, b2, -⟩ := k p h6 hp
  rw [← a2, ← b2, crn_one a1 b1]
/-- the best of the planes from 6 to n -/
def SpS (cn : Nat → Nat) (n : Nat) (b m : Int32) : Prop := (n = 6 ∧ b = -1 ∧ m = -1) ∨ ∃ w, 6 ≤ w ∧ w < n ∧ b = Int32.ofNat w ∧ m = Int32.ofNat (cn w) ∧ (∀ p, 6 ≤ p → p < w → cn p < cn w) ∧ ∀ p, 6 ≤ p → p < n → cn p ≤ cn w
theorem SpS_s {cn : Nat → Nat} {n : Nat} {b m : Int32} (h : SpS cn n b m) (h6 : 6 ≤ n) (hc : ∀ p, 6 ≤ p → p ≤ n → cn p ≤ 60) : (Int32.ofNat (cn n) ≤ m → SpS cn (n + 1) b m) ∧ (¬ Int32.ofNat (cn n) ≤ m → SpS cn (n + 1) (Int32.ofNat n) (Int32.ofNat (cn n))) := by
  have cb := hc n h6 (by omega)
  rcases h with ⟨h1, h2, h3⟩ | ⟨w, w1, w2, w3, w4, w5, w6⟩
  · refine ⟨fun q => ?_, fun _ => Or.inr ⟨n, h6, by omega, rfl, rfl, fun p p1 p2 => by omega, fun p p1 p2 => ?_⟩⟩
    · rw [h3] at q
      have := (b_le (b_n (n := cn n) (by omega)) b_m1).mp q
      omega
    · have : p = n := by omega
      rw [this]; exact Nat.le_refl _
  · have cw := hc w w1 (by omega)
    have k := b_le (b_n (n := cn n) (by omega)) (b_n (n := cn w) (by omega))
    rw [w4]
    refine ⟨fun q => Or.inr ⟨w, w1, by omega, w3, rfl, w5, fun p p1 p2 => ?_⟩, fun q => Or.inr ⟨n, h6, by omega, rfl, rfl, fun p p1 p2 => ?_, fun p p1 p2 => ?_⟩⟩
    · by_cases e : p = n
      · rw [e]; have := k.mp q; omega
      · exact w6 p p1 (by omega)
    · have z := w6 p p1 p2
      have : ¬ ((cn n : Int) ≤ (cn w : Int)) := fun y => q (k.mpr y)
      omega
    · by_cases e : p = n
      · rw [e]; exact Nat.le_refl _
      · have z := w6 p p1 (by omega)
        have : ¬ ((cn n : Int) ≤ (cn w : Int)) := fun y => q (k.mpr y)
        omega
theorem SpS_u {cn cn' : Nat → Nat} {n : Nat} {b m b' m' : Int32} (h : SpS cn n b m) (k : SpS cn' n b' m') (e : ∀ p, 6 ≤ p → p < n → cn p = cn' p) : b = b' ∧ m = m' := by
  rcases h with ⟨h1, h2, h3⟩ | ⟨w, w1, w2, w3, w4, w5, w6⟩ <;> rcases k with ⟨k1, k2, k3⟩ | ⟨v, v1, v2, v3, v4, v5, v6⟩
  · rw [h2, h3, k2, k3]; exact ⟨rfl, rfl⟩
  · omega
  · omega
  · have ew := e w w1 w2
    have ev := e v v1 v2
    have evw : v = w := by
      rcases (show v < w ∨ v = w ∨ w < v by omega) with c | c | c
      · have z1 := w5 v v1 c
        have z2 := v6 w w1 w2
        omega
      · exact c
      · have z1 := v5 w w1 c
        have z2 := w6 v v1 v2
        omega
    rw [w3, w4, v3, v4, evw, ew]; exact ⟨rfl, rfl⟩
theorem So_c {I I' : Nat → Int32} {A A' : Nat → Nat → Int32} {pl : List Pl} {vs : List Q4} (h : So I A pl vs) (e1 : I' 615 = I 615) (e2 : I' 616 = I 616) (e3 : ∀ r, 39 ≤ r → r ≤ 44 → A' r = A r) : So I' A' pl vs := by
  obtain ⟨h1, h2, h3, h4, h5, h6⟩ := h
  refine ⟨h1, h2, ?_, ?_, ?_, ?_⟩
  · rw [e1]; exact crX_c h3 (fun r r1 r2 => e3 r (by omega) (by omega))
  · rw [e3 43 (by omega) (by omega)]; exact h4
  · rw [e3 44 (by omega) (by omega)]; exact h5
  · rw [e2]; exact h6
theorem cw_s {I : Nat → Int32} {A : Nat → Nat → Int32} {L : Nat → Int64} {pl : List Pl} {vs : List Q4} (ok : okL pl) (hx : rpX (I 20) (A 2) (A 3) (A 4) (A 5) pl) (h : So I A pl vs) {cn : Nat → Nat} (hcn : cnS pl cn) {p : Nat} (h6 : 6 ≤ p) (hp : p < pl.length) : ∃ I' A', f_X6_cornersWithout 38 (Int32.ofNat p) I A L = some (Int32.ofNat (cn p), I', A', L) ∧ FrI 46 I I' ∧ FrA 46 A A' := by
  have hl := ok.2.1
  obtain ⟨ws, w1, w2, -⟩ := hcn p h6 hp
  obtain ⟨c, c1, c2⟩ := isSh_s (L := L) hl h hp
  unfold f_X6_cornersWithout
  rw [c1, bd_some]
  rcases c2 with ⟨rfl, c2⟩ | ⟨rfl, c2⟩
  · rw [if_neg (by decide)]
    have oke := okL_er ok hp h6
    obtain ⟨I', A', us', a1, a2, a3, a4, a5, a6⟩ := cut_s (b := 46) (by omega) (L := L) hl ok.2.2.1 oke.2.1 (okL_Bx oke) (prt_er hl hp) hx
    rw [a1, b1_some]
    refine ⟨I', A', ?_, a5, a6⟩
    have e : I' 743 = Int32.ofNat us'.length := a4.1
    rw [e, crn_one a2 w1, w2]
  · rw [if_pos rfl]
    refine ⟨I, A, ?_, fun _ _ _ => rfl, fun _ _ => rfl⟩
    have e : I (16 * 38 + 7) = Int32.ofNat vs.length := h.2.2.1.1
    rw [e, crn_one (hidden (okL_Gd ok) h.1 hp c2) w1, w2]
/-- what findSpare may change -/
def SpI (I I' : Nat → Int32) : Prop := ∀ i, i ≠ 8 → i ≠ 9 → i ≠ 10 → i ≠ 743 → (i < 848 ∨ 858 < i) → I' i = I i
theorem fs_l {L : Nat → Int64} {pl : List Pl} {vs : List Q4} (ok : okL pl) {cn : Nat → Nat} (hcn : cnS pl cn) : ∀ (n p : Nat) (I : Nat → Int32) (A : Nat → Nat → Int32), 6 ≤ p → p ≤ pl.length → pl.length - p < n → rpX (I 20) (A 2) (A 3) (A 4) (A 5) pl → So I A pl vs → SpS cn p (I 9) (I 10) → ∃ I' A', f_X6_findSpare_p18 n (Int32.ofNat p) I A L = some (I', A', L) ∧ I' 8 = 1 ∧ SpS cn pl.length (I' 9) (I' 10) ∧ SpI I I' ∧ FrA 46 A A' := by
  have hl := ok.2.1
  intro n
  induction n with
  | zero => intro p I A h1 h2 h3; omega
  | succ n ih =>
    intro p I A h6 p1 p2 hx hS hB
    rw [f_X6_findSpare_p18_e, hx.1]
    by_cases e : p = pl.length
    · rw [if_pos (by rw [e]; exact o_le (by omega) (by omega) (by omega)), g_lt_eq]
      refine ⟨_, A, rfl, us _ _ _, ?_, fun i i1 i2 i3 i4 i5 => un _ _ i1, fun _ _ => rfl⟩
      rw [un _ _ (by omega), un _ _ (by omega), ← e]
      exact hB
    · have hp : p < pl.length := by omega
      rw [if_neg (o_nle (by omega) (by omega) hp)]
      obtain ⟨I3, A3, a1, a2, a3⟩ := cw_s (L := L) ok hx hS hcn h6 hp
      rw [a1, b2_some, i_1, g_lt_eq, g_lt_eq]
      have e9 : I3 9 = I 9 := a2 9 (by omega) (by omega)
      have e10 : I3 10 = I 10 := a2 10 (by omega) (by omega)
      obtain ⟨s1, s2⟩ := SpS_s hB h6 (fun q q1 q2 => by obtain ⟨-, -, -, z⟩ := hcn q q1 (by omega); exact z)
      have hx3 : ∀ I4 : Nat → Int32, I4 20 = I3 20 → rpX (I4 20) (A3 2) (A3 3) (A3 4) (A3 5) pl := fun I4 e4 => by
        rw [e4, a2 20 (by omega) (by omega), a3 2 (by omega), a3 3 (by omega), a3 4 (by omega), a3 5 (by omega)]
        exact hx
      have hS3 : ∀ I4 : Nat → Int32, I4 615 = I3 615 → I4 616 = I3 616 → So I4 A3 pl vs := fun I4 e4 e5 => So_c hS (by rw [e4, a2 615 (by omega) (by omega)]) (by rw [e5, a2 616 (by omega) (by omega)]) (fun r r1 r2 => a3 r (by omega))
      rw [e10]
      by_cases c : Int32.ofNat (cn p) ≤ I 10
      · rw [if_pos c]
        obtain ⟨I', A', k1, k2, k3, k4, k5⟩ := ih (p + 1) I3 A3 (by omega) (by omega) (by omega) (hx3 I3 rfl) (hS3 I3 rfl rfl) (by rw [e9, e10]; exact s1 c)
        exact ⟨I', A', k1, k2, k3, fun i i1 i2 i3 i4 i5 => by rw [k4 i i1 i2 i3 i4 i5, a2 i (by omega) (by omega)], fun r hr => by rw [k5 r hr, a3 r hr]⟩
      · rw [if_neg c]
        obtain ⟨I', A', k1, k2, k3, k4, k5⟩ := ih (p + 1) (va_up (va_up I3 10 (Int32.ofNat (cn p))) 9 (Int32.ofNat p)) A3 (by omega) (by omega) (by omega) (hx3 _ (by rw [un _ _ (by omega), un _ _ (by omega)])) (hS3 _ (by rw [un _ _ (by omega), un _ _ (by omega)]) (by rw [un _ _ (by omega), un _ _ (by omega)])) (by rw [us, un _ _ (by omega), us]; exact s2 c)
        exact ⟨I', A', k1, k2, k3, fun i i1 i2 i3 i4 i5 => by rw [k4 i i1 i2 i3 i4 i5, un _ _ i2, un _ _ i3, a2 i (by omega) (by omega)], fun r hr => by rw [k5 r hr, a3 r hr]⟩
theorem inv_sp {I I' : Nat → Int32} {A A' : Nat → Nat → Int32} {L : Nat → Int64} (hI : Inv I A L) (e1 : SpI I I') (e2 : FrA 46 A A') {pl0 : List Pl} (ok0 : okL pl0) (hx0 : rpX (I 20) (A 2) (A 3) (A 4) (A 5) pl0) (h8 : I' 8 = 1) (hs : vSp (I' 9) (I' 10) pl0) : Inv I' A' L := by
  obtain ⟨pl, past, ⟨ok, hx, hm⟩, hst, h3, h4, h5, h6, h7⟩ := hI
  have ep := rpX_u hx hx0 ok.2.1 ok0.2.1
  subst ep
  have e1 : ∀ i, (i < 720 ∨ i = 913 ∨ i = 946 ∨ i = 950) → i ≠ 8 → i ≠ 9 → i ≠ 10 → I' i = I i := fun i hi i1 i2 i3 => e1 i i1 i2 i3 (by omega) (by omega)
  have e2 : ∀ r, (r ≤ 44 ∨ r = 58 ∨ r = 60 ∨ r = 61 ∨ r = 63 ∨ r = 64) → A' r = A r := fun r hr => e2 r (by omega)
  refine ⟨pl, past, ⟨ok, ?_, ?_⟩, ?_, ?_, ?_, ?_, ?_, Or.inr ⟨h8, hs⟩⟩
  · rw [e1 20 (by omega) (by omega) (by omega) (by omega), e2 2 (by omega), e2 3 (by omega), e2 4 (by omega), e2 5 (by omega)]
    exact hx
  · rw [e2 60 (by omega)]; exact hm
  · rw [e1 177 (by omega) (by omega) (by omega) (by omega), e1 178 (by omega) (by omega) (by omega) (by omega), e1 946 (by omega) (by omega) (by omega) (by omega), e2 61 (by omega), rgX_up (I := I) (A := A) (fun i i1 i2 => e1 i (by omega) (by omega) (by omega) (by omega)) (fun r r1 r2 => e2 r (by omega))]
    exact hst
  · rw [e1 913 (by omega) (by omega) (by omega) (by omega), e1 950 (by omega) (by omega) (by omega) (by omega), e2 58 (by omega), e2 64 (by omega)]
    exact h3
  · rw [e1 13 (by omega) (by omega) (by omega) (by omega), e1 14 (by omega) (by omega) (by omega) (by omega), e1 15 (by omega) (by omega) (by omega) (by omega), e2 63 (by omega)]
    exact h4
  · rw [e1 11 (by omega) (by omega) (by omega) (by omega), e1 12 (by omega) (by omega) (by omega) (by omega)]; exact h5
  · rw [e1 7 (by omega) (by omega) (by omega) (by omega), e1 615 (by omega) (by omega) (by omega) (by omega), e1 616 (by omega) (by omega) (by omega) (by omega), e2 39 (by omega), e2 40 (by omega), e2 41 (by omega), e2 42 (by omega), e2 43 (by omega), e2 44 (by omega)]
    exact h6
theorem SpS_v {pl : List Pl} {cn : Nat → Nat} (hcn : cnS pl cn) (h : 6 < pl.length) {b m : Int32} (k : SpS cn pl.length b m) : vSp b m pl := by
  rcases k with ⟨k1, -⟩ | k
  · omega
  · exact ⟨cn, hcn, k⟩
/-- the class's part -/
theorem sp_x {I : Nat → Int32} {A : Nat → Nat → Int32} {L : Nat → Int64} (hI : Inv I A L) {pl : List Pl} (ok : okL pl) (hx : rpX (I 20) (A 2) (A 3) (A 4) (A 5) pl) (h6 : 6 < pl.length) {w : Int32} (hw : 0 ≤ w ∧ w ≤ 1) : ∃ (cn : Nat → Nat) (b m : Int32) (I1 : Nat → Int32) (A1 : Nat → Nat → Int32), cnS pl cn ∧ SpS cn pl.length b m ∧ f_X6_spare w I A L = some (if w = 0 then b else m, I1, A1, L) ∧ Inv I1 A1 L ∧ A1 60 = A 60 := by
  have hl := ok.2.1
  have p44 : ∀ (I1 : Nat → Int32) (A1 : Nat → Nat → Int32), f_X6_spare_p44 w I1 A1 L = some (if w = 0 then I1 9 else I1 10, I1, A1, L) := fun I1 A1 => by
    unfold f_X6_spare_p44
    by_cases z : w = 0
    · rw [if_pos z, if_pos z]
    · rw [if_neg z, if_neg z]
  have ex : f_X6_spare w I A L = if I 8 = 0 then (g_b1 (f_X6_findSpare I A L) (fun I2 A3 L4 => f_X6_spare_p44 w I2 A3 L4)) else (f_X6_spare_p44 w I A L) := by
    unfold f_X6_spare
    rw [if_neg (Int32.not_lt.mpr hw.1), if_pos hw.2, hx.1, if_pos (show (6 : Int32) < Int32.ofNat pl.length from (o_ltn (a := 6) (by omega) (by omega)).mpr h6)]
  have h8 : I 8 = 0 ∨ (I 8 = 1 ∧ vSp (I 9) (I 10) pl) := by
    obtain ⟨pl1, past, ⟨ok1, hx1, hm1⟩, hst, h3, h4, h5, h6', h7⟩ := id hI
    have ep := rpX_u hx1 hx ok1.2.1 ok.2.1
    rw [ep] at h7
    exact h7
  rcases h8 with h8 | ⟨h8, cn, hcn, hsp⟩
  · obtain ⟨I1, A1, pl1, vs, a1, a2, ok1, a4, a5, a6, a7, a8, a9, a10⟩ := inv_crystal hI
    have ep : pl1 = pl := rpX_u (by rw [a8, a9 2 (by omega), a9 3 (by omega), a9 4 (by omega), a9 5 (by omega)] at a4; exact a4) hx ok1.2.1 ok.2.1
    subst ep
    obtain ⟨cn, hcn⟩ := cn_ex ok
    have hI5 : ∀ i, i ≠ 9 → i ≠ 10 → va_up (va_up I1 9 (-1)) 10 (-1) i = I1 i := fun i i1 i2 => by rw [un _ _ i2, un _ _ i1]
    obtain ⟨I2, A2, k1, k2, k3, k4, k5⟩ := fs_l (L := L) ok hcn 4096 6 (va_up (va_up I1 9 (-1)) 10 (-1)) A1 (by omega) (by omega) (by omega) (by rw [hI5 20 (by omega) (by omega)]; exact a4) (So_c a7 (hI5 615 (by omega) (by omega)) (hI5 616 (by omega) (by omega)) (fun _ _ _ => rfl)) (Or.inl ⟨rfl, by rw [un _ _ (by omega), us], us _ _ _⟩)
    have k4' : SpI I1 I2 := fun i i1 i2 i3 i4 i5 => by rw [k4 i i1 i2 i3 i4 i5, hI5 i i2 i3]
    refine ⟨cn, I2 9, I2 10, I2, A2, hcn, k3, ?_, inv_sp a2 k4' k5 ok a4 k2 (SpS_v hcn h6 k3), by rw [k5 60 (by omega), a9 60 (by omega)]⟩
    rw [ex, if_pos h8]
    unfold f_X6_findSpare
    rw [a1, b1_some, g_lt_eq, g_lt_eq]
    have k1' : f_X6_findSpare_p18 4096 6 (va_up (va_up I1 9 (-1)) 10 (-1)) A1 L = _ := k1
    rw [k1', b1_some, p44]
  · refine ⟨cn, I 9, I 10, I, A, hcn, Or.inr hsp, ?_, hI, rfl⟩
    rw [ex, if_neg (by rw [h8]; decide), p44]
theorem sp46_l {L : Nat → Int64} {pl : List Pl} (ok : okL pl) {cn : Nat → Nat} (hcn : cnS pl cn) {w : Int32} : ∀ (n p : Nat) (b m : Int32) (I : Nat → Int32) (A : Nat → Nat → Int32), 6 ≤ p → p ≤ pl.length → pl.length - p < n → rpM (A 62) 0 pl → (∀ i, i < 129 → A 60 i = A 62 i) → SpS cn p b m → ∃ b' m' I' A', f_X7_spare_p46 n w b m (Int32.ofNat p) I A L = some (if w = 0 then b' else m', I', A', L) ∧ SpS cn pl.length b' m' ∧ (∀ i, i ≠ 955 → I' i = I i) ∧ (∀ r, r ≠ 60 → r ≠ 65 → r ≠ 66 → A' r = A r) ∧ ∀ i, i < 129 → A' 60 i = A 62 i := by
  have hl := ok.2.1
  intro n
  induction n with
  | zero => intro p b m I A h1 h2 h3; omega
  | succ n ih =>
    intro p b m I A h6 p1 p2 h62 h60 hB
    rw [f_X7_spare_p46_e, m_c0, show A 62 (Int32.toNatClampNeg 0) = Int32.ofNat pl.length from h62.1]
    by_cases e : p = pl.length
    · rw [if_pos (by rw [e]; exact o_le (by omega) (by omega) (by omega))]
      refine ⟨b, m, I, A, ?_, by rw [← e]; exact hB, fun _ _ => rfl, fun _ _ _ _ => rfl, h60⟩
      by_cases z : w = 0
      · rw [if_pos z, if_pos z]
      · rw [if_neg z, if_neg z]
    · have hp : p < pl.length := by omega
      have hm : rpM (A 60) 0 pl := rpM_eq hl h62 (fun i hi => by simp only [Nat.zero_add]; exact h60 i hi)
      obtain ⟨vs, v1, v2, v3⟩ := hcn p h6 hp
      obtain ⟨s', g1, g2, g3⟩ := goes_s (I := I) (L := L) hm hp hl
      obtain ⟨I2, A2, b1, b2, b3, b4⟩ := m_lay (L := L) (okL_er ok hp h6) v1 (I := I) (A := va_up A 60 s') (by rw [us]; exact g3)
      have e955 : I2 955 = Int32.ofNat (cn p) := by rw [b2.2.1.1, v2]
      obtain ⟨row, r1, r2⟩ := rest_s I2 A2 L
      have a62 : A2 62 = A 62 := by rw [b4 62 (by omega) (by omega), un _ _ (by omega)]
      rw [if_neg (o_nle (by omega) (by omega) hp), g1, b1_some, b1, b1_some, e955]
      have p81 : ∀ s0 : Int32, f_X7_spare_p81 (f_X7_spare_p46 n) w m (Int32.ofNat p) s0 I2 A2 L = f_X7_spare_p46 n w s0 (if Int32.ofNat (cn p) ≤ m then m else Int32.ofNat (cn p)) (Int32.ofNat (p + 1)) I2 (va_up A2 60 row) L := fun s0 => by
        unfold f_X7_spare_p81 f_X7_spare_p98
        rw [e955, r1, b1_some, b1_some, i_1]
        by_cases z : Int32.ofNat (cn p) ≤ m
        · rw [if_pos z, if_pos z]
        · rw [if_neg z, if_neg z]
      rw [p81, p81]
      obtain ⟨s1, s2⟩ := SpS_s hB h6 (fun q q1 q2 => by obtain ⟨-, -, -, z⟩ := hcn q q1 (by omega); exact z)
      have go : ∀ b2' m2', SpS cn (p + 1) b2' m2' → ∃ b' m' I' A', f_X7_spare_p46 n w b2' m2' (Int32.ofNat (p + 1)) I2 (va_up A2 60 row) L = some (if w = 0 then b' else m', I', A', L) ∧ SpS cn pl.length b' m' ∧ (∀ i, i ≠ 955 → I' i = I i) ∧ (∀ r, r ≠ 60 → r ≠ 65 → r ≠ 66 → A' r = A r) ∧ ∀ i, i < 129 → A' 60 i = A 62 i := fun b2' m2' hB' => by
        obtain ⟨b', m', I', A', k1, k2, k3, k4, k5⟩ := ih (p + 1) b2' m2' I2 (va_up A2 60 row) (by omega) (by omega) (by omega) (by rw [un _ _ (by omega), a62]; exact h62) (fun i hi => by rw [us, un _ _ (by omega)]; exact r2 i hi) hB'
        refine ⟨b', m', I', A', k1, k2, fun i hi => by rw [k3 i hi, b3 i hi], fun r x1 x2 x3 => by rw [k4 r x1 x2 x3, un _ _ x1, b4 r x2 x3, un _ _ x1], fun i hi => ?_⟩
        rw [k5 i hi, un _ _ (by omega), a62]
      by_cases z : Int32.ofNat (cn p) ≤ m
      · rw [if_pos z, if_pos z]
        exact go b m (s1 z)
      · rw [if_neg z, if_neg z]
        exact go _ _ (s2 z)
theorem st_spare : gStep_spare Inv := by
  intro w I A L hI
  have bx : f_X6_spare_p9 I A L = some (-2, va_up I 13 (I 13 + 1), A, L) := by unfold f_X6_spare_p9; rw [rf_bad]; rfl
  by_cases hw : 0 ≤ w ∧ w ≤ 1
  · obtain ⟨pl, past, ⟨ok, hx, hm⟩, -⟩ := id hI
    have hl := ok.2.1
    have hl6 := ok.1
    by_cases h6 : pl.length = 6
    · refine ⟨-3, va_up I 14 (I 14 + 1), A, L, _, _, _, ?_, ?_, inv_no hI⟩
      · unfold f_X6_spare
        rw [if_neg (Int32.not_lt.mpr hw.1), if_pos hw.2, hx.1, h6, if_neg (by decide), rf_no]; rfl
      · unfold f_X7_spare
        rw [m_in, if_pos hw, bd_some, if_neg (by decide), m_c0, show A 60 (Int32.toNatClampNeg 0) = Int32.ofNat pl.length from hm.1, h6, if_pos (show Int32.ofNat 6 = 6 from rfl), rm_no]; rfl
    · obtain ⟨cn, b, m, I1, A1, hcn, hB, ex, hI1, e60⟩ := sp_x hI ok hx (by omega) hw
      obtain ⟨row, r1, r2⟩ := aside_s I1 A1 L
      have hm1 : rpM (A1 60) 0 pl := by rw [e60]; exact hm
      obtain ⟨b', m', I2, A2, k1, k2, k3, k4, k5⟩ := sp46_l (L := L) ok hcn (w := w) 4096 6 (-1) (-1) I1 (va_up A1 62 row) (by omega) (by omega) (by omega) (by rw [us]; exact rpM_eq hl hm1 (fun i hi => by simp only [Nat.zero_add]; exact r2 i hi)) (fun i hi => by rw [us, un _ _ (by omega)]; exact (r2 i hi).symm) (Or.inl ⟨rfl, rfl, rfl⟩)
      obtain ⟨eb, em⟩ := SpS_u hB k2 (fun _ _ _ => rfl)
      refine ⟨if w = 0 then b else m, I1, A1, L, I2, A2, L, ex, ?_, ?_⟩
      · unfold f_X7_spare
        rw [m_in, if_pos hw, bd_some, if_neg (by decide), m_c0, show A1 60 (Int32.toNatClampNeg 0) = Int32.ofNat pl.length from hm1.1, if_neg (show ¬ Int32.ofNat pl.length = 6 from fun q => h6 (by have := (b_eq (b_n (n := pl.length) (by omega)) (show bI 6 6 6 from b_n (n := 6) (by omega))).mp q; omega)), r1, b1_some]
        have k1' : f_X7_spare_p46 4096 w (-1) (-1) 6 I1 (va_up A1 62 row) L = _ := k1
        rw [k1', eb, em]
      · have hI2 := inv_60 (s' := A2 60) hI1 (fun i hi => by rw [k5 i hi, us]; exact r2 i hi)
        refine Inv_c hI2 (fun i hi => k3 i (by omega)) (fun r hr => ?_)
        by_cases z : r = 60
        · rw [z, us]
        · rw [un _ _ z, k4 r z (by omega) (by omega), un _ _ (by omega)]
  · refine ⟨-2, va_up I 13 (I 13 + 1), A, L, _, _, _, ?_, ?_, inv_bad hI⟩
    · unfold f_X6_spare
      by_cases h1 : w < 0
      · rw [if_pos h1, bx]
      · rw [if_neg h1, if_neg (fun q => hw ⟨i_nlt h1, q⟩), bx]
    · unfold f_X7_spare
      rw [m_in, if_neg hw, bd_some, if_pos rfl, rm_bad]; rfl
