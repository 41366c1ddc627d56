theorem inv_change2 {I : Nat → Int32} {A : Nat → Nat → Int32} {L : Nat → Int64} {pl pl' : List Pl} {past : List (List Pl)}
    (hTx : vTx (I 913) (A 58) (I 950) (A 64)) (hCn : vCn (I 13) (I 14) (I 15) (A 63)) (hFr : vFr (I 11) (I 12) (L 952) (L 953)) (hok : ∀ q ∈ psh past pl, okL q)
    {I2 : Nat → Int32} {A2 : Nat → Nat → Int32} (hx : vStX (I2 177) (I2 178) (rgX I2 A2) (psh past pl)) (h7 : I2 7 = 0) (h8 : I2 8 = 0) (eI : ∀ i, (11 ≤ i ∧ i ≤ 15) ∨ i = 913 ∨ i = 950 → I2 i = I i) (eA : ∀ r, (r = 58 ∨ r = 63 ∨ r = 64) → A2 r = A r)
    {k : Int32} {r61 r62 s' : Nat → Int32} (hm : vStM k r61 (psh past pl)) (hP : vPl (I2 20) (A2 2) (A2 3) (A2 4) (A2 5) s' pl') : Inv (va_up I2 946 k) (va_up (va_up (va_up A2 62 r62) 61 r61) 60 s') L := by
  refine ⟨pl', psh past pl, ?_, ?_, ?_, ?_, ?_, ?_, ?_⟩
  · simp only [va_up, Nat.reduceEqDiff, reduceIte]
    exact hP
  · have e : rgX (va_up I2 946 k) (va_up (va_up (va_up A2 62 r62) 61 r61) 60 s') = rgX I2 A2 := rgX_up (fun i a b => un _ _ (by omega)) (fun r a b => by rw [un _ _ (by omega), un _ _ (by omega), un _ _ (by omega)])
    rw [e]
    simp only [va_up, Nat.reduceEqDiff, reduceIte]
    exact vSt_join hx hm hok
  · simp only [va_up, Nat.reduceEqDiff, reduceIte]
    rw [eI 913 (by omega), eI 950 (by omega), eA 58 (by omega), eA 64 (by omega)]
    exact hTx
  · simp only [va_up, Nat.reduceEqDiff, reduceIte]
    rw [eI 13 (by omega), eI 14 (by omega), eI 15 (by omega), eA 63 (by omega)]
    exact hCn
  · simp only [va_up, Nat.reduceEqDiff, reduceIte]
    rw [eI 11 (by omega), eI 12 (by omega)]
    exact hFr
  · left
    simp only [va_up, Nat.reduceEqDiff, reduceIte]
    exact h7
  · left
    simp only [va_up, Nat.reduceEqDiff, reduceIte]
    exact h8
/-- as change, with room for what the invariant doesn't speak of -/
theorem change2 {I : Nat → Int32} {A : Nat → Nat → Int32} {L : Nat → Int64} (hI : Inv I A L) : ∃ (pl : List Pl) (I1 : Nat → Int32) (A1 : Nat → Nat → Int32), okL pl ∧ rpX (I 20) (A 2) (A 3) (A 4) (A 5) pl ∧ rpM (A 60) 0 pl ∧ f_X6_leaveState I A L = some (I1, A1, L) ∧ rpX (I1 20) (A1 2) (A1 3) (A1 4) (A1 5) pl ∧ A1 60 = A 60 ∧ (∀ r, (r ≤ 13 ∨ 37 < r) → A1 r = A r) ∧ (∀ i, i ≠ 177 → i ≠ 178 → i ≠ 7 → i ≠ 8 → (i < 212 ∨ 532 < i) → I1 i = I i) ∧
    ∀ (I2 : Nat → Int32) (A2 : Nat → Nat → Int32) (pl' : List Pl), okL pl' → (∀ i, (i ≤ 19 ∨ (177 ≤ i ∧ i ≤ 178) ∨ (212 ≤ i ∧ i ≤ 532) ∨ i = 913 ∨ i = 946 ∨ i = 950) → I2 i = I1 i) → (∀ r, ((14 ≤ r ∧ r ≤ 37) ∨ r = 58 ∨ r = 60 ∨ r = 61 ∨ r = 63 ∨ r = 64) → A2 r = A1 r) → rpX (I2 20) (A2 2) (A2 3) (A2 4) (A2 5) pl' → ∀ {τ : Type} (g : (Nat → Int32) → (Nat → Nat → Int32) → (Nat → Int64) → Option τ), ∃ (I3 : Nat → Int32) (A3 : Nat → Nat → Int32), g_b1 (f_X7_aside I2 A2 L) (fun I6 A7 L8 => g_b1 (f_X7_keeps I6 A7 L8) g) = g I3 A3 L ∧ A3 60 = A 60 ∧ (∀ r, r ≠ 61 → r ≠ 62 → A3 r = A2 r) ∧ (∀ i, i ≠ 946 → I3 i = I2 i) ∧ (∀ s', rpM s' 0 pl' → Inv I3 (va_up A3 60 s') L) := by
  obtain ⟨pl, past, ⟨ok, hx, hm⟩, hst, h3, h4, h5, h6, h7⟩ := hI
  obtain ⟨sx, sm, so⟩ := vSt_split hst
  obtain ⟨I1, A1, e1, x1, x7, x8, xI, xA⟩ := leave_s (L := L) sx hx ok.2.1
  have e20 : I1 20 = I 20 := xI 20 (by omega) (by omega) (by omega) (by omega) (by omega)
  refine ⟨pl, I1, A1, ok, hx, hm, e1, ?_, xA 60 (by omega), xA, xI, fun I2 A2 pl' ok' eI eA hx' τ g => ?_⟩
  · rw [e20, xA 2 (by omega), xA 3 (by omega), xA 4 (by omega), xA 5 (by omega)]
    exact hx
  · have m60 : A2 60 = A 60 := by rw [eA 60 (by omega), xA 60 (by omega)]
    have m61 : A2 61 = A 61 := by rw [eA 61 (by omega), xA 61 (by omega)]
    obtain ⟨kk, r61, r62, hm1, e3⟩ := m_leave (I := I2) (A := A2) (L := L) (pl := pl) (past := past) (by rw [eI 946 (by omega), xI 946 (by omega) (by omega) (by omega) (by omega) (by omega), m61]; exact sm) (by rw [m60]; exact hm) ok.2.1 g
    refine ⟨_, _, e3, by rw [un _ _ (by omega), un _ _ (by omega), m60], fun r a b => by rw [un _ _ a, un _ _ b], fun i a => un _ _ a, fun s' hs' => ?_⟩
    refine inv_change2 (I := I) (A := A) (pl := pl) (past := past) h3 h4 h5 (psh_ok so ok) ?_ ?_ ?_ ?_ ?_ hm1 ⟨ok', hx', hs'⟩
    · rw [eI 177 (by omega), eI 178 (by omega), rgX_up (I := I1) (A := A1) (fun i a b => eI i (by omega)) (fun r a b => eA r (by omega))]
      exact x1
    · rw [eI 7 (by omega)]; exact x7
    · rw [eI 8 (by omega)]; exact x8
    · intro i hi
      rw [eI i (by omega), xI i (by omega) (by omega) (by omega) (by omega) (by omega)]
    · intro r hr
      rw [eA r (by omega), xA r (by omega)]
