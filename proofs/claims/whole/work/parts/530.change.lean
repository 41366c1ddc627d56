def sgn (h k l : Int32) : Prop := (-3 ≤ h ∧ h ≤ 3) ∧ (-3 ≤ k ∧ k ≤ 3) ∧ (-3 ≤ l ∧ l ≤ 3) ∧ ¬ (h = 0 ∧ k = 0 ∧ l = 0)
theorem x_num (I : Nat → Int32) (A : Nat → Nat → Int32) (L : Nat → Int64) (v : Int32) : f_X6_isSignNumber I A L v = some (if -3 ≤ v ∧ v ≤ 3 then 1 else 0) := m_in I A L v (-3) 3
theorem x_off (I : Nat → Int32) (A : Nat → Nat → Int32) (L : Nat → Int64) (v : Int32) : f_X6_isOff I A L v = some (if 1 ≤ v ∧ v ≤ 60 then 1 else 0) := m_in I A L v 1 60
theorem x_set (I : Nat → Int32) (A : Nat → Nat → Int32) (L : Nat → Int64) (v : Int32) : f_X6_isTurnSet I A L v = some (if 0 ≤ v ∧ v ≤ 63 then 1 else 0) := m_in I A L v 0 63
theorem nz3 {h k l : Int32} (hn : ¬ (h = 0 ∧ k = 0 ∧ l = 0)) : (if h = 0 then (if k = 0 then (if l = 0 then (some 0 : Option Int32) else (some 1)) else (some 1)) else (some 1)) = some 1 := by
  by_cases h1 : h = 0
  · rw [if_pos h1]
    by_cases h2 : k = 0
    · rw [if_pos h2, if_neg (fun q => hn ⟨h1, h2, q⟩)]
    · rw [if_neg h2]
  · rw [if_neg h1]
theorem x_sign1 {h k l : Int32} (I : Nat → Int32) (A : Nat → Nat → Int32) (L : Nat → Int64) (hs : sgn h k l) : f_X6_isSign I A L h k l = some 1 := by
  unfold f_X6_isSign
  rw [x_num, if_pos hs.1, bd_some, if_neg (by decide), x_num, if_pos hs.2.1, bd_some, if_neg (by decide), x_num, if_pos hs.2.2.1, bd_some, if_neg (by decide), nz3 hs.2.2.2]
theorem m_sign1 {h k l : Int32} (I : Nat → Int32) (A : Nat → Nat → Int32) (L : Nat → Int64) (hs : sgn h k l) : f_X7_isSign I A L h k l = some 1 := by
  unfold f_X7_isSign
  rw [m_in, if_pos hs.1, bd_some, if_neg (by decide), m_in, if_pos hs.2.1, bd_some, if_neg (by decide), m_in, if_pos hs.2.2.1, bd_some, if_neg (by decide), nz3 hs.2.2.2]
theorem x_sign0 {h k l : Int32} (I : Nat → Int32) (A : Nat → Nat → Int32) (L : Nat → Int64) (hs : ¬ sgn h k l) : f_X6_isSign I A L h k l = some 0 := by
  unfold f_X6_isSign
  rw [x_num]
  by_cases h1 : -3 ≤ h ∧ h ≤ 3
  · rw [if_pos h1, bd_some, if_neg (by decide), x_num]
    by_cases h2 : -3 ≤ k ∧ k ≤ 3
    · rw [if_pos h2, bd_some, if_neg (by decide), x_num]
      by_cases h3 : -3 ≤ l ∧ l ≤ 3
      · rw [if_pos h3, bd_some, if_neg (by decide)]
        by_cases h4 : h = 0 ∧ k = 0 ∧ l = 0
        · rw [if_pos h4.1, if_pos h4.2.1, if_pos h4.2.2]
        · exact absurd ⟨h1, h2, h3, h4⟩ hs
      · rw [if_neg h3, bd_some, if_pos rfl]
    · rw [if_neg h2, bd_some, if_pos rfl]
  · rw [if_neg h1, bd_some, if_pos rfl]
theorem m_sign0 {h k l : Int32} (I : Nat → Int32) (A : Nat → Nat → Int32) (L : Nat → Int64) (hs : ¬ sgn h k l) : f_X7_isSign I A L h k l = some 0 := by
  unfold f_X7_isSign
  rw [m_in]
  by_cases h1 : -3 ≤ h ∧ h ≤ 3
  · rw [if_pos h1, bd_some, if_neg (by decide), m_in]
    by_cases h2 : -3 ≤ k ∧ k ≤ 3
    · rw [if_pos h2, bd_some, if_neg (by decide), m_in]
      by_cases h3 : -3 ≤ l ∧ l ≤ 3
      · rw [if_pos h3, bd_some, if_neg (by decide)]
        by_cases h4 : h = 0 ∧ k = 0 ∧ l = 0
        · rw [if_pos h4.1, if_pos h4.2.1, if_pos h4.2.2]
        · exact absurd ⟨h1, h2, h3, h4⟩ hs
      · rw [if_neg h3, bd_some, if_pos rfl]
    · rw [if_neg h2, bd_some, if_pos rfl]
  · rw [if_neg h1, bd_some, if_pos rfl]
theorem okP_of {h k l o : Int32} (hs : sgn h k l) (ho : 1 ≤ o ∧ o ≤ 60) : okP (h, k, l, o) := by
  obtain ⟨⟨a1, a2⟩, ⟨b1, b2⟩, ⟨c1, c2⟩, n⟩ := hs
  obtain ⟨o1, o2⟩ := ho
  rw [i_le] at a1 a2 b1 b2 c1 c2 o1 o2
  exact ⟨⟨a1, a2⟩, ⟨b1, b2⟩, ⟨c1, c2⟩, n, o1, o2⟩
/-! the state of the states, in two halves -/
theorem vSt_split {n c : Int32} {rg : Nat → List Pl → Prop} {k : Int32} {f : Nat → Int32} {past : List (List Pl)} (h : vSt n c rg k f past) : vStX n c rg past ∧ vStM k f past ∧ ∀ pl ∈ past, okL pl := by
  obtain ⟨h1, h2, h3, h4, h5, w, h6, h7, h8⟩ := h
  have hl : ∀ i, i < past.length → (past.getD i []).length ≤ 32 := fun i hi => by
    rw [List.getD_eq_getElem?_getD, List.getElem?_eq_getElem hi]
    exact (h4 _ (List.getElem_mem hi)).2.1
  exact ⟨⟨h1, h3, w, h6, h7, fun i hi => ⟨h8 i hi, hl i hi⟩⟩, ⟨h1, h2, fun i hi => ⟨h5 i hi, hl i hi⟩⟩, h4⟩
theorem vSt_join {n c : Int32} {rg : Nat → List Pl → Prop} {k : Int32} {f : Nat → Int32} {past : List (List Pl)} (hx : vStX n c rg past) (hm : vStM k f past) (ho : ∀ pl ∈ past, okL pl) : vSt n c rg k f past := by
  obtain ⟨h1, h3, w, h6, h7, h8⟩ := hx
  exact ⟨h1, hm.2.1, h3, ho, fun i hi => (hm.2.2 i hi).1, w, h6, h7, fun i hi => (h8 i hi).1⟩
theorem psh_ok {past : List (List Pl)} {pl : List Pl} (h : ∀ q ∈ past, okL q) (hp : okL pl) : ∀ q ∈ psh past pl, okL q := by
  intro q hq
  unfold psh at hq
  rcases List.mem_append.mp hq with hq | hq
  · split at hq
    next => exact h q (List.mem_of_mem_tail hq)
    next => exact h q hq
  · rw [List.mem_singleton] at hq
    rw [hq]; exact hp
theorem rgX_up {I : Nat → Int32} {A : Nat → Nat → Int32} {I' : Nat → Int32} {A' : Nat → Nat → Int32} (hI : ∀ i, 212 ≤ i → i ≤ 532 → I' i = I i) (hA : ∀ r, 14 ≤ r → r ≤ 37 → A' r = A r) : rgX I' A' = rgX I A := by
  funext j pl
  unfold rgX
  rw [hI 212 (by omega) (by omega), hI 292 (by omega) (by omega), hI 372 (by omega) (by omega), hI 452 (by omega) (by omega), hI 532 (by omega) (by omega), hA 14 (by omega) (by omega), hA 15 (by omega) (by omega), hA 16 (by omega) (by omega), hA 17 (by omega) (by omega), hA 19 (by omega) (by omega), hA 20 (by omega) (by omega), hA 21 (by omega) (by omega), hA 22 (by omega) (by omega), hA 24 (by omega) (by omega), hA 25 (by omega) (by omega), hA 26 (by omega) (by omega), hA 27 (by omega) (by omega), hA 29 (by omega) (by omega), hA 30 (by omega) (by omega), hA 31 (by omega) (by omega), hA 32 (by omega) (by omega), hA 34 (by omega) (by omega), hA 35 (by omega) (by omega), hA 36 (by omega) (by omega), hA 37 (by omega) (by omega)]
/-- both have left a state and changed their planes: the invariant holds anew -/
theorem inv_change {I : Nat → Int32} {A : Nat → Nat → Int32} {L : Nat → Int64} {pl pl' : List Pl} {past : List (List Pl)}
    (hTx : vTx (I 913) (A 58) (I 950) (A 64)) (hCn : vCn (I 13) (I 14) (I 15) (A 63)) (hFr : vFr (I 11) (I 12) (L 952) (L 953)) (hok : ∀ q ∈ psh past pl, okL q)
    {I2 : Nat → Int32} {A2 : Nat → Nat → Int32} (hx : vStX (I2 177) (I2 178) (rgX I2 A2) (psh past pl)) (h7 : I2 7 = 0) (h8 : I2 8 = 0) (eI : ∀ i, i ≠ 20 → i ≠ 177 → i ≠ 178 → i ≠ 7 → i ≠ 8 → (i < 212 ∨ 532 < i) → I2 i = I i) (eA : ∀ r, (r ≤ 1 ∨ (6 ≤ r ∧ r ≤ 13) ∨ 37 < r) → A2 r = A r)
    {k : Int32} {r61 r62 s' : Nat → Int32} (hm : vStM k r61 (psh past pl)) (hP : vPl (I2 20) (A2 2) (A2 3) (A2 4) (A2 5) s' pl') : Inv (va_up I2 946 k) (va_up (va_up (va_up A2 62 r62) 61 r61) 60 s') L := by
  refine ⟨pl', psh past pl, ?_, ?_, ?_, ?_, ?_, ?_, ?_⟩
  · simp only [va_up, Nat.reduceEqDiff, reduceIte]
    exact hP
  · have e : rgX (va_up I2 946 k) (va_up (va_up (va_up A2 62 r62) 61 r61) 60 s') = rgX I2 A2 := rgX_up (fun i a b => un _ _ (by omega)) (fun r a b => by rw [un _ _ (by omega), un _ _ (by omega), un _ _ (by omega)])
    rw [e]
    simp only [va_up, Nat.reduceEqDiff, reduceIte]
    exact vSt_join hx hm hok
  · simp only [va_up, Nat.reduceEqDiff, reduceIte]
    rw [eI 913 (by omega) (by omega) (by omega) (by omega) (by omega) (by omega), eI 950 (by omega) (by omega) (by omega) (by omega) (by omega) (by omega), eA 58 (by omega), eA 64 (by omega)]
    exact hTx
  · simp only [va_up, Nat.reduceEqDiff, reduceIte]
    rw [eI 13 (by omega) (by omega) (by omega) (by omega) (by omega) (by omega), eI 14 (by omega) (by omega) (by omega) (by omega) (by omega) (by omega), eI 15 (by omega) (by omega) (by omega) (by omega) (by omega) (by omega), eA 63 (by omega)]
    exact hCn
  · simp only [va_up, Nat.reduceEqDiff, reduceIte]
    rw [eI 11 (by omega) (by omega) (by omega) (by omega) (by omega) (by omega), eI 12 (by omega) (by omega) (by omega) (by omega) (by omega) (by omega)]
    exact hFr
  · left
    simp only [va_up, Nat.reduceEqDiff, reduceIte]
    exact h7
  · left
    simp only [va_up, Nat.reduceEqDiff, reduceIte]
    exact h8
/-- the reference's part of a change: aside, keeps -/
theorem m_leave {I : Nat → Int32} {A : Nat → Nat → Int32} {L : Nat → Int64} {pl : List Pl} {past : List (List Pl)} (hm : vStM (I 946) (A 61) past) (hp : rpM (A 60) 0 pl) (hl : pl.length ≤ 32) {τ : Type} (g : (Nat → Int32) → (Nat → Nat → Int32) → (Nat → Int64) → Option τ) : ∃ k r61 r62, vStM k r61 (psh past pl) ∧ g_b1 (f_X7_aside I A L) (fun I6 A7 L8 => g_b1 (f_X7_keeps I6 A7 L8) g) = g (va_up I 946 k) (va_up (va_up A 62 r62) 61 r61) L := by
  obtain ⟨r62, e1, g1⟩ := aside_s I A L
  have hp2 : rpM (va_up A 62 r62 62) 0 pl := rpM_eq hl hp (fun i hi => by rw [us]; simp only [Nat.zero_add]; exact g1 i hi)
  obtain ⟨k, r61, e2, g2⟩ := keeps_s (I := I) (A := va_up A 62 r62) (L := L) (past := past) (pl := pl) (by rw [un _ _ (by omega)]; exact hm) hp2 hl
  exact ⟨k, r61, r62, g2, by rw [e1, b1_some, e2, b1_some]⟩
