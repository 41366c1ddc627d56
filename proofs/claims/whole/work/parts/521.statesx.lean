theorem b1_some {τ : Type} (I : Nat → Int32) (A : Nat → Nat → Int32) (L : Nat → Int64) (g : (Nat → Int32) → (Nat → Nat → Int32) → (Nat → Int64) → Option τ) : g_b1 (some (I, A, L)) g = g I A L := rfl
theorem b2_some {α τ : Type} (x : α) (I : Nat → Int32) (A : Nat → Nat → Int32) (L : Nat → Int64) (g : α → (Nat → Int32) → (Nat → Nat → Int32) → (Nat → Int64) → Option τ) : g_b2 (some (x, I, A, L)) g = g x I A L := rfl
theorem cp_ok {τ : Type} {n : Nat} {F : Option τ} (h : n ≤ 32) : g_cp 0 0 (Int32.ofNat n) 32 32 F = F := by
  unfold g_cp
  rw [if_pos]
  refine ⟨⟨by decide, by decide, ?_⟩, ?_, ?_⟩
  · rw [i_le, i_nat (by omega)]; exact Int.natCast_nonneg n
  · rw [i_tnn (by omega)]; show 0 + n ≤ 32; omega
  · rw [i_tnn (by omega)]; show 0 + n ≤ 32; omega
theorem cpy0 {f g : Nat → Int32} {n j : Nat} (h : j < n) : va_cpy f g (Int32.toNatClampNeg 0) (Int32.toNatClampNeg 0) n j = f j := by
  show va_cpy f g 0 0 n j = f j
  rw [pk_cpy_in (by omega) (by omega)]
  congr 1; omega
theorem copy_s {b q : Nat} {I : Nat → Int32} {A : Nat → Nat → Int32} {L : Nat → Int64} {pl : List Pl} (hbq : b + 4 < q + 1 ∨ q + 4 < b + 1) (h : rpX (I (16 * q + 4)) (A (q + 1)) (A (q + 2)) (A (q + 3)) (A (q + 4)) pl) (hl : pl.length ≤ 32) : ∃ A', f_X2_copyFrom b q I A L = some (va_up I (16 * b + 4) (I (16 * q + 4)), A', L) ∧ rpX (I (16 * q + 4)) (A' (b + 1)) (A' (b + 2)) (A' (b + 3)) (A' (b + 4)) pl ∧ ∀ r, (r ≤ b ∨ b + 4 < r) → A' r = A r := by
  obtain ⟨h1, h2⟩ := h
  unfold f_X2_copyFrom
  rw [g_lt_eq, us, h1, cp_ok hl, g_lt_eq, cp_ok hl, g_lt_eq, cp_ok hl, g_lt_eq, cp_ok hl, g_lt_eq]
  refine ⟨_, rfl, ⟨rfl, fun j hj => ?_⟩, fun r hr => ?_⟩
  · rw [h2 j hj]
    simp only [us, un _ _ (show b + 1 ≠ b + 4 by omega), un _ _ (show b + 1 ≠ b + 3 by omega), un _ _ (show b + 1 ≠ b + 2 by omega), un _ _ (show b + 2 ≠ b + 4 by omega), un _ _ (show b + 2 ≠ b + 3 by omega), un _ _ (show b + 3 ≠ b + 4 by omega), i_tnn (show pl.length < 2147483648 by omega), cpy0 hj]
    simp only [un _ _ (show q + 2 ≠ b + 1 by omega), un _ _ (show q + 3 ≠ b + 1 by omega), un _ _ (show q + 3 ≠ b + 2 by omega), un _ _ (show q + 4 ≠ b + 1 by omega), un _ _ (show q + 4 ≠ b + 2 by omega), un _ _ (show q + 4 ≠ b + 3 by omega)]
  · rw [un _ _ (by omega), un _ _ (by omega), un _ _ (by omega), un _ _ (by omega)]
theorem rgX_j {I : Nat → Int32} {A : Nat → Nat → Int32} {j : Nat} (hj : j < 5) {pl : List Pl} : rgX I A j pl ↔ rpX (I (16 * (13 + 5 * j) + 4)) (A (13 + 5 * j + 1)) (A (13 + 5 * j + 2)) (A (13 + 5 * j + 3)) (A (13 + 5 * j + 4)) pl := by
  rcases (show j = 0 ∨ j = 1 ∨ j = 2 ∨ j = 3 ∨ j = 4 by omega) with rfl | rfl | rfl | rfl | rfl <;> exact Iff.rfl
def vStX (newest count : Int32) (rg : Nat → List Pl → Prop) (past : List (List Pl)) : Prop := past.length ≤ 5 ∧ count = Int32.ofNat past.length ∧ ∃ w, w < 5 ∧ newest = Int32.ofNat w ∧ ∀ i, i < past.length → rg ((w + 5 + i + 1 - past.length) % 5) (past.getD i []) ∧ (past.getD i []).length ≤ 32
theorem psh_len {past : List (List Pl)} {pl : List Pl} (h : past.length ≤ 5) : (psh past pl).length = min 5 (past.length + 1) := by
  unfold psh
  by_cases h5 : past.length = 5
  · rw [if_pos h5, List.length_append, List.length_tail, h5]; rfl
  · rw [if_neg h5, List.length_append]
    show past.length + 1 = _
    omega
theorem psh_last {past : List (List Pl)} {pl : List Pl} (h : past.length ≤ 5) : (psh past pl).getD ((psh past pl).length - 1) [] = pl := by
  unfold psh
  rw [List.length_append, List.getD_eq_getElem?_getD]
  generalize (if past.length = 5 then past.tail else past) = p
  rw [List.getElem?_append_right (by simp)]
  simp
theorem psh_get {past : List (List Pl)} {pl : List Pl} {i : Nat} (h : past.length ≤ 5) (hi : i + 1 < (psh past pl).length) : (psh past pl).getD i [] = past.getD (past.length + 1 - (psh past pl).length + i) [] ∧ past.length + 1 - (psh past pl).length + i < past.length := by
  have hl := psh_len (pl := pl) h
  rw [hl] at hi ⊢
  unfold psh
  by_cases h5 : past.length = 5
  · rw [if_pos h5, List.getD_eq_getElem?_getD, List.getElem?_append_left (by rw [List.length_tail]; omega), List.getElem?_tail, List.getD_eq_getElem?_getD]
    refine ⟨?_, by omega⟩
    rw [show past.length + 1 - min 5 (past.length + 1) + i = i + 1 by omega]
  · rw [if_neg h5, List.getD_eq_getElem?_getD, List.getElem?_append_left (by omega), List.getD_eq_getElem?_getD]
    refine ⟨?_, by omega⟩
    rw [show past.length + 1 - min 5 (past.length + 1) + i = i by omega]
theorem nx5 {w : Nat} (h : w < 5) : (Int32.ofNat w + 1) - (Int32.ofNat w + 1) / 5 * 5 = Int32.ofNat ((w + 1) % 5) := by
  rcases (show w = 0 ∨ w = 1 ∨ w = 2 ∨ w = 3 ∨ w = 4 by omega) with rfl | rfl | rfl | rfl | rfl <;> decide
theorem mn5 {k : Nat} (h : k ≤ 5) : (if Int32.ofNat k + 1 < 5 then Int32.ofNat k + 1 else 5) = Int32.ofNat (min 5 (k + 1)) := by
  rcases (show k = 0 ∨ k = 1 ∨ k = 2 ∨ k = 3 ∨ k = 4 ∨ k = 5 by omega) with rfl | rfl | rfl | rfl | rfl | rfl <;> decide
/-- what leaveState does: the planes are one more state, the crystal is forgotten -/
theorem leave_s {I : Nat → Int32} {A : Nat → Nat → Int32} {L : Nat → Int64} {past : List (List Pl)} {pl : List Pl} (h : vStX (I 177) (I 178) (rgX I A) past) (hp : rpX (I 20) (A 2) (A 3) (A 4) (A 5) pl) (hl : pl.length ≤ 32) : ∃ I' A', f_X6_leaveState I A L = some (I', A', L) ∧ vStX (I' 177) (I' 178) (rgX I' A') (psh past pl) ∧ I' 7 = 0 ∧ I' 8 = 0 ∧ (∀ i, i ≠ 177 → i ≠ 178 → i ≠ 7 → i ≠ 8 → (i < 212 ∨ 532 < i) → I' i = I i) ∧ ∀ r, (r ≤ 13 ∨ 37 < r) → A' r = A r := by
  obtain ⟨h1, h2, w, hw, hn, h3⟩ := h
  have hw' : (w + 1) % 5 < 5 := Nat.mod_lt _ (by omega)
  generalize hz : (w + 1) % 5 = z at hw'
  have e1 : va_up I 177 (((I 177) + 1) - ((I 177) + 1) / 5 * 5) = va_up I 177 (Int32.ofNat z) := by rw [hn, nx5 hw, hz]
  obtain ⟨A', e2, g1, g2⟩ := copy_s (b := 13 + 5 * z) (q := 1) (I := va_up I 177 (Int32.ofNat z)) (A := A) (L := L) (by omega) hp hl
  have e3 : (va_up (va_up I 177 (Int32.ofNat z)) (16 * (13 + 5 * z) + 4) (va_up I 177 (Int32.ofNat z) (16 * 1 + 4))) 178 = Int32.ofNat past.length := by
    rw [un _ _ (by omega), un _ _ (by omega), h2]
  refine ⟨va_up (va_up (va_up (va_up (va_up I 177 (Int32.ofNat z)) (16 * (13 + 5 * z) + 4) (I 20)) 178 (Int32.ofNat (min 5 (past.length + 1)))) 7 0) 8 0, A', ?_, ?_, ?_, ?_, ?_, ?_⟩
  · unfold f_X6_leaveState f_X5_keep
    rw [g_lt_eq, e1, us, o_ck hw' (by omega), i_tnn (by omega), e2]
    rw [b1_some, e3, mn5 h1, g_lt_eq, b1_some]
    rfl
  · have hlen := psh_len (pl := pl) h1
    refine ⟨by omega, ?_, z, hw', ?_, fun i hi => ?_⟩
    · rw [un _ _ (by omega), un _ _ (by omega), us, hlen]
    · rw [un _ _ (by omega), un _ _ (by omega), un _ _ (by omega), un _ _ (by omega), us]
    · by_cases hlast : i = (psh past pl).length - 1
      · have hx : (psh past pl).getD i [] = pl := by rw [hlast]; exact psh_last h1
        rw [hx]
        refine ⟨?_, hl⟩
        rw [show (z + 5 + i + 1 - (psh past pl).length) % 5 = z by omega, rgX_j hw', un _ _ (by omega), un _ _ (by omega), un _ _ (by omega), us]
        exact g1
      · obtain ⟨k1, k2⟩ := psh_get (pl := pl) (i := i) h1 (by omega)
        rw [k1]
        obtain ⟨q1, q2⟩ := h3 _ k2
        refine ⟨?_, q2⟩
        have hj : (z + 5 + i + 1 - (psh past pl).length) % 5 = (w + 5 + (past.length + 1 - (psh past pl).length + i) + 1 - past.length) % 5 := by omega
        rw [hj]
        generalize hj2 : (w + 5 + (past.length + 1 - (psh past pl).length + i) + 1 - past.length) % 5 = j at q1
        have hj5 : j < 5 := by omega
        have hjz : j ≠ z := by omega
        rw [rgX_j hj5] at q1 ⊢
        rw [un _ _ (by omega), un _ _ (by omega), un _ _ (by omega), un _ _ (by omega), un _ _ (by omega), g2 _ (by omega), g2 _ (by omega), g2 _ (by omega), g2 _ (by omega)]
        exact q1
  · rw [un _ _ (by omega), us]
  · rw [us]
  · intro i a1 a2 a3 a4 a5
    rw [un _ _ a4, un _ _ a3, un _ _ a2, un _ _ (by omega), un _ _ a1]
  · intro r hr
    exact g2 r (by omega)
