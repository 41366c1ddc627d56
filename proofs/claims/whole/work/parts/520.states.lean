theorem g_lt_eq {α τ : Type} (x : α) (f : α → Option τ) : g_lt x f = f x := rfl
theorem uu {α : Type} (f : Nat → α) (k : Nat) (v w : α) : va_up (va_up f k v) k w = va_up f k w := bx_uu f k v w
theorem uself {α : Type} (f : Nat → α) (k : Nat) : va_up f k (f k) = f := by
  funext j
  unfold va_up
  split
  next q => rw [q]
  next => rfl
theorem us {α : Type} (f : Nat → α) (k : Nat) (v : α) : va_up f k v k = v := if_pos rfl
theorem un {α : Type} (f : Nat → α) {k j : Nat} (v : α) (h : j ≠ k) : va_up f k v j = f j := if_neg h
theorem ds (f : Nat → Int32) (k : Nat) (v : Int32) : upd f k v k = v := if_pos rfl
theorem dn (f : Nat → Int32) {k j : Nat} (v : Int32) (h : j ≠ k) : upd f k v j = f j := if_neg h
theorem o_lin (c k j : Nat) : Int32.ofNat c * Int32.ofNat k + Int32.ofNat j = Int32.ofNat (c * k + j) := by rw [← Int32.ofNat_mul, ← Int32.ofNat_add]
theorem o_ck {τ : Type} {j n : Nat} {F : Option τ} (hj : j < n) (hn : n < 2147483648) : g_ck (Int32.ofNat j) n F = F := by
  unfold g_ck
  rw [if_pos]
  refine ⟨?_, by rw [i_tnn (by omega)]; exact hj⟩
  rw [i_le, i_nat (by omega)]
  exact Int.natCast_nonneg j
theorem o_nle {a b : Nat} (ha : a < 2147483648) (hb : b < 2147483648) (h : b < a) : ¬ Int32.ofNat a ≤ Int32.ofNat b := by
  rw [i_le, i_nat ha, i_nat hb]; omega
theorem o_le {a b : Nat} (ha : a < 2147483648) (hb : b < 2147483648) (h : a ≤ b) : Int32.ofNat a ≤ Int32.ofNat b := by
  rw [i_le, i_nat ha, i_nat hb]; omega
/-! aside, restores, keeps, back: a row laid over another -/
theorem aside_l : ∀ (n j : Nat) (I : Nat → Int32) (A : Nat → Nat → Int32) (L : Nat → Int64), j ≤ 129 → 129 - j < n → ∃ row, f_X7_aside_p2 n (Int32.ofNat j) I A L = some (I, va_up A 62 row, L) ∧ (∀ i, i < j → row i = A 62 i) ∧ ∀ i, j ≤ i → i < 129 → row i = A 60 i := by
  intro n
  induction n with
  | zero => intro j I A L h1 h2; omega
  | succ n ih =>
    intro j I A L h1 h2
    rw [f_X7_aside_p2_e]
    by_cases hj : j = 129
    · subst hj
      refine ⟨A 62, ?_, fun _ _ => rfl, fun i h3 h4 => by omega⟩
      rw [if_pos (by decide), uself]
    · obtain ⟨row, e, g1, g2⟩ := ih (j + 1) I (va_up A 62 (upd (A 62) j (A 60 j))) L (by omega) (by omega)
      refine ⟨row, ?_, fun i hi => ?_, fun i h3 h4 => ?_⟩
      · rw [if_neg (show ¬ (129 : Int32) ≤ Int32.ofNat j from o_nle (a := 129) (by omega) (by omega) (by omega)), o_ck (by omega) (by omega), o_ck (by omega) (by omega), i_tnn (by omega)]
        show f_X7_aside_p2 n (Int32.ofNat j + 1) I _ L = _
        rw [i_1, e, uu]
      · rw [g1 i (by omega), us, dn _ _ (by omega)]
      · by_cases e1 : i = j
        · subst e1
          rw [g1 i (by omega), us, ds]
        · rw [g2 i (by omega) h4, un _ _ (by omega)]
theorem aside_s (I : Nat → Int32) (A : Nat → Nat → Int32) (L : Nat → Int64) : ∃ row, f_X7_aside I A L = some (I, va_up A 62 row, L) ∧ ∀ i, i < 129 → row i = A 60 i := by
  obtain ⟨row, e, -, g⟩ := aside_l 4096 0 I A L (by omega) (by omega)
  exact ⟨row, e, fun i hi => g i (Nat.zero_le _) hi⟩
theorem rest_l : ∀ (n j : Nat) (I : Nat → Int32) (A : Nat → Nat → Int32) (L : Nat → Int64), j ≤ 129 → 129 - j < n → ∃ row, f_X7_restores_p2 n (Int32.ofNat j) I A L = some (I, va_up A 60 row, L) ∧ (∀ i, i < j → row i = A 60 i) ∧ ∀ i, j ≤ i → i < 129 → row i = A 62 i := by
  intro n
  induction n with
  | zero => intro j I A L h1 h2; omega
  | succ n ih =>
    intro j I A L h1 h2
    rw [f_X7_restores_p2_e]
    by_cases hj : j = 129
    · subst hj
      refine ⟨A 60, ?_, fun _ _ => rfl, fun i h3 h4 => by omega⟩
      rw [if_pos (by decide), uself]
    · obtain ⟨row, e, g1, g2⟩ := ih (j + 1) I (va_up A 60 (upd (A 60) j (A 62 j))) L (by omega) (by omega)
      refine ⟨row, ?_, fun i hi => ?_, fun i h3 h4 => ?_⟩
      · rw [if_neg (show ¬ (129 : Int32) ≤ Int32.ofNat j from o_nle (a := 129) (by omega) (by omega) (by omega)), o_ck (by omega) (by omega), o_ck (by omega) (by omega), i_tnn (by omega)]
        show f_X7_restores_p2 n (Int32.ofNat j + 1) I _ L = _
        rw [i_1, e, uu]
      · rw [g1 i (by omega), us, dn _ _ (by omega)]
      · by_cases e1 : i = j
        · subst e1
          rw [g1 i (by omega), us, ds]
        · rw [g2 i (by omega) h4, un _ _ (by omega)]
theorem rest_s (I : Nat → Int32) (A : Nat → Nat → Int32) (L : Nat → Int64) : ∃ row, f_X7_restores I A L = some (I, va_up A 60 row, L) ∧ ∀ i, i < 129 → row i = A 62 i := by
  obtain ⟨row, e, -, g⟩ := rest_l 4096 0 I A L (by omega) (by omega)
  exact ⟨row, e, fun i hi => g i (Nat.zero_le _) hi⟩
theorem keeps2_l (k : Nat) (hk : k < 5) : ∀ (n j : Nat) (I : Nat → Int32) (A : Nat → Nat → Int32) (L : Nat → Int64), I 946 = Int32.ofNat k → j ≤ 129 → 129 - j < n → ∃ row, f_X7_keeps_p51 n (Int32.ofNat j) I A L = some (va_up I 946 (Int32.ofNat (k + 1)), va_up A 61 row, L) ∧ (∀ i, i < 129 * k + j ∨ 129 * (k + 1) ≤ i → row i = A 61 i) ∧ ∀ i, j ≤ i → i < 129 → row (129 * k + i) = A 62 i := by
  intro n
  induction n with
  | zero => intro j I A L h0 h1 h2; omega
  | succ n ih =>
    intro j I A L h0 h1 h2
    rw [f_X7_keeps_p51_e]
    by_cases hj : j = 129
    · subst hj
      refine ⟨A 61, ?_, fun _ _ => rfl, fun i h3 h4 => by omega⟩
      rw [if_pos (by decide), h0, i_1, uself]
      rfl
    · obtain ⟨row, e, g1, g2⟩ := ih (j + 1) I (va_up A 61 (upd (A 61) (129 * k + j) (A 62 j))) L h0 (by omega) (by omega)
      have e9 : (129 * (I 946)) + Int32.ofNat j = Int32.ofNat (129 * k + j) := by rw [h0]; exact o_lin 129 k j
      refine ⟨row, ?_, fun i hi => ?_, fun i h3 h4 => ?_⟩
      · rw [if_neg (show ¬ (129 : Int32) ≤ Int32.ofNat j from o_nle (a := 129) (by omega) (by omega) (by omega)), o_ck (by omega) (by omega), e9, o_ck (by omega) (by omega), i_tnn (by omega), i_tnn (by omega)]
        show f_X7_keeps_p51 n (Int32.ofNat j + 1) I _ L = _
        rw [i_1, e, uu]
      · rw [g1 i (by omega), us, dn _ _ (by omega)]
      · by_cases e1 : i = j
        · subst e1
          rw [g1 (129 * k + i) (by omega), us, ds]
        · rw [g2 i (by omega) h4, un _ _ (by omega)]
theorem keeps1_l : ∀ (n j : Nat) (I : Nat → Int32) (A : Nat → Nat → Int32) (L : Nat → Int64), I 946 = 5 → j ≤ 516 → 516 - j < n → ∃ row, f_X7_keeps_p10 n (Int32.ofNat j) I A L = f_X7_keeps_p51 4096 0 (va_up I 946 4) (va_up A 61 row) L ∧ (∀ i, i < j → row i = A 61 i) ∧ ∀ i, j ≤ i → i < 516 → row i = A 61 (i + 129) := by
  intro n
  induction n with
  | zero => intro j I A L h0 h1 h2; omega
  | succ n ih =>
    intro j I A L h0 h1 h2
    rw [f_X7_keeps_p10_e]
    by_cases hj : j = 516
    · subst hj
      refine ⟨A 61, ?_, fun _ _ => rfl, fun i h3 h4 => by omega⟩
      rw [if_pos (by decide), h0, uself]
      rw [g_lt_eq, show (5 : Int32) - 1 = 4 from by decide]
    · obtain ⟨row, e, g1, g2⟩ := ih (j + 1) I (va_up A 61 (upd (A 61) j (A 61 (j + 129)))) L h0 (by omega) (by omega)
      have e9 : Int32.ofNat j + 129 = Int32.ofNat (j + 129) := by
        show Int32.ofNat j + Int32.ofNat 129 = _
        rw [← Int32.ofNat_add]
      refine ⟨row, ?_, fun i hi => ?_, fun i h3 h4 => ?_⟩
      · rw [if_neg (show ¬ (516 : Int32) ≤ Int32.ofNat j from o_nle (a := 516) (by omega) (by omega) (by omega)), e9, o_ck (by omega) (by omega), o_ck (by omega) (by omega), i_tnn (by omega), i_tnn (by omega)]
        show f_X7_keeps_p10 n (Int32.ofNat j + 1) I _ L = _
        rw [i_1, e, uu]
      · rw [g1 i (by omega), us, dn _ _ (by omega)]
      · by_cases e1 : i = j
        · subst e1
          rw [g1 i (by omega), us, ds]
        · rw [g2 i (by omega) h4, us, dn _ _ (by omega)]
/-- the reference's past: the oldest goes when there are five -/
def psh (past : List (List Pl)) (pl : List Pl) : List (List Pl) := (if past.length = 5 then past.tail else past) ++ [pl]
def vStM (known : Int32) (f : Nat → Int32) (past : List (List Pl)) : Prop := past.length ≤ 5 ∧ known = Int32.ofNat past.length ∧ ∀ i, i < past.length → rpM f (129 * i) (past.getD i []) ∧ (past.getD i []).length ≤ 32
theorem rpM_eq {f g : Nat → Int32} {o o' : Nat} {pl : List Pl} (hl : pl.length ≤ 32) (h : rpM f o pl) (e : ∀ i, i < 129 → g (o' + i) = f (o + i)) : rpM g o' pl := by
  refine ⟨by rw [show o' = o' + 0 from rfl, e 0 (by omega)]; exact h.1, fun j hj => ?_⟩
  rw [h.2 j hj, show o' + 1 + 4 * j = o' + (1 + 4 * j) by omega, show o' + 2 + 4 * j = o' + (2 + 4 * j) by omega, show o' + 3 + 4 * j = o' + (3 + 4 * j) by omega, show o' + 4 + 4 * j = o' + (4 + 4 * j) by omega, e _ (by omega), e _ (by omega), e _ (by omega), e _ (by omega), show o + 1 + 4 * j = o + (1 + 4 * j) by omega, show o + 2 + 4 * j = o + (2 + 4 * j) by omega, show o + 3 + 4 * j = o + (3 + 4 * j) by omega, show o + 4 + 4 * j = o + (4 + 4 * j) by omega]
theorem keeps_s {I : Nat → Int32} {A : Nat → Nat → Int32} {L : Nat → Int64} {past : List (List Pl)} {pl : List Pl} (h : vStM (I 946) (A 61) past) (hp : rpM (A 62) 0 pl) (hl : pl.length ≤ 32) : ∃ k row, f_X7_keeps I A L = some (va_up I 946 k, va_up A 61 row, L) ∧ vStM k row (psh past pl) := by
  obtain ⟨h1, h2, h3⟩ := h
  unfold f_X7_keeps psh
  by_cases h5 : past.length = 5
  · rw [if_pos (by rw [h2, h5]; rfl), if_pos h5]
    obtain ⟨r1, e1, g1, g2⟩ := keeps1_l 4096 0 I A L (by rw [h2, h5]; rfl) (by omega) (by omega)
    have e1 : f_X7_keeps_p10 4096 0 I A L = _ := e1
    obtain ⟨r2, e2, k1, k2⟩ := keeps2_l 4 (by omega) 4096 0 (va_up I 946 4) (va_up A 61 r1) L (us _ _ _) (by omega) (by omega)
    have e2 : f_X7_keeps_p51 4096 0 _ _ _ = _ := e2
    refine ⟨Int32.ofNat 5, r2, ?_, ?_⟩
    · rw [e1, e2, uu, uu]
    · have hlen : (past.tail ++ [pl]).length = 5 := by rw [List.length_append, List.length_tail, h5]; rfl
      refine ⟨by omega, by rw [hlen], fun i hi => ?_⟩
      rw [hlen] at hi
      by_cases hi4 : i = 4
      · subst hi4
        have e : (past.tail ++ [pl]).getD 4 [] = pl := by
          rw [List.getD_eq_getElem?_getD, List.getElem?_append_right (by rw [List.length_tail]; omega), List.length_tail, h5]; rfl
        rw [e]
        refine ⟨rpM_eq hl hp (fun i hi => ?_), hl⟩
        rw [k2 i (by omega) hi, un _ _ (by omega)]
        simp
      · have e : (past.tail ++ [pl]).getD i [] = past.getD (i + 1) [] := by
          rw [List.getD_eq_getElem?_getD, List.getElem?_append_left (by rw [List.length_tail]; omega), List.getElem?_tail, List.getD_eq_getElem?_getD]
        rw [e]
        obtain ⟨q1, q2⟩ := h3 (i + 1) (by omega)
        refine ⟨rpM_eq q2 q1 (fun j hj => ?_), q2⟩
        rw [k1 _ (by omega), us, g2 _ (by omega) (by omega)]
        exact congrArg (A 61) (by omega)
  · have hk : ¬ I 946 = 5 := by
      rw [h2, i_eq, i_nat (by omega)]
      show ¬ (past.length : Int) = 5
      omega
    rw [if_neg hk, if_neg h5]
    obtain ⟨r2, e2, k1, k2⟩ := keeps2_l past.length (by omega) 4096 0 I A L h2 (by omega) (by omega)
    have e2 : f_X7_keeps_p51 4096 0 _ _ _ = _ := e2
    refine ⟨_, r2, e2, ?_⟩
    have hlen : (past ++ [pl]).length = past.length + 1 := by rw [List.length_append]; rfl
    refine ⟨by omega, by rw [hlen], fun i hi => ?_⟩
    rw [hlen] at hi
    by_cases hi4 : i = past.length
    · subst hi4
      have e : (past ++ [pl]).getD past.length [] = pl := by
        rw [List.getD_eq_getElem?_getD, List.getElem?_append_right (by omega)]; simp
      rw [e]
      refine ⟨rpM_eq hl hp (fun i hi => ?_), hl⟩
      rw [k2 i (by omega) hi]
      simp
    · have e : (past ++ [pl]).getD i [] = past.getD i [] := by
        rw [List.getD_eq_getElem?_getD, List.getElem?_append_left (by omega), List.getD_eq_getElem?_getD]
      rw [e]
      obtain ⟨q1, q2⟩ := h3 i (by omega)
      refine ⟨rpM_eq q2 q1 (fun j hj => ?_), q2⟩
      rw [k1 _ (by omega)]
