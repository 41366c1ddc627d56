/-! THE INVARIANT. Planes as rows of four numbers; corners as (x, y, z) over d. -/
abbrev Pl : Type := Int32 × Int32 × Int32 × Int32
abbrev Q4 : Type := Int × Int × Int × Int
def p0 : Pl := (0, 0, 0, 0)
/-- h x + k y + l z - off d: at most 0 BEHIND, 0 ON -/
def sd (p : Pl) (v : Q4) : Int := p.1.toInt * v.1 + p.2.1.toInt * v.2.1 + p.2.2.1.toInt * v.2.2.1 - p.2.2.2.toInt * v.2.2.2
def dt3 (p q r : Pl) : Int := p.1.toInt * (q.2.1.toInt * r.2.2.1.toInt - q.2.2.1.toInt * r.2.1.toInt) - p.2.1.toInt * (q.1.toInt * r.2.2.1.toInt - q.2.2.1.toInt * r.1.toInt) + p.2.2.1.toInt * (q.1.toInt * r.2.1.toInt - q.2.1.toInt * r.1.toInt)
def rdc (v : Q4) : Prop := 0 < v.2.2.2 ∧ Nat.gcd (Nat.gcd v.1.natAbs v.2.1.natAbs) (Nat.gcd v.2.2.1.natAbs v.2.2.2.natAbs) = 1
/-- a CORNER, in lowest terms -/
def isC (pl : List Pl) (v : Q4) : Prop := rdc v ∧ (∀ p ∈ pl, sd p v ≤ 0) ∧ ∃ p ∈ pl, ∃ q ∈ pl, ∃ r ∈ pl, dt3 p q r ≠ 0 ∧ sd p v = 0 ∧ sd q v = 0 ∧ sd r v = 0
/-- v is ahead of w: by x, then y, then z -/
def ltQ (v w : Q4) : Prop := v.1 * w.2.2.2 < w.1 * v.2.2.2 ∨ (v.1 * w.2.2.2 = w.1 * v.2.2.2 ∧ (v.2.1 * w.2.2.2 < w.2.1 * v.2.2.2 ∨ (v.2.1 * w.2.2.2 = w.2.1 * v.2.2.2 ∧ v.2.2.1 * w.2.2.2 < w.2.2.1 * v.2.2.2)))
/-- all CORNERS, in order -/
def IsCrn (pl : List Pl) (vs : List Q4) : Prop := vs.Pairwise ltQ ∧ ∀ v, v ∈ vs ↔ isC pl v
def onB (pl : List Pl) (v : Q4) (n : Nat) : Int32 := (List.range n).foldl (fun acc p => if sd (pl.getD p p0) v = 0 then acc ||| (1 <<< (Int32.ofNat p &&& 31)) else acc) 0
def nOn (pl : List Pl) (vs : List Q4) (p : Nat) : Nat := (vs.filter (fun v => decide (sd (pl.getD p p0) v = 0))).length
def same (p q : Pl) : Prop := p.1.toInt * q.2.2.2.toInt = q.1.toInt * p.2.2.2.toInt ∧ p.2.1.toInt * q.2.2.2.toInt = q.2.1.toInt * p.2.2.2.toInt ∧ p.2.2.1.toInt * q.2.2.2.toInt = q.2.2.1.toInt * p.2.2.2.toInt
def shw (pl : List Pl) (vs : List Q4) (p : Nat) : Prop := 3 ≤ nOn pl vs p ∧ ∀ q, q < p → ¬ same (pl.getD q p0) (pl.getD p p0)
def okP (p : Pl) : Prop := (-3 ≤ p.1.toInt ∧ p.1.toInt ≤ 3) ∧ (-3 ≤ p.2.1.toInt ∧ p.2.1.toInt ≤ 3) ∧ (-3 ≤ p.2.2.1.toInt ∧ p.2.2.1.toInt ≤ 3) ∧ ¬ (p.1 = 0 ∧ p.2.1 = 0 ∧ p.2.2.1 = 0) ∧ 1 ≤ p.2.2.2.toInt ∧ p.2.2.2.toInt ≤ 60
def bxs : List (Int32 × Int32 × Int32) := [(1, 0, 0), (-1, 0, 0), (0, 1, 0), (0, -1, 0), (0, 0, 1), (0, 0, -1)]
def okL (pl : List Pl) : Prop := 6 ≤ pl.length ∧ pl.length ≤ 32 ∧ (∀ p ∈ pl, okP p) ∧ ∀ j, j < 6 → ((pl.getD j p0).1, (pl.getD j p0).2.1, (pl.getD j p0).2.2.1) = bxs.getD j (0, 0, 0)
/-- Planes of the class hold pl -/
def rpX (n : Int32) (h k l o : Nat → Int32) (pl : List Pl) : Prop := n = Int32.ofNat pl.length ∧ ∀ j, j < pl.length → pl.getD j p0 = (h j, k j, l j, o j)
/-- a row of the reference holds pl, from place o on -/
def rpM (f : Nat → Int32) (o : Nat) (pl : List Pl) : Prop := f o = Int32.ofNat pl.length ∧ ∀ j, j < pl.length → pl.getD j p0 = (f (o + 1 + 4 * j), f (o + 2 + 4 * j), f (o + 3 + 4 * j), f (o + 4 + 4 * j))
def vPl (n : Int32) (h k l o : Nat → Int32) (s : Nat → Int32) (pl : List Pl) : Prop := okL pl ∧ rpX n h k l o pl ∧ rpM s 0 pl
/-- slot j of the ring -/
def rgX (I : Nat → Int32) (A : Nat → Nat → Int32) (j : Nat) (pl : List Pl) : Prop :=
  if j = 0 then rpX (I 212) (A 14) (A 15) (A 16) (A 17) pl else if j = 1 then rpX (I 292) (A 19) (A 20) (A 21) (A 22) pl else if j = 2 then rpX (I 372) (A 24) (A 25) (A 26) (A 27) pl else if j = 3 then rpX (I 452) (A 29) (A 30) (A 31) (A 32) pl else rpX (I 532) (A 34) (A 35) (A 36) (A 37) pl
def vSt (newest count : Int32) (rg : Nat → List Pl → Prop) (known : Int32) (f : Nat → Int32) (past : List (List Pl)) : Prop :=
  past.length ≤ 5 ∧ known = Int32.ofNat past.length ∧ count = Int32.ofNat past.length ∧ (∀ pl ∈ past, okL pl) ∧ (∀ i, i < past.length → rpM f (129 * i) (past.getD i [])) ∧ ∃ w, w < 5 ∧ newest = Int32.ofNat w ∧ ∀ i, i < past.length → rg ((w + 5 + i + 1 - past.length) % 5) (past.getD i [])
def vTx (n : Int32) (b : Nat → Int32) (m : Int32) (t : Nat → Int32) : Prop := n = m ∧ ∃ k, k ≤ 120 ∧ n = Int32.ofNat k ∧ ∀ j, j < k → b j = t j ∧ 0 ≤ t j ∧ t j ≤ 127
def vCn (a b c : Int32) (r : Nat → Int32) : Prop := a = r 0 ∧ b = r 1 ∧ c = r 2
def vFr (a b : Int32) (c d : Int64) : Prop := a.toInt64 = c ∧ b.toInt64 = d
def vSo (n shown : Int32) (x y z d on co : Nat → Int32) (pl : List Pl) : Prop := ∃ vs : List Q4, IsCrn pl vs ∧ vs.length ≤ 60 ∧ n = Int32.ofNat vs.length ∧ (∀ j, j < vs.length → vs.getD j (0, 0, 0, 0) = ((x j).toInt, (y j).toInt, (z j).toInt, (d j).toInt) ∧ on j = onB pl (vs.getD j (0, 0, 0, 0)) pl.length) ∧ (∀ p, p < pl.length → co p = Int32.ofNat (nOn pl vs p)) ∧ ∀ p, p < 32 → ((shown.toUInt32 >>> ((Int32.ofNat p).toUInt32 &&& Int32.toUInt32 31)).toInt32 &&& 1 = 1 ↔ (p < pl.length ∧ shw pl vs p))
/-- of the planes behind the BOX the first without which most corners are left, and how many -/
def vSp (b m : Int32) (pl : List Pl) : Prop := ∃ cn : Nat → Nat, (∀ p, 6 ≤ p → p < pl.length → ∃ vs, IsCrn (pl.eraseIdx p) vs ∧ vs.length = cn p ∧ cn p ≤ 60) ∧ ∃ w, 6 ≤ w ∧ w < pl.length ∧ b = Int32.ofNat w ∧ m = Int32.ofNat (cn w) ∧ (∀ p, 6 ≤ p → p < w → cn p < cn w) ∧ ∀ p, 6 ≤ p → p < pl.length → cn p ≤ cn w
def Inv (I : Nat → Int32) (A : Nat → Nat → Int32) (L : Nat → Int64) : Prop := ∃ (pl : List Pl) (past : List (List Pl)),
  vPl (I 20) (A 2) (A 3) (A 4) (A 5) (A 60) pl ∧ vSt (I 177) (I 178) (rgX I A) (I 946) (A 61) past ∧ vTx (I 913) (A 58) (I 950) (A 64) ∧ vCn (I 13) (I 14) (I 15) (A 63) ∧ vFr (I 11) (I 12) (L 952) (L 953) ∧
  (I 7 = 0 ∨ (I 7 = 1 ∧ vSo (I 615) (I 616) (A 39) (A 40) (A 41) (A 42) (A 43) (A 44) pl)) ∧ (I 8 = 0 ∨ (I 8 = 1 ∧ vSp (I 9) (I 10) pl))
/-! numbers -/
theorem i_nat {n : Nat} (h : n < 2147483648) : (Int32.ofNat n).toInt = (n : Int) := Int32.toInt_ofNat_of_lt h
theorem i_tn (x : Int32) : x.toNatClampNeg = x.toInt.toNat := rfl
theorem i_tnn {n : Nat} (h : n < 2147483648) : (Int32.ofNat n).toNatClampNeg = n := by rw [i_tn, i_nat h]; rfl
theorem i_add {a b : Int32} (h1 : -2147483648 ≤ a.toInt + b.toInt) (h2 : a.toInt + b.toInt ≤ 2147483647) : (a + b).toInt = a.toInt + b.toInt := by
  rw [Int32.toInt_add]
  exact Int.bmod_eq_of_le (by omega) (by omega)
theorem i_sub {a b : Int32} (h1 : -2147483648 ≤ a.toInt - b.toInt) (h2 : a.toInt - b.toInt ≤ 2147483647) : (a - b).toInt = a.toInt - b.toInt := by
  rw [Int32.toInt_sub]
  exact Int.bmod_eq_of_le (by omega) (by omega)
theorem i_mul {a b : Int32} (h1 : -2147483648 ≤ a.toInt * b.toInt) (h2 : a.toInt * b.toInt ≤ 2147483647) : (a * b).toInt = a.toInt * b.toInt := by
  rw [Int32.toInt_mul]
  exact Int.bmod_eq_of_le (by omega) (by omega)
theorem i_neg {a : Int32} (h1 : -2147483647 ≤ a.toInt) : (-a).toInt = -a.toInt := by
  rw [Int32.toInt_neg]
  have h2 := Int32.toInt_lt a
  exact Int.bmod_eq_of_le (by omega) (by omega)
theorem i_le {a b : Int32} : a ≤ b ↔ a.toInt ≤ b.toInt := Int32.le_iff_toInt_le
theorem i_lt {a b : Int32} : a < b ↔ a.toInt < b.toInt := Int32.lt_iff_toInt_lt
theorem i_eq {a b : Int32} : a = b ↔ a.toInt = b.toInt := Int32.toInt_inj.symm
theorem i_1 {n : Nat} : Int32.ofNat n + 1 = Int32.ofNat (n + 1) := by
  show Int32.ofNat n + Int32.ofNat 1 = _
  rw [← Int32.ofNat_add]
/-! a road that is gone to its end -/
def gok1 {τ : Type} (F : Option τ) (P : τ → Prop) : Prop := ∃ t, F = some t ∧ P t
theorem ok_some {τ : Type} {x : τ} {P : τ → Prop} (h : P x) : gok1 (some x) P := ⟨x, rfl, h⟩
theorem ok_ck {τ : Type} {i : Int32} {n : Nat} {F : Option τ} {P : τ → Prop} (h1 : 0 ≤ i) (h2 : i.toNatClampNeg < n) (h : gok1 F P) : gok1 (g_ck i n F) P := by
  unfold g_ck
  rw [if_pos ⟨h1, h2⟩]
  exact h
theorem ok_dv {τ : Type} {y : Int32} {F : Option τ} {P : τ → Prop} (h1 : ¬ y = 0) (h : gok1 F P) : gok1 (g_dv y F) P := by
  unfold g_dv
  rw [if_neg h1]
  exact h
theorem ok_lt {α τ : Type} {x : α} {f : α → Option τ} {P : τ → Prop} (h : gok1 (f x) P) : gok1 (g_lt x f) P := h
theorem ok_bd {α τ : Type} {F : Option α} {g : α → Option τ} {Q : α → Prop} {P : τ → Prop} (h : gok1 F Q) (k : ∀ x, Q x → gok1 (g x) P) : gok1 (F.bind g) P := by
  obtain ⟨x, e, q⟩ := h
  rw [e]
  exact k x q
theorem ok_b1 {τ : Type} {F : Option gS} {g : (Nat → Int32) → (Nat → Nat → Int32) → (Nat → Int64) → Option τ} {Q : gS → Prop} {P : τ → Prop} (h : gok1 F Q) (k : ∀ I A L, Q (I, A, L) → gok1 (g I A L) P) : gok1 (g_b1 F g) P := by
  obtain ⟨⟨I, A, L⟩, e, q⟩ := h
  unfold g_b1
  rw [e]
  exact k I A L q
theorem ok_b2 {α τ : Type} {F : Option (α × gS)} {g : α → (Nat → Int32) → (Nat → Nat → Int32) → (Nat → Int64) → Option τ} {Q : α × gS → Prop} {P : τ → Prop} (h : gok1 F Q) (k : ∀ x I A L, Q (x, I, A, L) → gok1 (g x I A L) P) : gok1 (g_b2 F g) P := by
  obtain ⟨⟨x, I, A, L⟩, e, q⟩ := h
  unfold g_b2
  rw [e]
  exact k x I A L q
theorem ok_w {τ : Type} {F : Option τ} {P Q : τ → Prop} (h : gok1 F P) (k : ∀ t, P t → Q t) : gok1 F Q := by
  obtain ⟨t, e, q⟩ := h
  exact ⟨t, e, k t q⟩
/-! refusals -/
theorem rf_bad (a : Int32) (I : Nat → Int32) (A : Nat → Nat → Int32) (L : Nat → Int64) : f_X6_refuseBad a I A L = some (a, va_up I 13 (I 13 + 1), A, L) := rfl
theorem rf_no (I : Nat → Int32) (A : Nat → Nat → Int32) (L : Nat → Int64) : f_X6_refuseNo I A L = some (-3, va_up I 14 (I 14 + 1), A, L) := rfl
theorem rf_full (I : Nat → Int32) (A : Nat → Nat → Int32) (L : Nat → Int64) : f_X6_refuseFull I A L = some (-4, va_up I 15 (I 15 + 1), A, L) := rfl
theorem rm_bad (I : Nat → Int32) (A : Nat → Nat → Int32) (L : Nat → Int64) : f_X7_refuses (-2) I A L = some (-2, I, va_up A 63 (upd (A 63) 0 (A 63 0 + 1)), L) := by
  unfold f_X7_refuses g_ck g_lt
  rw [if_pos (by decide), if_pos (by decide)]
  rfl
theorem rm_no (I : Nat → Int32) (A : Nat → Nat → Int32) (L : Nat → Int64) : f_X7_refuses (-3) I A L = some (-3, I, va_up A 63 (upd (A 63) 1 (A 63 1 + 1)), L) := by
  unfold f_X7_refuses g_ck g_lt
  rw [if_pos (by decide), if_pos (by decide)]
  rfl
theorem rm_full (I : Nat → Int32) (A : Nat → Nat → Int32) (L : Nat → Int64) : f_X7_refuses (-4) I A L = some (-4, I, va_up A 63 (upd (A 63) 2 (A 63 2 + 1)), L) := by
  unfold f_X7_refuses g_ck g_lt
  rw [if_pos (by decide), if_pos (by decide)]
  rfl
theorem rm_b (a : Int32) (I : Nat → Int32) (A : Nat → Nat → Int32) (L : Nat → Int64) : f_X7_bad a I A L = some (a, I, va_up A 63 (upd (A 63) 0 (A 63 0 + 1)), L) := by
  unfold f_X7_bad g_ck g_lt
  rw [if_pos (by decide), if_pos (by decide)]
  rfl
theorem m_in (I : Nat → Int32) (A : Nat → Nat → Int32) (L : Nat → Int64) (v a b : Int32) : f_X7_in I A L v a b = some (if a ≤ v ∧ v ≤ b then 1 else 0) := by
  unfold f_X7_in
  by_cases h1 : v < a
  · rw [if_pos h1, if_neg (fun q => absurd q.1 (Int32.not_le.mpr h1))]
  · rw [if_neg h1]
    by_cases h2 : b < v
    · rw [if_pos h2, if_neg (fun q => absurd q.2 (Int32.not_le.mpr h2))]
    · rw [if_neg h2, if_pos ⟨Int32.not_lt.mp h1, Int32.not_lt.mp h2⟩]
/-- a refusal that both count alike keeps the invariant -/
theorem inv_bad {I : Nat → Int32} {A : Nat → Nat → Int32} {L : Nat → Int64} (h : Inv I A L) : Inv (va_up I 13 (I 13 + 1)) (va_up A 63 (upd (A 63) 0 (A 63 0 + 1))) L := by
  obtain ⟨pl, past, h1, h2, h3, h4, h5, h6, h7⟩ := h
  refine ⟨pl, past, ?_, ?_, ?_, ?_, ?_, ?_, ?_⟩ <;> simp only [va_up, Nat.reduceEqDiff, if_true, if_false, reduceIte] <;> first | assumption | skip
  · obtain ⟨e1, e2, e3⟩ := h4
    refine ⟨?_, ?_, ?_⟩ <;> simp [upd, e1, e2, e3]
theorem inv_no {I : Nat → Int32} {A : Nat → Nat → Int32} {L : Nat → Int64} (h : Inv I A L) : Inv (va_up I 14 (I 14 + 1)) (va_up A 63 (upd (A 63) 1 (A 63 1 + 1))) L := by
  obtain ⟨pl, past, h1, h2, h3, h4, h5, h6, h7⟩ := h
  refine ⟨pl, past, ?_, ?_, ?_, ?_, ?_, ?_, ?_⟩ <;> simp only [va_up, Nat.reduceEqDiff, if_true, if_false, reduceIte] <;> first | assumption | skip
  · obtain ⟨e1, e2, e3⟩ := h4
    refine ⟨?_, ?_, ?_⟩ <;> simp [upd, e1, e2, e3]
theorem inv_full {I : Nat → Int32} {A : Nat → Nat → Int32} {L : Nat → Int64} (h : Inv I A L) : Inv (va_up I 15 (I 15 + 1)) (va_up A 63 (upd (A 63) 2 (A 63 2 + 1))) L := by
  obtain ⟨pl, past, h1, h2, h3, h4, h5, h6, h7⟩ := h
  refine ⟨pl, past, ?_, ?_, ?_, ?_, ?_, ?_, ?_⟩ <;> simp only [va_up, Nat.reduceEqDiff, if_true, if_false, reduceIte] <;> first | assumption | skip
  · obtain ⟨e1, e2, e3⟩ := h4
    refine ⟨?_, ?_, ?_⟩ <;> simp [upd, e1, e2, e3]
