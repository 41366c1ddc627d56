def g_s0 : Nat → Int32 := (upd (upd (upd (upd (upd (upd (upd (upd (upd (upd (upd (upd (upd (upd (upd (upd (upd (upd (upd (upd (upd (upd (upd (upd (upd (fun _ => 0) (Int32.toNatClampNeg 0) 6) (Int32.toNatClampNeg 1) 1) (Int32.toNatClampNeg 2) 0) (Int32.toNatClampNeg 3) 0) (Int32.toNatClampNeg 4) 20) (Int32.toNatClampNeg 5) (-1)) (Int32.toNatClampNeg 6) 0) (Int32.toNatClampNeg 7) 0) (Int32.toNatClampNeg 8) 20) (Int32.toNatClampNeg 9) 0) (Int32.toNatClampNeg 10) 1) (Int32.toNatClampNeg 11) 0) (Int32.toNatClampNeg 12) 20) (Int32.toNatClampNeg 13) 0) (Int32.toNatClampNeg 14) (-1)) (Int32.toNatClampNeg 15) 0) (Int32.toNatClampNeg 16) 20) (Int32.toNatClampNeg 17) 0) (Int32.toNatClampNeg 18) 0) (Int32.toNatClampNeg 19) 1) (Int32.toNatClampNeg 20) 20) (Int32.toNatClampNeg 21) 0) (Int32.toNatClampNeg 22) 0) (Int32.toNatClampNeg 23) (-1)) (Int32.toNatClampNeg 24) 20)
def g_I : Nat → Int32 := va_up g_b0.1 12 1
def g_A : Nat → Nat → Int32 := va_up g_b0.2.1 60 g_s0
def g_L : Nat → Int64 := va_up g_b0.2.2 953 1
theorem g_in59 : ∀ a, a < 59 → ∀ k, k < (g_fds (g_sh a).1).length → ((g_fds (g_sh a).1).getD k (0, 0)).1 = 0 → a + ((g_fds (g_sh a).1).getD k (0, 0)).2 < 59 := by decide
theorem g_cell59 {cA cA' : Nat → ClassId} {ad ad' : Nat → Nat} {I I' : Nat → Int32} {A A' : Nat → Nat → Int32} {L L' : Nat → Int64} (h1 : ∀ a, a < 59 → ad' a = ad a) (h2 : ∀ a, a < 59 → cA' a = cA a) (h3 : ∀ n, n < 944 → I' n = I n) (h4 : ∀ a, a < 59 → A' a = A a) (h5 : ∀ n, n < 944 → L' n = L n) {a : Nat} (ha : a < 59) (hr : a ≠ 12) : g_cell cA' ad' I' A' L' a = g_cell cA ad I A L a := by
  have e1 : g_fs ad' I' L' a (g_sh a).1 = g_fs ad I L a (g_sh a).1 := by
    unfold g_fs
    apply List.map_congr_left
    intro k hk
    have hk := List.mem_range.mp hk
    have h16 := g_fds_le (g_sh a).1
    unfold g_val
    rw [h3 _ (by omega), h5 _ (by omega)]
    split
    next q => rw [h1 _ (g_in59 a ha k hk q)]
    next => rfl
  have e2 : g_row ad' A' a = g_row ad A a := by
    unfold g_row
    have : ¬ (g_sh a).1 = 11 := (by decide : ∀ a, a < 59 → a ≠ 12 → ¬ (g_sh a).1 = 11) a ha hr
    rw [if_neg this, if_neg this, h4 a ha]
  unfold g_cell
  rw [e1, e2, h2 a ha]
set_option maxHeartbeats 4000000 in
set_option maxRecDepth 100000 in
theorem k_70 {dC : Nat → ClassId} {dI : Nat → Nat → Nat} {s : State} {H : Heap} {Q : Nat → Prop} {cA0 cA : Nat → ClassId} {ad0 ad : Nat → Nat} {I0 I : Nat → Int32} {A0 A : Nat → Nat → Int32} {L0 L : Nat → Int64} (h1 : ∀ a, a < 59 → ad a = ad0 a) (h2 : ∀ a, a < 59 → cA a = cA0 a) (h3 : ∀ n, n < 944 → I n = I0 n) (h4 : ∀ a, a < 59 → A a = A0 a) (h5 : ∀ n, n < 944 → L n = L0 n)
    (hi : I 946 = 0 ∧ I 950 = 0 ∧ I 951 = 0 ∧ I 955 = 0) (hl : L 952 = 0 ∧ L 953 = 1) (hA : A 60 = g_s0 ∧ ∀ a, 60 < a → a < 70 → A a = fun _ => 0) (hc : cA 59 = cA 60)
    (hP : va_P (dC, dI) vwCl (gW 59 cA0 ad0 I0 A0 L0 ++ [(ad 59, .inr (7, [.ref (ad (59 + 1)), .ref (ad (59 + 2)), .int 0, .ref (ad (59 + 3)), .ref (ad (59 + 4)), .ref (ad (59 + 5)), .int 0, .int 0, .long 0, .long 1, .ref (ad (59 + 6)), .int 0, .ref (ad (59 + 7)), .ref (ad (59 + 8)), .ref (ad (59 + 9)), .ref (ad (59 + 10))])), (ad 60, .inl (cA 60, 129, .inl g_s0)), (ad 61, .inl (cA 61, 645, .inl (fun _ => 0))), (ad 62, .inl (cA 62, 129, .inl (fun _ => 0))), (ad 63, .inl (cA 63, 3, .inl (fun _ => 0))), (ad 64, .inl (cA 64, 120, .inl (fun _ => 0))), (ad 65, .inl (cA 65, 320, .inl (fun _ => 0))), (ad 66, .inl (cA 66, 32, .inl (fun _ => 0))), (ad 67, .inl (cA 67, 343, .inl (fun _ => 0))), (ad 68, .inl (cA 68, 3, .inl (fun _ => 0))), (ad 69, .inl (cA 69, 3, .inl (fun _ => 0)))]) H) (hD : va_D Q (gW 59 cA0 ad0 I0 A0 L0 ++ [(ad 59, .inr (7, [.ref (ad (59 + 1)), .ref (ad (59 + 2)), .int 0, .ref (ad (59 + 3)), .ref (ad (59 + 4)), .ref (ad (59 + 5)), .int 0, .int 0, .long 0, .long 1, .ref (ad (59 + 6)), .int 0, .ref (ad (59 + 7)), .ref (ad (59 + 8)), .ref (ad (59 + 9)), .ref (ad (59 + 10))])), (ad 60, .inl (cA 60, 129, .inl g_s0)), (ad 61, .inl (cA 61, 645, .inl (fun _ => 0))), (ad 62, .inl (cA 62, 129, .inl (fun _ => 0))), (ad 63, .inl (cA 63, 3, .inl (fun _ => 0))), (ad 64, .inl (cA 64, 120, .inl (fun _ => 0))), (ad 65, .inl (cA 65, 320, .inl (fun _ => 0))), (ad 66, .inl (cA 66, 32, .inl (fun _ => 0))), (ad 67, .inl (cA 67, 343, .inl (fun _ => 0))), (ad 68, .inl (cA 68, 3, .inl (fun _ => 0))), (ad 69, .inl (cA 69, 3, .inl (fun _ => 0)))])) (hK : va_K (dC, dI) vwCl (gTy 59 cA0 ++ [(cA 60, .int), (cA 61, .int), (cA 62, .int), (cA 63, .int), (cA 64, .int), (cA 65, .int), (cA 66, .boolean), (cA 67, .boolean), (cA 68, .int), (cA 69, .int)]) s) :
    va_P (dC, dI) vwCl (gW 70 cA ad I A L) H ∧ va_K (dC, dI) vwCl (gTy 70 cA) s ∧ (∀ a b, a < 70 → b < 70 → ad a = ad b → a = b) ∧ ∀ a, a < 70 → Q (ad a) := by
  have len : (gW 59 cA0 ad0 I0 A0 L0).length = 59 := gW_len _ _ _ _ _
  have lent : (gTy 59 cA0).length = 59 := by simp [gTy]
  have lo : ∀ a, a < 59 → (gW 59 cA0 ad0 I0 A0 L0 ++ [(ad 59, .inr (7, [.ref (ad (59 + 1)), .ref (ad (59 + 2)), .int 0, .ref (ad (59 + 3)), .ref (ad (59 + 4)), .ref (ad (59 + 5)), .int 0, .int 0, .long 0, .long 1, .ref (ad (59 + 6)), .int 0, .ref (ad (59 + 7)), .ref (ad (59 + 8)), .ref (ad (59 + 9)), .ref (ad (59 + 10))])), (ad 60, .inl (cA 60, 129, .inl g_s0)), (ad 61, .inl (cA 61, 645, .inl (fun _ => 0))), (ad 62, .inl (cA 62, 129, .inl (fun _ => 0))), (ad 63, .inl (cA 63, 3, .inl (fun _ => 0))), (ad 64, .inl (cA 64, 120, .inl (fun _ => 0))), (ad 65, .inl (cA 65, 320, .inl (fun _ => 0))), (ad 66, .inl (cA 66, 32, .inl (fun _ => 0))), (ad 67, .inl (cA 67, 343, .inl (fun _ => 0))), (ad 68, .inl (cA 68, 3, .inl (fun _ => 0))), (ad 69, .inl (cA 69, 3, .inl (fun _ => 0)))])[a]? = some (ad0 a, g_cell cA0 ad0 I0 A0 L0 a) := fun a ha => by
    rw [List.getElem?_append_left (by rw [len]; exact ha), gW_get _ _ _ _ _ ha]
  have hiG : ∀ k, (gW 59 cA0 ad0 I0 A0 L0 ++ [(ad 59, .inr (7, [.ref (ad (59 + 1)), .ref (ad (59 + 2)), .int 0, .ref (ad (59 + 3)), .ref (ad (59 + 4)), .ref (ad (59 + 5)), .int 0, .int 0, .long 0, .long 1, .ref (ad (59 + 6)), .int 0, .ref (ad (59 + 7)), .ref (ad (59 + 8)), .ref (ad (59 + 9)), .ref (ad (59 + 10))])), (ad 60, .inl (cA 60, 129, .inl g_s0)), (ad 61, .inl (cA 61, 645, .inl (fun _ => 0))), (ad 62, .inl (cA 62, 129, .inl (fun _ => 0))), (ad 63, .inl (cA 63, 3, .inl (fun _ => 0))), (ad 64, .inl (cA 64, 120, .inl (fun _ => 0))), (ad 65, .inl (cA 65, 320, .inl (fun _ => 0))), (ad 66, .inl (cA 66, 32, .inl (fun _ => 0))), (ad 67, .inl (cA 67, 343, .inl (fun _ => 0))), (ad 68, .inl (cA 68, 3, .inl (fun _ => 0))), (ad 69, .inl (cA 69, 3, .inl (fun _ => 0)))])[59 + k]? = ([(ad 59, .inr (7, [.ref (ad (59 + 1)), .ref (ad (59 + 2)), .int 0, .ref (ad (59 + 3)), .ref (ad (59 + 4)), .ref (ad (59 + 5)), .int 0, .int 0, .long 0, .long 1, .ref (ad (59 + 6)), .int 0, .ref (ad (59 + 7)), .ref (ad (59 + 8)), .ref (ad (59 + 9)), .ref (ad (59 + 10))])), (ad 60, .inl (cA 60, 129, .inl g_s0)), (ad 61, .inl (cA 61, 645, .inl (fun _ => 0))), (ad 62, .inl (cA 62, 129, .inl (fun _ => 0))), (ad 63, .inl (cA 63, 3, .inl (fun _ => 0))), (ad 64, .inl (cA 64, 120, .inl (fun _ => 0))), (ad 65, .inl (cA 65, 320, .inl (fun _ => 0))), (ad 66, .inl (cA 66, 32, .inl (fun _ => 0))), (ad 67, .inl (cA 67, 343, .inl (fun _ => 0))), (ad 68, .inl (cA 68, 3, .inl (fun _ => 0))), (ad 69, .inl (cA 69, 3, .inl (fun _ => 0)))] : va_W)[k]? := fun k => by
    rw [List.getElem?_append_right (by rw [len]; omega), len]
    congr 1; omega
  have hiT : ∀ k, (gTy 59 cA0 ++ [(cA 60, .int), (cA 61, .int), (cA 62, .int), (cA 63, .int), (cA 64, .int), (cA 65, .int), (cA 66, .boolean), (cA 67, .boolean), (cA 68, .int), (cA 69, .int)])[59 + k]? = ([(cA 60, .int), (cA 61, .int), (cA 62, .int), (cA 63, .int), (cA 64, .int), (cA 65, .int), (cA 66, .boolean), (cA 67, .boolean), (cA 68, .int), (cA 69, .int)] : List (ClassId × FieldType))[k]? := fun k => by
    rw [List.getElem?_append_right (by rw [lent]; omega), lent]
    congr 1; omega
  have adr : ∀ a, a < 70 → ∃ (i : Nat) (e : va_E), (gW 59 cA0 ad0 I0 A0 L0 ++ [(ad 59, .inr (7, [.ref (ad (59 + 1)), .ref (ad (59 + 2)), .int 0, .ref (ad (59 + 3)), .ref (ad (59 + 4)), .ref (ad (59 + 5)), .int 0, .int 0, .long 0, .long 1, .ref (ad (59 + 6)), .int 0, .ref (ad (59 + 7)), .ref (ad (59 + 8)), .ref (ad (59 + 9)), .ref (ad (59 + 10))])), (ad 60, .inl (cA 60, 129, .inl g_s0)), (ad 61, .inl (cA 61, 645, .inl (fun _ => 0))), (ad 62, .inl (cA 62, 129, .inl (fun _ => 0))), (ad 63, .inl (cA 63, 3, .inl (fun _ => 0))), (ad 64, .inl (cA 64, 120, .inl (fun _ => 0))), (ad 65, .inl (cA 65, 320, .inl (fun _ => 0))), (ad 66, .inl (cA 66, 32, .inl (fun _ => 0))), (ad 67, .inl (cA 67, 343, .inl (fun _ => 0))), (ad 68, .inl (cA 68, 3, .inl (fun _ => 0))), (ad 69, .inl (cA 69, 3, .inl (fun _ => 0)))])[i]? = some (ad a, e) ∧ (i < 59 → i = a) ∧ (59 ≤ i → 59 ≤ a ∧ i = 59 + ([0, 1, 2, 3, 4, 5, 6, 7, 8, 9, 10] : List Nat).getD (a - 59) 0) := by
    intro a ha
    rcases Nat.lt_or_ge a 59 with h | h
    · exact ⟨a, _, by rw [lo a h, h1 a h], fun _ => rfl, fun z => absurd z (by omega)⟩
    · rcases (show a = 59 ∨ a = 60 ∨ a = 61 ∨ a = 62 ∨ a = 63 ∨ a = 64 ∨ a = 65 ∨ a = 66 ∨ a = 67 ∨ a = 68 ∨ a = 69 by omega) with rfl | rfl | rfl | rfl | rfl | rfl | rfl | rfl | rfl | rfl | rfl
      · exact ⟨59 + 0, _, by rw [hiG]; rfl, fun z => absurd z (by omega), fun _ => ⟨by omega, rfl⟩⟩
      · exact ⟨59 + 1, _, by rw [hiG]; rfl, fun z => absurd z (by omega), fun _ => ⟨by omega, rfl⟩⟩
      · exact ⟨59 + 2, _, by rw [hiG]; rfl, fun z => absurd z (by omega), fun _ => ⟨by omega, rfl⟩⟩
      · exact ⟨59 + 3, _, by rw [hiG]; rfl, fun z => absurd z (by omega), fun _ => ⟨by omega, rfl⟩⟩
      · exact ⟨59 + 4, _, by rw [hiG]; rfl, fun z => absurd z (by omega), fun _ => ⟨by omega, rfl⟩⟩
      · exact ⟨59 + 5, _, by rw [hiG]; rfl, fun z => absurd z (by omega), fun _ => ⟨by omega, rfl⟩⟩
      · exact ⟨59 + 6, _, by rw [hiG]; rfl, fun z => absurd z (by omega), fun _ => ⟨by omega, rfl⟩⟩
      · exact ⟨59 + 7, _, by rw [hiG]; rfl, fun z => absurd z (by omega), fun _ => ⟨by omega, rfl⟩⟩
      · exact ⟨59 + 8, _, by rw [hiG]; rfl, fun z => absurd z (by omega), fun _ => ⟨by omega, rfl⟩⟩
      · exact ⟨59 + 9, _, by rw [hiG]; rfl, fun z => absurd z (by omega), fun _ => ⟨by omega, rfl⟩⟩
      · exact ⟨59 + 10, _, by rw [hiG]; rfl, fun z => absurd z (by omega), fun _ => ⟨by omega, rfl⟩⟩
  refine ⟨fun k q hq => ?_, ⟨hK.1, fun k q hq => ?_⟩, fun a b ha hb hab => ?_, fun a ha => ?_⟩
  · obtain ⟨hk, rfl⟩ := gW_lt hq
    rcases Nat.lt_or_ge k 59 with h | h
    · have h9 := hP k _ (lo k h)
      by_cases hr : k = 12
      · subst hr
        rw [h1 12 (by omega)]
        have e1 : g_cell cA ad I A L 12 = .inl (cA 12, 5, .inr (.inr (.inr (.inr (fun j => some (ad (13 + 5 * j))))))) := rfl
        have e2 : g_cell cA0 ad0 I0 A0 L0 12 = .inl (cA0 12, 5, .inr (.inr (.inr (.inr (fun j => some (ad0 (13 + 5 * j))))))) := rfl
        rw [e2] at h9
        rw [e1, h2 12 (by omega)]
        have h9 : H[ad0 12]? = some (arrV (cA0 12) 5 (fun j => va_rf (some (ad0 (13 + 5 * j))))) := h9
        show H[ad0 12]? = some (arrV (cA0 12) 5 (fun j => va_rf (some (ad (13 + 5 * j)))))
        rw [h9]
        congr 1
        unfold arrV
        congr 1
        congr 1
        funext j
        show va_rf (some (ad0 (13 + 5 * j.val))) = va_rf (some (ad (13 + 5 * j.val)))
        rw [h1 _ (by have := j.isLt; omega)]
      · rw [h1 k h, g_cell59 h1 h2 h3 h4 h5 h hr]
        exact h9
    · rcases (show k = 59 ∨ k = 60 ∨ k = 61 ∨ k = 62 ∨ k = 63 ∨ k = 64 ∨ k = 65 ∨ k = 66 ∨ k = 67 ∨ k = 68 ∨ k = 69 by omega) with rfl | rfl | rfl | rfl | rfl | rfl | rfl | rfl | rfl | rfl | rfl
      · have h9 := hP (59 + 0) _ (by rw [hiG]; rfl)
        have e1 : g_cell cA ad I A L 59 = .inr (7, [.ref (ad (59 + 1)), .ref (ad (59 + 2)), .int (I 946), .ref (ad (59 + 3)), .ref (ad (59 + 4)), .ref (ad (59 + 5)), .int (I 950), .int (I 951), .long (L 952), .long (L 953), .ref (ad (59 + 6)), .int (I 955), .ref (ad (59 + 7)), .ref (ad (59 + 8)), .ref (ad (59 + 9)), .ref (ad (59 + 10))]) := rfl
        rw [e1, hi.1, hi.2.1, hi.2.2.1, hi.2.2.2, hl.1, hl.2]
        exact h9
      · have h9 := hP (59 + 1) _ (by rw [hiG]; rfl)
        have e1 : g_cell cA ad I A L 60 = .inl (cA 60, 129, .inl (A 60)) := rfl
        rw [e1, hA.1]
        exact h9
      · have h9 := hP (59 + 2) _ (by rw [hiG]; rfl)
        have e1 : g_cell cA ad I A L 61 = .inl (cA 61, 645, .inl (A 61)) := rfl
        rw [e1, hA.2 61 (by omega) (by omega)]
        exact h9
      · have h9 := hP (59 + 3) _ (by rw [hiG]; rfl)
        have e1 : g_cell cA ad I A L 62 = .inl (cA 62, 129, .inl (A 62)) := rfl
        rw [e1, hA.2 62 (by omega) (by omega)]
        exact h9
      · have h9 := hP (59 + 4) _ (by rw [hiG]; rfl)
        have e1 : g_cell cA ad I A L 63 = .inl (cA 63, 3, .inl (A 63)) := rfl
        rw [e1, hA.2 63 (by omega) (by omega)]
        exact h9
      · have h9 := hP (59 + 5) _ (by rw [hiG]; rfl)
        have e1 : g_cell cA ad I A L 64 = .inl (cA 64, 120, .inl (A 64)) := rfl
        rw [e1, hA.2 64 (by omega) (by omega)]
        exact h9
      · have h9 := hP (59 + 6) _ (by rw [hiG]; rfl)
        have e1 : g_cell cA ad I A L 65 = .inl (cA 65, 320, .inl (A 65)) := rfl
        rw [e1, hA.2 65 (by omega) (by omega)]
        exact h9
      · have h9 := hP (59 + 7) _ (by rw [hiG]; rfl)
        have e1 : g_cell cA ad I A L 66 = .inl (cA 66, 32, .inl (A 66)) := rfl
        rw [e1, hA.2 66 (by omega) (by omega)]
        exact h9
      · have h9 := hP (59 + 8) _ (by rw [hiG]; rfl)
        have e1 : g_cell cA ad I A L 67 = .inl (cA 67, 343, .inl (A 67)) := rfl
        rw [e1, hA.2 67 (by omega) (by omega)]
        exact h9
      · have h9 := hP (59 + 9) _ (by rw [hiG]; rfl)
        have e1 : g_cell cA ad I A L 68 = .inl (cA 68, 3, .inl (A 68)) := rfl
        rw [e1, hA.2 68 (by omega) (by omega)]
        exact h9
      · have h9 := hP (59 + 10) _ (by rw [hiG]; rfl)
        have e1 : g_cell cA ad I A L 69 = .inl (cA 69, 3, .inl (A 69)) := rfl
        rw [e1, hA.2 69 (by omega) (by omega)]
        exact h9
  · have hk : k < 70 := by
      have := (List.getElem?_eq_some_iff.mp hq).1
      simpa [gTy] using this
    rw [g_tyat hk (t := (g_sh k).1) (n := (g_sh k).2) rfl] at hq
    cases hq
    rcases Nat.lt_or_ge k 59 with h | h
    · have h9 := hK.2 k _ (by rw [List.getElem?_append_left (by rw [lent]; exact h), g_tyat h (t := (g_sh k).1) (n := (g_sh k).2) rfl])
      rw [h2 k h]
      exact h9
    · rcases (show k = 59 ∨ k = 60 ∨ k = 61 ∨ k = 62 ∨ k = 63 ∨ k = 64 ∨ k = 65 ∨ k = 66 ∨ k = 67 ∨ k = 68 ∨ k = 69 by omega) with rfl | rfl | rfl | rfl | rfl | rfl | rfl | rfl | rfl | rfl | rfl
      · rw [hc]
        exact hK.2 (59 + 0) _ (by rw [hiT]; rfl)
      · exact hK.2 (59 + 0) _ (by rw [hiT]; rfl)
      · exact hK.2 (59 + 1) _ (by rw [hiT]; rfl)
      · exact hK.2 (59 + 2) _ (by rw [hiT]; rfl)
      · exact hK.2 (59 + 3) _ (by rw [hiT]; rfl)
      · exact hK.2 (59 + 4) _ (by rw [hiT]; rfl)
      · exact hK.2 (59 + 5) _ (by rw [hiT]; rfl)
      · exact hK.2 (59 + 6) _ (by rw [hiT]; rfl)
      · exact hK.2 (59 + 7) _ (by rw [hiT]; rfl)
      · exact hK.2 (59 + 8) _ (by rw [hiT]; rfl)
      · exact hK.2 (59 + 9) _ (by rw [hiT]; rfl)
  · obtain ⟨i, e, g1, g2, g3⟩ := adr a ha
    obtain ⟨j, f, k1, k2, k3⟩ := adr b hb
    have hij := hD.1 i j _ _ g1 k1 hab
    subst hij
    rcases Nat.lt_or_ge i 59 with h | h
    · rw [← g2 h, ← k2 h]
    · obtain ⟨z1, z2⟩ := g3 h
      obtain ⟨z3, z4⟩ := k3 h
      have z5 : ([0, 1, 2, 3, 4, 5, 6, 7, 8, 9, 10] : List Nat).getD (a - 59) 0 = ([0, 1, 2, 3, 4, 5, 6, 7, 8, 9, 10] : List Nat).getD (b - 59) 0 := by omega
      have z6 : ∀ x, x < 11 → ∀ y, y < 11 → ([0, 1, 2, 3, 4, 5, 6, 7, 8, 9, 10] : List Nat).getD x 0 = ([0, 1, 2, 3, 4, 5, 6, 7, 8, 9, 10] : List Nat).getD y 0 → x = y := by decide
      have := z6 (a - 59) (by omega) (b - 59) (by omega) z5
      omega
  · obtain ⟨i, e, g1, -, -⟩ := adr a ha
    exact hD.2 i _ g1
