/-! sums -/
def sm : Nat → (Nat → Nat) → Nat
  | 0, _ => 0
  | n + 1, f => sm n f + f n
theorem sm_s (n : Nat) (f : Nat → Nat) : sm (n + 1) f = sm n f + f n := rfl
noncomputable def ib (P : Prop) : Nat := @ite Nat P (Classical.propDecidable P) 1 0
theorem ib_1 {P : Prop} (h : P) : ib P = 1 := by unfold ib; exact if_pos h
theorem ib_0 {P : Prop} (h : ¬ P) : ib P = 0 := by unfold ib; exact if_neg h
theorem ib_le (P : Prop) : ib P ≤ 1 := by
  by_cases h : P
  · rw [ib_1 h]; omega
  · rw [ib_0 h]; omega
theorem ib_c {P Q : Prop} (h : P ↔ Q) : ib P = ib Q := by rw [propext h]
theorem sm_le {n : Nat} {f g : Nat → Nat} (h : ∀ i, i < n → f i ≤ g i) : sm n f ≤ sm n g := by
  induction n with
  | zero => exact Nat.le_refl _
  | succ n ih =>
    have := ih (fun i hi => h i (by omega))
    have := h n (by omega)
    unfold sm
    omega
theorem sm_eq {n : Nat} {f g : Nat → Nat} (h : ∀ i, i < n → f i = g i) : sm n f = sm n g := by
  induction n with
  | zero => rfl
  | succ n ih =>
    have := ih (fun i hi => h i (by omega))
    have := h n (by omega)
    unfold sm
    omega
theorem sm_add (n : Nat) (f g : Nat → Nat) : sm n (fun i => f i + g i) = sm n f + sm n g := by
  induction n with
  | zero => rfl
  | succ n ih =>
    rw [sm_s, sm_s, sm_s, ih]
    show sm n f + sm n g + (f n + g n) = _
    omega
theorem sm_k (n k : Nat) : sm n (fun _ => k) = n * k := by
  induction n with
  | zero => simp [sm]
  | succ n ih => unfold sm; rw [ih, Nat.succ_mul]
theorem sm_0 {n : Nat} {f : Nat → Nat} (h : ∀ i, i < n → f i = 0) : sm n f = 0 := by
  rw [sm_eq (g := fun _ => 0) h, sm_k]; omega
theorem sm_comm (n m : Nat) (f : Nat → Nat → Nat) : sm n (fun i => sm m (f i)) = sm m (fun j => sm n (fun i => f i j)) := by
  induction n with
  | zero => exact (sm_0 (n := m) (f := fun j => sm 0 (fun i => f i j)) (fun j _ => rfl)).symm
  | succ n ih =>
    show sm n (fun i => sm m (f i)) + sm m (f n) = _
    rw [ih, ← sm_add]
    exact sm_eq (fun j _ => rfl)
theorem sm_1 {n i : Nat} {f : Nat → Nat} (h : i < n) (h0 : ∀ j, j < n → j ≠ i → f j = 0) : sm n f = f i := by
  induction n with
  | zero => omega
  | succ n ih =>
    unfold sm
    by_cases e : i = n
    · subst e
      rw [sm_0 (fun j hj => h0 j (by omega) (by omega))]; omega
    · rw [ih (by omega) (fun j hj hne => h0 j (by omega) hne), h0 n (by omega) (by omega)]; omega
/-- exactly two -/
theorem sm_2 {n i k : Nat} {f : Nat → Nat} (h : i < n) (hk : k < n) (hik : i ≠ k) (h0 : ∀ j, j < n → j ≠ i → j ≠ k → f j = 0) : sm n f = f i + f k := by
  have e : sm n f = sm n (fun j => (if j = i then f i else 0) + (if j = k then f k else 0)) := sm_eq (fun j hj => by
    by_cases e1 : j = i
    · subst e1
      rw [if_pos rfl, if_neg hik]; rfl
    · by_cases e2 : j = k
      · subst e2
        rw [if_neg e1, if_pos rfl, Nat.zero_add]
      · rw [if_neg e1, if_neg e2, h0 j hj e1 e2])
  rw [e, sm_add, sm_1 h (fun j _ hj => if_neg hj), sm_1 hk (fun j _ hj => if_neg hj), if_pos rfl, if_pos rfl]
/-- at most one -/
theorem sm_le1 {n : Nat} {P : Nat → Prop} (h : ∀ i j, i < n → j < n → P i → P j → i = j) : sm n (fun i => ib (P i)) ≤ 1 := by
  by_cases e : ∃ i, i < n ∧ P i
  · obtain ⟨i, hi, hp⟩ := e
    rw [sm_1 hi (fun j hj hne => ib_0 (fun q => hne (h j i hj hi q hp)))]
    exact ib_le _
  · rw [sm_0 (fun i hi => ib_0 (fun q => e ⟨i, hi, q⟩))]; omega
theorem sm_eq1 {n i : Nat} {P : Nat → Prop} (hi : i < n) (hp : P i) (h : ∀ j, j < n → P j → j = i) : sm n (fun i => ib (P i)) = 1 := by
  rw [sm_1 hi (fun j hj hne => ib_0 (fun q => hne (h j hj q))), ib_1 hp]
theorem sm_ge {n : Nat} {f : Nat → Nat} {i : Nat} (hi : i < n) : f i ≤ sm n f := by
  induction n with
  | zero => omega
  | succ n ih =>
    unfold sm
    by_cases e : i = n
    · subst e; omega
    · have := ih (by omega); omega
theorem sm_ge3 {n : Nat} {P : Nat → Prop} {i j k : Nat} (hi : i < n) (hj : j < n) (hk : k < n) (h1 : i ≠ j) (h2 : i ≠ k) (h3 : j ≠ k) (pi : P i) (pj : P j) (pk : P k) : 3 ≤ sm n (fun i => ib (P i)) := by
  have : sm n (fun x => (ib (x = i) + ib (x = j)) + ib (x = k)) ≤ sm n (fun i => ib (P i)) := sm_le (fun x hx => by
    by_cases e1 : x = i
    · subst e1
      rw [ib_1 rfl, ib_0 h1, ib_0 h2, ib_1 pi]; omega
    · by_cases e2 : x = j
      · subst e2
        rw [ib_0 e1, ib_1 rfl, ib_0 h3, ib_1 pj]; omega
      · by_cases e3 : x = k
        · subst e3
          rw [ib_0 e1, ib_0 e2, ib_1 rfl, ib_1 pk]; omega
        · rw [ib_0 e1, ib_0 e2, ib_0 e3]; omega)
  rw [sm_add, sm_add, sm_eq1 (P := fun x => x = i) hi rfl (fun j _ q => q), sm_eq1 (P := fun x => x = j) hj rfl (fun j _ q => q), sm_eq1 (P := fun x => x = k) hk rfl (fun j _ q => q)] at this
  omega
theorem sm_ex {n : Nat} {P : Nat → Prop} (h : 0 < sm n (fun i => ib (P i))) : ∃ i, i < n ∧ P i := by
  by_cases e : ∃ i, i < n ∧ P i
  · exact e
  · rw [sm_0 (fun i hi => ib_0 (fun q => e ⟨i, hi, q⟩))] at h
    omega
/-- a list's filter counted -/
theorem sm_filter {α : Type} (d : α) (P : α → Prop) : ∀ (l : List α) (f : α → Bool), (∀ x, f x = true ↔ P x) → (l.filter f).length = sm l.length (fun i => ib (P (l.getD i d))) := by
  intro l f hf
  have key : ∀ n, n ≤ l.length → ((l.take n).filter f).length = sm n (fun i => ib (P (l.getD i d))) := by
    intro n
    induction n with
    | zero => intro _; simp [sm]
    | succ n ih =>
      intro hn
      have e : l.take (n + 1) = l.take n ++ [l.getD n d] := by
        rw [List.take_succ, List.getElem?_eq_getElem (by omega), List.getD_eq_getElem?_getD, List.getElem?_eq_getElem (by omega)]
        rfl
      rw [e, List.filter_append, List.length_append, ih (by omega), sm_s]
      congr 1
      by_cases hp : P (l.getD n d)
      · rw [ib_1 hp, List.filter_cons_of_pos ((hf _).mpr hp)]; rfl
      · rw [ib_0 hp, List.filter_cons_of_neg (fun q => hp ((hf _).mp q))]; rfl
  have := key l.length (Nat.le_refl _)
  rw [List.take_length] at this
  exact this
