def g_cl (ci : Nat) : vw_C := vwCl.getD ci (RX0, TX0, 3)
theorem g_cl_at {ci : Nat} (h : ci < 8) : vwCl[ci]? = some (g_cl ci) := by
  unfold g_cl
  rw [List.getD_eq_getElem?_getD, List.getElem?_eq_getElem (show ci < vwCl.length from h)]; rfl
theorem g_cin {ci : Nat} (h : ci < 8) : ∀ w ∈ u_ws (g_cl ci).1 (g_cl ci).2.1 (g_cl ci).2.2, w ∈ gT := by
  rcases (show ci = 0 ∨ ci = 1 ∨ ci = 2 ∨ ci = 3 ∨ ci = 4 ∨ ci = 5 ∨ ci = 6 ∨ ci = 7 by omega) with rfl | rfl | rfl | rfl | rfl | rfl | rfl | rfl
  · exact gin_X0
  · exact gin_X1
  · exact gin_X2
  · exact gin_X3
  · exact gin_X4
  · exact gin_X5
  · exact gin_X6
  · exact gin_X7
theorem g_cty {ci : Nat} (h : ci < 8) : ∃ ty0 : Nat → FieldType, (∀ k, k < (g_cl ci).2.2 → parseFieldDescriptor ((g_cl ci).2.1 k).2.2.1 = some (ty0 k)) ∧ ∀ a, a < (g_cl ci).2.2 → ∀ b, b < (g_cl ci).2.2 → a ≠ b → ((g_cl ci).2.1 a).2.1 ≠ ((g_cl ci).2.1 b).2.1 := by
  rcases (show ci = 0 ∨ ci = 1 ∨ ci = 2 ∨ ci = 3 ∨ ci = 4 ∨ ci = 5 ∨ ci = 6 ∨ ci = 7 by omega) with rfl | rfl | rfl | rfl | rfl | rfl | rfl | rfl
  · exact ⟨tyX0, tyX0_ok, nmX0⟩
  · exact ⟨tyX1, tyX1_ok, nmX1⟩
  · exact ⟨tyX2, tyX2_ok, nmX2⟩
  · exact ⟨tyX3, tyX3_ok, nmX3⟩
  · exact ⟨tyX4, tyX4_ok, nmX4⟩
  · exact ⟨tyX5, tyX5_ok, nmX5⟩
  · exact ⟨tyX6, tyX6_ok, nmX6⟩
  · exact ⟨tyX7, tyX7_ok, nmX7⟩
theorem g_cn {ci : Nat} (h : ci < 8) : (g_fds ci).length = (g_cl ci).2.2 := by
  rcases (show ci = 0 ∨ ci = 1 ∨ ci = 2 ∨ ci = 3 ∨ ci = 4 ∨ ci = 5 ∨ ci = 6 ∨ ci = 7 by omega) with rfl | rfl | rfl | rfl | rfl | rfl | rfl | rfl <;> rfl
theorem g_obj {cA : Nat → ClassId} {ad : Nat → Nat} {I : Nat → Int32} {A : Nat → Nat → Int32} {L : Nat → Int64} {a ci : Nat} (hsh : g_sh a = (ci, 0)) (hci : ci < 8) : g_cell cA ad I A L a = .inr (ci, g_fs ad I L a ci) := by
  unfold g_cell
  rw [hsh]
  exact if_pos hci
theorem g_arr {cA : Nat → ClassId} {ad : Nat → Nat} {I : Nat → Int32} {A : Nat → Nat → Int32} {L : Nat → Int64} {a t n : Nat} (hsh : g_sh a = (8 + t, n)) : g_cell cA ad I A L a = .inl (cA a, n, g_row ad A a) := by
  unfold g_cell
  rw [hsh]
  rw [if_neg (by show ¬ 8 + t < 8; omega)]
theorem g_rowI {ad : Nat → Nat} {A : Nat → Nat → Int32} {a t n : Nat} (hsh : g_sh a = (8 + t, n)) (ht : t < 3) : g_row ad A a = .inl (A a) := by
  unfold g_row
  rw [hsh]
  exact if_neg (by show ¬ 8 + t = 11; omega)
theorem g_a70 {a x : Nat} {y : Nat} (hsh : g_sh a = (x, y)) (hx : x < 99) : a < 70 := by
  rcases Nat.lt_or_ge a 70 with h | h
  · exact h
  · exfalso
    have : g_sh a = (99, 0) := by
      unfold g_sh
      rw [List.getD_eq_getElem?_getD, List.getElem?_eq_none (by exact h)]; rfl
    rw [this] at hsh
    cases hsh
    omega
theorem va_up_same {α : Type} (f : Nat → α) (k : Nat) (v : α) : va_up f k v k = v := if_pos rfl
theorem va_up_other {α : Type} (f : Nat → α) {k j : Nat} (v : α) (h : j ≠ k) : va_up f k v j = f j := if_neg h
theorem g_setI {N : Nat} {cA : Nat → ClassId} {ad : Nat → Nat} {I : Nat → Int32} {A : Nat → Nat → Int32} {L : Nat → Int64} {a ci k : Nat} (hsh : g_sh a = (ci, 0)) (hci : ci < 8) (hf : (g_fds ci)[k]? = some (1, 0)) (v : Int32) : (gW N cA ad I A L).set a (ad a, .inr (ci, (g_fs ad I L a ci).set k (.int v))) = gW N cA ad (va_up I (16 * a + k) v) A L := by
  have hk16 : k < 16 := by
    have h1 := (List.getElem?_eq_some_iff.mp hf).1
    have h2 := g_fds_le ci
    omega
  refine gW_set (fun _ => ?_) (fun b hb hne => ?_)
  · rw [g_obj hsh hci, g_fs_up (I := I) (L := L) (v := .int v) hf (by simp [g_val, va_up_same]) (fun j _ h => va_up_other _ _ (by omega)) (fun _ _ _ => rfl)]
  · unfold g_cell
    rw [g_fs_same (I := I) (L := L) (fun j hj => va_up_other _ _ (by omega)) (fun _ _ => rfl)]
theorem g_setL {N : Nat} {cA : Nat → ClassId} {ad : Nat → Nat} {I : Nat → Int32} {A : Nat → Nat → Int32} {L : Nat → Int64} {a ci k : Nat} (hsh : g_sh a = (ci, 0)) (hci : ci < 8) (hf : (g_fds ci)[k]? = some (2, 0)) (v : Int64) : (gW N cA ad I A L).set a (ad a, .inr (ci, (g_fs ad I L a ci).set k (.long v))) = gW N cA ad I A (va_up L (16 * a + k) v) := by
  have hk16 : k < 16 := by
    have h1 := (List.getElem?_eq_some_iff.mp hf).1
    have h2 := g_fds_le ci
    omega
  refine gW_set (fun _ => ?_) (fun b hb hne => ?_)
  · rw [g_obj hsh hci, g_fs_up (I := I) (L := L) (v := .long v) hf (by simp [g_val, va_up_same]) (fun _ _ _ => rfl) (fun j _ h => va_up_other _ _ (by omega))]
  · unfold g_cell
    rw [g_fs_same (I := I) (L := L) (fun _ _ => rfl) (fun j hj => va_up_other _ _ (by omega))]
theorem g_setA {N : Nat} {cA : Nat → ClassId} {ad : Nat → Nat} {I : Nat → Int32} {A : Nat → Nat → Int32} {L : Nat → Int64} {a t n : Nat} (hsh : g_sh a = (8 + t, n)) (ht : t < 3) (f : Nat → Int32) : (gW N cA ad I A L).set a (ad a, .inl (cA a, n, .inl f)) = gW N cA ad I (va_up A a f) L := by
  refine gW_set (fun _ => ?_) (fun b hb hne => ?_)
  · rw [g_arr hsh, g_rowI hsh ht, va_up_same]
  · unfold g_cell g_row
    rw [va_up_other _ _ hne]
theorem gC_D {N : Nat} {own : String} {cc : ByteArray} {nL : Nat} {ret : Option FieldType} {p : Program} {s : State} {m : MethodId} {args : Array Value} {meth : Method} {c : Code} {dC : Nat → ClassId} {dI : Nat → Nat → Nat} {ad : Nat → Nat} {cA : Nat → ClassId} (hC : gCx N own cc nL ret p s m args meth c dC dI ad cA) (I : Nat → Int32) (A : Nat → Nat → Int32) (L : Nat → Int64) : va_D (gA N ad) (gW N cA ad I A L) := gW_D hC.2.2.2.2.2.2.2.2.2.1
/-! checks of the machine: outside them the road is not walked -/
def g_ck {τ : Type} (i : Int32) (n : Nat) (f : Option τ) : Option τ := if 0 ≤ i ∧ i.toNatClampNeg < n then f else none
def g_dv {τ : Type} (y : Int32) (f : Option τ) : Option τ := if y = 0 then none else f
def g_dl {τ : Type} (y : Int64) (f : Option τ) : Option τ := if y = 0 then none else f
def g_cp {τ : Type} (sp dp n : Int32) (n0 n1 : Nat) (f : Option τ) : Option τ := if (0 ≤ sp ∧ 0 ≤ dp ∧ 0 ≤ n) ∧ sp.toNatClampNeg + n.toNatClampNeg ≤ n0 ∧ dp.toNatClampNeg + n.toNatClampNeg ≤ n1 then f else none
def g_z {τ : Type} (v : Int32) (f : Option τ) : Option τ := if v = 0 ∨ v = 1 then f else none
def g_lt {α τ : Type} (x : α) (f : α → Option τ) : Option τ := f x
theorem g_ck_e {τ : Type} {i : Int32} {n : Nat} {f : Option τ} {t : τ} (h : g_ck i n f = some t) : vp_in i n ∧ f = some t := by
  unfold g_ck at h
  split at h
  next q => exact ⟨fun z => by rcases z with z | z
                               · exact absurd q.1 (Int32.not_le.mpr z)
                               · omega, h⟩
  next => cases h
theorem g_dv_e {τ : Type} {y : Int32} {f : Option τ} {t : τ} (h : g_dv y f = some t) : ¬ y = 0 ∧ f = some t := by
  unfold g_dv at h
  split at h
  next => cases h
  next q => exact ⟨q, h⟩
theorem g_dl_e {τ : Type} {y : Int64} {f : Option τ} {t : τ} (h : g_dl y f = some t) : ¬ y = 0 ∧ f = some t := by
  unfold g_dl at h
  split at h
  next => cases h
  next q => exact ⟨q, h⟩
theorem g_z_e {τ : Type} {v : Int32} {f : Option τ} {t : τ} (h : g_z v f = some t) : (v = 0 ∨ v = 1) ∧ f = some t := by
  unfold g_z at h
  split at h
  next q => exact ⟨q, h⟩
  next => cases h
theorem g_bd_e {α τ : Type} {F : Option α} {g : α → Option τ} {t : τ} (h : F.bind g = some t) : ∃ x, F = some x ∧ g x = some t := Option.bind_eq_some_iff.mp h
def g_b1 {τ : Type} (F : Option gS) (g : (Nat → Int32) → (Nat → Nat → Int32) → (Nat → Int64) → Option τ) : Option τ := F.bind (fun s => g s.1 s.2.1 s.2.2)
def g_b2 {α τ : Type} (F : Option (α × gS)) (g : α → (Nat → Int32) → (Nat → Nat → Int32) → (Nat → Int64) → Option τ) : Option τ := F.bind (fun s => g s.1 s.2.1 s.2.2.1 s.2.2.2)
theorem g_b1_e {τ : Type} {F : Option gS} {g : (Nat → Int32) → (Nat → Nat → Int32) → (Nat → Int64) → Option τ} {t : τ} (h : g_b1 F g = some t) : ∃ I A L, F = some (I, A, L) ∧ g I A L = some t := by
  obtain ⟨⟨I, A, L⟩, h1, h2⟩ := g_bd_e h
  exact ⟨I, A, L, h1, h2⟩
theorem g_b2_e {α τ : Type} {F : Option (α × gS)} {g : α → (Nat → Int32) → (Nat → Nat → Int32) → (Nat → Int64) → Option τ} {t : τ} (h : g_b2 F g = some t) : ∃ x I A L, F = some (x, I, A, L) ∧ g x I A L = some t := by
  obtain ⟨⟨x, I, A, L⟩, h1, h2⟩ := g_bd_e h
  exact ⟨x, I, A, L, h1, h2⟩
section EMem
variable {N : Nat} {own : String} {cc : ByteArray} {nL : Nat} {ret : Option FieldType} {d : Nat} {pc : Nat} {lc : List (Option Value)} {st : List Value} {I : Nat → Int32} {A : Nat → Nat → Int32} {L : Nat → Int64} {r : gR}
theorem e_getI {a ci k0 n idx : Nat} {pc' : Nat} (hd : decode cc pc = .ok (.getfield idx, 3)) (hp : pc + 3 = pc') (hsh : g_sh a = (ci, 0)) (ha : a < N) (hci : ci < 8) (hf : (g_fds ci)[k0]? = some (1, 0)) (hlink : Cond.fieldLink own idx ((g_cl ci).2.1 k0).1 ((g_cl ci).2.1 k0).2.1 ((g_cl ci).2.1 k0).2.2.1 ∈ gT) (hn : 16 * a + k0 = n) (k : Ev N own cc nL ret d pc' lc (.int (I n) :: st) I A L r) : Ev N own cc nL ret d pc lc (.ref a :: st) I A L r := by
  subst hp; subst hn
  intro p l e s m args below meth c dC dI ad cA hC H locs ls hP hS hl
  have hk : k0 < (g_cl ci).2.2 := by rw [← g_cn hci]; exact (List.getElem?_eq_some_iff.mp hf).1
  refine va_get (D := (dC, dI)) (C := (g_cl ci).1) (T := (g_cl ci).2.1) (N := (g_cl ci).2.2) hC.1 hC.2.1 hC.2.2.2.2.2.1 (g_cin hci) hC.2.2.2.2.1 hC.2.2.2.2.2.2.2.1 hP a (by rw [gW_get _ _ _ _ _ ha, g_obj hsh hci]) (g_cl_at hci) k0 hk (hC.2.2.2.2.2.1 _ hlink) (fun _ h9 => h9) (g_fs_get ad I L a ci hf) hd ?_
  exact (k p l e s m args below meth c dC dI ad cA hC H locs ls hP hS hl)
theorem e_getL {a ci k0 n idx : Nat} {pc' : Nat} (hd : decode cc pc = .ok (.getfield idx, 3)) (hp : pc + 3 = pc') (hsh : g_sh a = (ci, 0)) (ha : a < N) (hci : ci < 8) (hf : (g_fds ci)[k0]? = some (2, 0)) (hlink : Cond.fieldLink own idx ((g_cl ci).2.1 k0).1 ((g_cl ci).2.1 k0).2.1 ((g_cl ci).2.1 k0).2.2.1 ∈ gT) (hn : 16 * a + k0 = n) (k : Ev N own cc nL ret d pc' lc (.long (L n) :: st) I A L r) : Ev N own cc nL ret d pc lc (.ref a :: st) I A L r := by
  subst hp; subst hn
  intro p l e s m args below meth c dC dI ad cA hC H locs ls hP hS hl
  have hk : k0 < (g_cl ci).2.2 := by rw [← g_cn hci]; exact (List.getElem?_eq_some_iff.mp hf).1
  refine va_get (D := (dC, dI)) (C := (g_cl ci).1) (T := (g_cl ci).2.1) (N := (g_cl ci).2.2) hC.1 hC.2.1 hC.2.2.2.2.2.1 (g_cin hci) hC.2.2.2.2.1 hC.2.2.2.2.2.2.2.1 hP a (by rw [gW_get _ _ _ _ _ ha, g_obj hsh hci]) (g_cl_at hci) k0 hk (hC.2.2.2.2.2.1 _ hlink) (fun _ h9 => h9) (g_fs_get ad I L a ci hf) hd ?_
  exact (k p l e s m args below meth c dC dI ad cA hC H locs ls hP hS hl)
theorem e_getR {a ci k0 off b idx : Nat} {pc' : Nat} (hd : decode cc pc = .ok (.getfield idx, 3)) (hp : pc + 3 = pc') (hsh : g_sh a = (ci, 0)) (ha : a < N) (hci : ci < 8) (hf : (g_fds ci)[k0]? = some (0, off)) (hlink : Cond.fieldLink own idx ((g_cl ci).2.1 k0).1 ((g_cl ci).2.1 k0).2.1 ((g_cl ci).2.1 k0).2.2.1 ∈ gT) (hn : a + off = b) (k : Ev N own cc nL ret d pc' lc (.ref b :: st) I A L r) : Ev N own cc nL ret d pc lc (.ref a :: st) I A L r := by
  subst hp; subst hn
  intro p l e s m args below meth c dC dI ad cA hC H locs ls hP hS hl
  have hk : k0 < (g_cl ci).2.2 := by rw [← g_cn hci]; exact (List.getElem?_eq_some_iff.mp hf).1
  refine va_get (D := (dC, dI)) (C := (g_cl ci).1) (T := (g_cl ci).2.1) (N := (g_cl ci).2.2) hC.1 hC.2.1 hC.2.2.2.2.2.1 (g_cin hci) hC.2.2.2.2.1 hC.2.2.2.2.2.2.2.1 hP a (by rw [gW_get _ _ _ _ _ ha, g_obj hsh hci]) (g_cl_at hci) k0 hk (hC.2.2.2.2.2.1 _ hlink) (fun _ h9 => h9) (g_fs_get ad I L a ci hf) hd ?_
  exact (k p l e s m args below meth c dC dI ad cA hC H locs ls hP hS hl)
theorem e_putI {a ci k0 n idx : Nat} {v : Int32} {ty : FieldType} {pc' : Nat} (hd : decode cc pc = .ok (.putfield idx, 3)) (hp : pc + 3 = pc') (hsh : g_sh a = (ci, 0)) (ha : a < N) (hci : ci < 8) (hf : (g_fds ci)[k0]? = some (1, 0)) (hlink : Cond.fieldLink own idx ((g_cl ci).2.1 k0).1 ((g_cl ci).2.1 k0).2.1 ((g_cl ci).2.1 k0).2.2.1 ∈ gT) (hn : 16 * a + k0 = n) (hfin : ((g_cl ci).2.1 k0).2.2.2 = false) (hty : parseFieldDescriptor ((g_cl ci).2.1 k0).2.2.1 = some ty) (hnar : narrow ty (.int v) = .int v) (hfit : fits ty (.int v) = true) (k : Ev N own cc nL ret d pc' lc (st) (va_up I n v) A L r) : Ev N own cc nL ret d pc lc (.int v :: .ref a :: st) I A L r := by
  subst hp; subst hn
  intro p l e s m args below meth c dC dI ad cA hC H locs ls hP hS hl
  have hk : k0 < (g_cl ci).2.2 := by rw [← g_cn hci]; exact (List.getElem?_eq_some_iff.mp hf).1
  obtain ⟨ty0, ht1, ht2⟩ := g_cty hci
  refine va_put (D := (dC, dI)) (A := gA N ad) (H0 := s.heap) (ty := ty) (C := (g_cl ci).1) (T := (g_cl ci).2.1) (N := (g_cl ci).2.2) hC.1 hC.2.1 hC.2.2.2.2.2.1 (g_cin hci) ty0 ht1 ht2 hC.2.2.2.2.1 hC.2.2.2.2.2.2.2.1 hP (gC_D hC I A L) hS a (by rw [gW_get _ _ _ _ _ ha, g_obj hsh hci]) (g_cl_at hci) k0 hk (hC.2.2.2.2.2.1 _ hlink) (fun _ h9 => h9) hfin hty hnar hfit (by rw [g_fs_len]; exact (List.getElem?_eq_some_iff.mp hf).1) hd (fun H locs hP hD hS => ?_)
  have hP : va_P (dC, dI) vwCl ((gW N cA ad I A L).set a (ad a, .inr (ci, (g_fs ad I L a ci).set k0 (.int v)))) H := hP
  rw [g_setI hsh hci hf] at hP
  exact (k p l e s m args below meth c dC dI ad cA hC H locs ls hP hS hl)
theorem e_putL {a ci k0 n idx : Nat} {v : Int64} {ty : FieldType} {pc' : Nat} (hd : decode cc pc = .ok (.putfield idx, 3)) (hp : pc + 3 = pc') (hsh : g_sh a = (ci, 0)) (ha : a < N) (hci : ci < 8) (hf : (g_fds ci)[k0]? = some (2, 0)) (hlink : Cond.fieldLink own idx ((g_cl ci).2.1 k0).1 ((g_cl ci).2.1 k0).2.1 ((g_cl ci).2.1 k0).2.2.1 ∈ gT) (hn : 16 * a + k0 = n) (hfin : ((g_cl ci).2.1 k0).2.2.2 = false) (hty : parseFieldDescriptor ((g_cl ci).2.1 k0).2.2.1 = some ty) (hnar : narrow ty (.long v) = .long v) (hfit : fits ty (.long v) = true) (k : Ev N own cc nL ret d pc' lc (st) I A (va_up L n v) r) : Ev N own cc nL ret d pc lc (.long v :: .ref a :: st) I A L r := by
  subst hp; subst hn
  intro p l e s m args below meth c dC dI ad cA hC H locs ls hP hS hl
  have hk : k0 < (g_cl ci).2.2 := by rw [← g_cn hci]; exact (List.getElem?_eq_some_iff.mp hf).1
  obtain ⟨ty0, ht1, ht2⟩ := g_cty hci
  refine va_put (D := (dC, dI)) (A := gA N ad) (H0 := s.heap) (ty := ty) (C := (g_cl ci).1) (T := (g_cl ci).2.1) (N := (g_cl ci).2.2) hC.1 hC.2.1 hC.2.2.2.2.2.1 (g_cin hci) ty0 ht1 ht2 hC.2.2.2.2.1 hC.2.2.2.2.2.2.2.1 hP (gC_D hC I A L) hS a (by rw [gW_get _ _ _ _ _ ha, g_obj hsh hci]) (g_cl_at hci) k0 hk (hC.2.2.2.2.2.1 _ hlink) (fun _ h9 => h9) hfin hty hnar hfit (by rw [g_fs_len]; exact (List.getElem?_eq_some_iff.mp hf).1) hd (fun H locs hP hD hS => ?_)
  have hP : va_P (dC, dI) vwCl ((gW N cA ad I A L).set a (ad a, .inr (ci, (g_fs ad I L a ci).set k0 (.long v)))) H := hP
  rw [g_setL hsh hci hf] at hP
  exact (k p l e s m args below meth c dC dI ad cA hC H locs ls hP hS hl)
theorem e_getIN {host : String} {a ci k0 n idx : Nat} {pc' : Nat} (hd : decode cc pc = .ok (.getfield idx, 3)) (hp : pc + 3 = pc') (hsh : g_sh a = (ci, 0)) (ha : a < N) (hci : ci < 8) (hf : (g_fds ci)[k0]? = some (1, 0)) (hlink : Cond.fieldLinkNest own idx ((g_cl ci).2.1 k0).1 ((g_cl ci).2.1 k0).2.1 ((g_cl ci).2.1 k0).2.2.1 host ∈ lw_tbl) (hn : 16 * a + k0 = n) (k : Ev N own cc nL ret d pc' lc (.int (I n) :: st) I A L r) : Ev N own cc nL ret d pc lc (.ref a :: st) I A L r := by
  subst hp; subst hn
  intro p l e s m args below meth c dC dI ad cA hC H locs ls hP hS hl
  have hk : k0 < (g_cl ci).2.2 := by rw [← g_cn hci]; exact (List.getElem?_eq_some_iff.mp hf).1
  refine va_getN (D := (dC, dI)) (C := (g_cl ci).1) (T := (g_cl ci).2.1) (N := (g_cl ci).2.2) hC.1 hC.2.1 hC.2.2.2.2.2.1 (g_cin hci) hC.2.2.2.2.1 hC.2.2.2.2.2.2.2.1 hP a (by rw [gW_get _ _ _ _ _ ha, g_obj hsh hci]) (g_cl_at hci) k0 hk (va_Nw.use rfl (hC.2.2.2.2.2.2.2.2.1 _ hlink rfl)) (fun _ h9 => h9) (g_fs_get ad I L a ci hf) hd ?_
  exact (k p l e s m args below meth c dC dI ad cA hC H locs ls hP hS hl)
theorem e_getLN {host : String} {a ci k0 n idx : Nat} {pc' : Nat} (hd : decode cc pc = .ok (.getfield idx, 3)) (hp : pc + 3 = pc') (hsh : g_sh a = (ci, 0)) (ha : a < N) (hci : ci < 8) (hf : (g_fds ci)[k0]? = some (2, 0)) (hlink : Cond.fieldLinkNest own idx ((g_cl ci).2.1 k0).1 ((g_cl ci).2.1 k0).2.1 ((g_cl ci).2.1 k0).2.2.1 host ∈ lw_tbl) (hn : 16 * a + k0 = n) (k : Ev N own cc nL ret d pc' lc (.long (L n) :: st) I A L r) : Ev N own cc nL ret d pc lc (.ref a :: st) I A L r := by
  subst hp; subst hn
  intro p l e s m args below meth c dC dI ad cA hC H locs ls hP hS hl
  have hk : k0 < (g_cl ci).2.2 := by rw [← g_cn hci]; exact (List.getElem?_eq_some_iff.mp hf).1
  refine va_getN (D := (dC, dI)) (C := (g_cl ci).1) (T := (g_cl ci).2.1) (N := (g_cl ci).2.2) hC.1 hC.2.1 hC.2.2.2.2.2.1 (g_cin hci) hC.2.2.2.2.1 hC.2.2.2.2.2.2.2.1 hP a (by rw [gW_get _ _ _ _ _ ha, g_obj hsh hci]) (g_cl_at hci) k0 hk (va_Nw.use rfl (hC.2.2.2.2.2.2.2.2.1 _ hlink rfl)) (fun _ h9 => h9) (g_fs_get ad I L a ci hf) hd ?_
  exact (k p l e s m args below meth c dC dI ad cA hC H locs ls hP hS hl)
theorem e_getRN {host : String} {a ci k0 off b idx : Nat} {pc' : Nat} (hd : decode cc pc = .ok (.getfield idx, 3)) (hp : pc + 3 = pc') (hsh : g_sh a = (ci, 0)) (ha : a < N) (hci : ci < 8) (hf : (g_fds ci)[k0]? = some (0, off)) (hlink : Cond.fieldLinkNest own idx ((g_cl ci).2.1 k0).1 ((g_cl ci).2.1 k0).2.1 ((g_cl ci).2.1 k0).2.2.1 host ∈ lw_tbl) (hn : a + off = b) (k : Ev N own cc nL ret d pc' lc (.ref b :: st) I A L r) : Ev N own cc nL ret d pc lc (.ref a :: st) I A L r := by
  subst hp; subst hn
  intro p l e s m args below meth c dC dI ad cA hC H locs ls hP hS hl
  have hk : k0 < (g_cl ci).2.2 := by rw [← g_cn hci]; exact (List.getElem?_eq_some_iff.mp hf).1
  refine va_getN (D := (dC, dI)) (C := (g_cl ci).1) (T := (g_cl ci).2.1) (N := (g_cl ci).2.2) hC.1 hC.2.1 hC.2.2.2.2.2.1 (g_cin hci) hC.2.2.2.2.1 hC.2.2.2.2.2.2.2.1 hP a (by rw [gW_get _ _ _ _ _ ha, g_obj hsh hci]) (g_cl_at hci) k0 hk (va_Nw.use rfl (hC.2.2.2.2.2.2.2.2.1 _ hlink rfl)) (fun _ h9 => h9) (g_fs_get ad I L a ci hf) hd ?_
  exact (k p l e s m args below meth c dC dI ad cA hC H locs ls hP hS hl)
theorem e_putIN {host : String} {a ci k0 n idx : Nat} {v : Int32} {ty : FieldType} {pc' : Nat} (hd : decode cc pc = .ok (.putfield idx, 3)) (hp : pc + 3 = pc') (hsh : g_sh a = (ci, 0)) (ha : a < N) (hci : ci < 8) (hf : (g_fds ci)[k0]? = some (1, 0)) (hlink : Cond.fieldLinkNest own idx ((g_cl ci).2.1 k0).1 ((g_cl ci).2.1 k0).2.1 ((g_cl ci).2.1 k0).2.2.1 host ∈ lw_tbl) (hn : 16 * a + k0 = n) (hfin : ((g_cl ci).2.1 k0).2.2.2 = false) (hty : parseFieldDescriptor ((g_cl ci).2.1 k0).2.2.1 = some ty) (hnar : narrow ty (.int v) = .int v) (hfit : fits ty (.int v) = true) (k : Ev N own cc nL ret d pc' lc (st) (va_up I n v) A L r) : Ev N own cc nL ret d pc lc (.int v :: .ref a :: st) I A L r := by
  subst hp; subst hn
  intro p l e s m args below meth c dC dI ad cA hC H locs ls hP hS hl
  have hk : k0 < (g_cl ci).2.2 := by rw [← g_cn hci]; exact (List.getElem?_eq_some_iff.mp hf).1
  obtain ⟨ty0, ht1, ht2⟩ := g_cty hci
  refine va_putN (D := (dC, dI)) (A := gA N ad) (H0 := s.heap) (ty := ty) (C := (g_cl ci).1) (T := (g_cl ci).2.1) (N := (g_cl ci).2.2) hC.1 hC.2.1 hC.2.2.2.2.2.1 (g_cin hci) ty0 ht1 ht2 hC.2.2.2.2.1 hC.2.2.2.2.2.2.2.1 hP (gC_D hC I A L) hS a (by rw [gW_get _ _ _ _ _ ha, g_obj hsh hci]) (g_cl_at hci) k0 hk (va_Nw.use rfl (hC.2.2.2.2.2.2.2.2.1 _ hlink rfl)) (fun _ h9 => h9) hfin hty hnar hfit (by rw [g_fs_len]; exact (List.getElem?_eq_some_iff.mp hf).1) hd (fun H locs hP hD hS => ?_)
  have hP : va_P (dC, dI) vwCl ((gW N cA ad I A L).set a (ad a, .inr (ci, (g_fs ad I L a ci).set k0 (.int v)))) H := hP
  rw [g_setI hsh hci hf] at hP
  exact (k p l e s m args below meth c dC dI ad cA hC H locs ls hP hS hl)
theorem e_putLN {host : String} {a ci k0 n idx : Nat} {v : Int64} {ty : FieldType} {pc' : Nat} (hd : decode cc pc = .ok (.putfield idx, 3)) (hp : pc + 3 = pc') (hsh : g_sh a = (ci, 0)) (ha : a < N) (hci : ci < 8) (hf : (g_fds ci)[k0]? = some (2, 0)) (hlink : Cond.fieldLinkNest own idx ((g_cl ci).2.1 k0).1 ((g_cl ci).2.1 k0).2.1 ((g_cl ci).2.1 k0).2.2.1 host ∈ lw_tbl) (hn : 16 * a + k0 = n) (hfin : ((g_cl ci).2.1 k0).2.2.2 = false) (hty : parseFieldDescriptor ((g_cl ci).2.1 k0).2.2.1 = some ty) (hnar : narrow ty (.long v) = .long v) (hfit : fits ty (.long v) = true) (k : Ev N own cc nL ret d pc' lc (st) I A (va_up L n v) r) : Ev N own cc nL ret d pc lc (.long v :: .ref a :: st) I A L r := by
  subst hp; subst hn
  intro p l e s m args below meth c dC dI ad cA hC H locs ls hP hS hl
  have hk : k0 < (g_cl ci).2.2 := by rw [← g_cn hci]; exact (List.getElem?_eq_some_iff.mp hf).1
  obtain ⟨ty0, ht1, ht2⟩ := g_cty hci
  refine va_putN (D := (dC, dI)) (A := gA N ad) (H0 := s.heap) (ty := ty) (C := (g_cl ci).1) (T := (g_cl ci).2.1) (N := (g_cl ci).2.2) hC.1 hC.2.1 hC.2.2.2.2.2.1 (g_cin hci) ty0 ht1 ht2 hC.2.2.2.2.1 hC.2.2.2.2.2.2.2.1 hP (gC_D hC I A L) hS a (by rw [gW_get _ _ _ _ _ ha, g_obj hsh hci]) (g_cl_at hci) k0 hk (va_Nw.use rfl (hC.2.2.2.2.2.2.2.2.1 _ hlink rfl)) (fun _ h9 => h9) hfin hty hnar hfit (by rw [g_fs_len]; exact (List.getElem?_eq_some_iff.mp hf).1) hd (fun H locs hP hD hS => ?_)
  have hP : va_P (dC, dI) vwCl ((gW N cA ad I A L).set a (ad a, .inr (ci, (g_fs ad I L a ci).set k0 (.long v)))) H := hP
  rw [g_setL hsh hci hf] at hP
  exact (k p l e s m args below meth c dC dI ad cA hC H locs ls hP hS hl)
theorem e_iald {τ : Type} {f : Option τ} {t : τ} {a n : Nat} {i : Int32} {pc' : Nat} (hd : decode cc pc = .ok (.iaload, 1)) (hp : pc + 1 = pc') (hsh : g_sh a = (8 + 0, n)) (ha : a < N) (h : g_ck i n f = some t) (k : f = some t → Ev N own cc nL ret d pc' lc (.int (A a i.toNatClampNeg) :: st) I A L r) : Ev N own cc nL ret d pc lc (.int i :: .ref a :: st) I A L r := by
  subst hp
  obtain ⟨hin, hf⟩ := g_ck_e h
  have k := k hf
  intro p l e s m args below meth c dC dI ad cA hC H locs ls hP hS hl
  refine va_iald (D := (dC, dI)) (f := A a) hC.1 hC.2.1 hC.2.2.2.2.2.2.2.1 hP a a (by rw [gW_get _ _ _ _ _ ha, g_arr hsh, g_rowI hsh (by omega)]) (g_tyat ha hsh) hin hd ?_
  exact (k p l e s m args below meth c dC dI ad cA hC H locs ls hP hS hl)
theorem e_iast {τ : Type} {f : Option τ} {t : τ} {a n : Nat} {i x : Int32} {pc' : Nat} (hd : decode cc pc = .ok (.iastore, 1)) (hp : pc + 1 = pc') (hsh : g_sh a = (8 + 0, n)) (ha : a < N) (h : g_ck i n f = some t) (k : f = some t → Ev N own cc nL ret d pc' lc (st) I (va_up A a (upd (A a) i.toNatClampNeg x)) L r) : Ev N own cc nL ret d pc lc (.int x :: .int i :: .ref a :: st) I A L r := by
  subst hp
  obtain ⟨hin, hf⟩ := g_ck_e h
  have k := k hf
  intro p l e s m args below meth c dC dI ad cA hC H locs ls hP hS hl
  refine va_iast (D := (dC, dI)) (A := gA N ad) (H0 := s.heap) (f := A a) hC.1 hC.2.1 hC.2.2.2.2.2.2.2.1 hP (gC_D hC I A L) hS a a (by rw [gW_get _ _ _ _ _ ha, g_arr hsh, g_rowI hsh (by omega)]) (g_tyat ha hsh) hin hd (fun H locs hP hD hS => ?_)
  rw [g_setA hsh (by omega)] at hP
  exact (k p l e s m args below meth c dC dI ad cA hC H locs ls hP hS hl)
theorem e_ilen {a n : Nat} {v : Int32} {pc' : Nat} (hd : decode cc pc = .ok (.arraylength, 1)) (hp : pc + 1 = pc') (hsh : g_sh a = (8 + 0, n)) (ha : a < N) (hv : Int32.ofNat n = v) (k : Ev N own cc nL ret d pc' lc (.int v :: st) I A L r) : Ev N own cc nL ret d pc lc (.ref a :: st) I A L r := by
  subst hp
  intro p l e s m args below meth c dC dI ad cA hC H locs ls hP hS hl
  refine va_alen (D := (dC, dI)) hC.1 hC.2.1 hC.2.2.2.2.2.2.2.1 hP a a (by rw [gW_get _ _ _ _ _ ha, g_arr hsh]) (ty := .int) (g_tyat ha hsh) hv hd ?_
  exact (k p l e s m args below meth c dC dI ad cA hC H locs ls hP hS hl)
theorem e_bald {τ : Type} {f : Option τ} {t : τ} {a n : Nat} {i : Int32} {pc' : Nat} (hd : decode cc pc = .ok (.baload, 1)) (hp : pc + 1 = pc') (hsh : g_sh a = (8 + 1, n)) (ha : a < N) (h : g_ck i n f = some t) (k : f = some t → Ev N own cc nL ret d pc' lc (.int (A a i.toNatClampNeg) :: st) I A L r) : Ev N own cc nL ret d pc lc (.int i :: .ref a :: st) I A L r := by
  subst hp
  obtain ⟨hin, hf⟩ := g_ck_e h
  have k := k hf
  intro p l e s m args below meth c dC dI ad cA hC H locs ls hP hS hl
  refine va_bald (D := (dC, dI)) (f := A a) hC.1 hC.2.1 hC.2.2.2.2.2.2.2.1 hP a a (by rw [gW_get _ _ _ _ _ ha, g_arr hsh, g_rowI hsh (by omega)]) (g_tyat ha hsh) hin hd ?_
  exact (k p l e s m args below meth c dC dI ad cA hC H locs ls hP hS hl)
theorem e_bast {τ : Type} {f : Option τ} {t : τ} {a n : Nat} {i x : Int32} {pc' : Nat} (hd : decode cc pc = .ok (.bastore, 1)) (hp : pc + 1 = pc') (hsh : g_sh a = (8 + 1, n)) (ha : a < N) (h : g_ck i n f = some t) (k : f = some t → Ev N own cc nL ret d pc' lc (st) I (va_up A a (upd (A a) i.toNatClampNeg (vp_nar .byte x))) L r) : Ev N own cc nL ret d pc lc (.int x :: .int i :: .ref a :: st) I A L r := by
  subst hp
  obtain ⟨hin, hf⟩ := g_ck_e h
  have k := k hf
  intro p l e s m args below meth c dC dI ad cA hC H locs ls hP hS hl
  refine va_bast (D := (dC, dI)) (A := gA N ad) (H0 := s.heap) (f := A a) hC.1 hC.2.1 hC.2.2.2.2.2.2.2.1 hP (gC_D hC I A L) hS a a (by rw [gW_get _ _ _ _ _ ha, g_arr hsh, g_rowI hsh (by omega)]) (g_tyat ha hsh) hin hd (fun H locs hP hD hS => ?_)
  rw [g_setA hsh (by omega)] at hP
  exact (k p l e s m args below meth c dC dI ad cA hC H locs ls hP hS hl)
theorem e_blen {a n : Nat} {v : Int32} {pc' : Nat} (hd : decode cc pc = .ok (.arraylength, 1)) (hp : pc + 1 = pc') (hsh : g_sh a = (8 + 1, n)) (ha : a < N) (hv : Int32.ofNat n = v) (k : Ev N own cc nL ret d pc' lc (.int v :: st) I A L r) : Ev N own cc nL ret d pc lc (.ref a :: st) I A L r := by
  subst hp
  intro p l e s m args below meth c dC dI ad cA hC H locs ls hP hS hl
  refine va_alen (D := (dC, dI)) hC.1 hC.2.1 hC.2.2.2.2.2.2.2.1 hP a a (by rw [gW_get _ _ _ _ _ ha, g_arr hsh]) (ty := .byte) (g_tyat ha hsh) hv hd ?_
  exact (k p l e s m args below meth c dC dI ad cA hC H locs ls hP hS hl)
theorem e_zald {τ : Type} {f : Option τ} {t : τ} {a n : Nat} {i : Int32} {pc' : Nat} (hd : decode cc pc = .ok (.baload, 1)) (hp : pc + 1 = pc') (hsh : g_sh a = (8 + 2, n)) (ha : a < N) (h : g_ck i n f = some t) (k : f = some t → Ev N own cc nL ret d pc' lc (.int (A a i.toNatClampNeg) :: st) I A L r) : Ev N own cc nL ret d pc lc (.int i :: .ref a :: st) I A L r := by
  subst hp
  obtain ⟨hin, hf⟩ := g_ck_e h
  have k := k hf
  intro p l e s m args below meth c dC dI ad cA hC H locs ls hP hS hl
  refine va_zald (D := (dC, dI)) (f := A a) hC.1 hC.2.1 hC.2.2.2.2.2.2.2.1 hP a a (by rw [gW_get _ _ _ _ _ ha, g_arr hsh, g_rowI hsh (by omega)]) (g_tyat ha hsh) hin hd ?_
  exact (k p l e s m args below meth c dC dI ad cA hC H locs ls hP hS hl)
theorem e_zast {τ : Type} {f : Option τ} {t : τ} {a n : Nat} {i x : Int32} {pc' : Nat} (hd : decode cc pc = .ok (.bastore, 1)) (hp : pc + 1 = pc') (hsh : g_sh a = (8 + 2, n)) (ha : a < N) (h : g_ck i n f = some t) (k : f = some t → Ev N own cc nL ret d pc' lc (st) I (va_up A a (upd (A a) i.toNatClampNeg (vp_nar .boolean x))) L r) : Ev N own cc nL ret d pc lc (.int x :: .int i :: .ref a :: st) I A L r := by
  subst hp
  obtain ⟨hin, hf⟩ := g_ck_e h
  have k := k hf
  intro p l e s m args below meth c dC dI ad cA hC H locs ls hP hS hl
  refine va_zast (D := (dC, dI)) (A := gA N ad) (H0 := s.heap) (f := A a) hC.1 hC.2.1 hC.2.2.2.2.2.2.2.1 hP (gC_D hC I A L) hS a a (by rw [gW_get _ _ _ _ _ ha, g_arr hsh, g_rowI hsh (by omega)]) (g_tyat ha hsh) hin hd (fun H locs hP hD hS => ?_)
  rw [g_setA hsh (by omega)] at hP
  exact (k p l e s m args below meth c dC dI ad cA hC H locs ls hP hS hl)
theorem e_zlen {a n : Nat} {v : Int32} {pc' : Nat} (hd : decode cc pc = .ok (.arraylength, 1)) (hp : pc + 1 = pc') (hsh : g_sh a = (8 + 2, n)) (ha : a < N) (hv : Int32.ofNat n = v) (k : Ev N own cc nL ret d pc' lc (.int v :: st) I A L r) : Ev N own cc nL ret d pc lc (.ref a :: st) I A L r := by
  subst hp
  intro p l e s m args below meth c dC dI ad cA hC H locs ls hP hS hl
  refine va_alen (D := (dC, dI)) hC.1 hC.2.1 hC.2.2.2.2.2.2.2.1 hP a a (by rw [gW_get _ _ _ _ _ ha, g_arr hsh]) (ty := .boolean) (g_tyat ha hsh) hv hd ?_
  exact (k p l e s m args below meth c dC dI ad cA hC H locs ls hP hS hl)
/-- the ring of States: five rows of planes, cells 13, 18, .. 33 -/
theorem e_ring {τ : Type} {f : Option τ} {t : τ} {i : Int32} {pc' : Nat} (hd : decode cc pc = .ok (.aaload, 1)) (hp : pc + 1 = pc') (ha : 12 < N) (h : g_ck i 5 f = some t) (k : f = some t → i.toNatClampNeg < 5 → Ev N own cc nL ret d pc' lc (.ref (13 + 5 * i.toNatClampNeg) :: st) I A L r) : Ev N own cc nL ret d pc lc (.int i :: .ref 12 :: st) I A L r := by
  subst hp
  obtain ⟨hin, hf⟩ := g_ck_e h
  have k := k hf (Nat.not_le.mp fun q => hin (Or.inr q))
  intro p l e s m args below meth c dC dI ad cA hC H locs ls hP hS hl
  refine va_aldq (D := (dC, dI)) (C := RX2) (f := fun j => some (ad (13 + 5 * j))) hC.1 hC.2.1 hC.2.2.2.2.2.2.2.1 hP 12 12 (by rw [gW_get _ _ _ _ _ ha, g_arr (t := 3) (n := 5) rfl]; rfl) (g_tyat ha (t := 11) (n := 5) rfl) hin hd ?_
  exact (k p l e s m args below meth c dC dI ad cA hC H locs ls hP hS hl)
theorem e_getsF {idx : Nat} {pc' : Nat} (hd : decode cc pc = .ok (.getstatic idx, 3)) (hp : pc + 3 = pc') (hlink : Cond.fieldLink own idx RX6 "TURN_FROM" "[I" ∈ gT) (k : Ev N own cc nL ret d pc' lc (.ref 70 :: st) I A L r) : Ev N own cc nL ret d pc lc (st) I A L r := by
  subst hp
  intro p l e s m args below meth c dC dI ad cA hC H locs ls hP hS hl
  exact va_gets hC.1 hC.2.1 hC.2.2.2.2.2.2.2.2.2.2.1.1 hS hC.2.2.2.2.1 (hC.2.2.2.2.2.1 _ hlink) (fun _ h => h) hd (k p l e s m args below meth c dC dI ad cA hC H locs ls hP hS hl)
theorem e_getsS {idx : Nat} {pc' : Nat} (hd : decode cc pc = .ok (.getstatic idx, 3)) (hp : pc + 3 = pc') (hlink : Cond.fieldLink own idx RX6 "TURN_SIGN" "[I" ∈ gT) (k : Ev N own cc nL ret d pc' lc (.ref 71 :: st) I A L r) : Ev N own cc nL ret d pc lc (st) I A L r := by
  subst hp
  intro p l e s m args below meth c dC dI ad cA hC H locs ls hP hS hl
  exact va_gets hC.1 hC.2.1 hC.2.2.2.2.2.2.2.2.2.2.2.1 hS hC.2.2.2.2.1 (hC.2.2.2.2.2.1 _ hlink) (fun _ h => h) hd (k p l e s m args below meth c dC dI ad cA hC H locs ls hP hS hl)
theorem e_tlen {pc' : Nat} (hd : decode cc pc = .ok (.arraylength, 1)) (hp : pc + 1 = pc') (k : Ev N own cc nL ret d pc' lc (.int 18 :: st) I A L r) : Ev N own cc nL ret d pc lc (.ref 70 :: st) I A L r := by
  subst hp
  intro p l e s m args below meth c dC dI ad cA hC H locs ls hP hS hl
  exact va_tlen hC.1 hC.2.1 hC.2.2.2.2.2.2.2.2.2.2.1.2 hS rfl hd (k p l e s m args below meth c dC dI ad cA hC H locs ls hP hS hl)
theorem e_tfld {τ : Type} {f : Option τ} {t : τ} {i : Int32} {pc' : Nat} (hd : decode cc pc = .ok (.iaload, 1)) (hp : pc + 1 = pc') (h : g_ck i 18 f = some t) (k : f = some t → Ev N own cc nL ret d pc' lc (.int (g_tf.getD i.toNatClampNeg 0) :: st) I A L r) : Ev N own cc nL ret d pc lc (.int i :: .ref 70 :: st) I A L r := by
  subst hp
  obtain ⟨hin, hf⟩ := g_ck_e h
  have k := k hf
  intro p l e s m args below meth c dC dI ad cA hC H locs ls hP hS hl
  exact va_ti hC.1 hC.2.1 hC.2.2.2.2.2.2.2.2.2.2.1.2 hS hin rfl hd (k p l e s m args below meth c dC dI ad cA hC H locs ls hP hS hl)
theorem e_tsld {τ : Type} {f : Option τ} {t : τ} {i : Int32} {pc' : Nat} (hd : decode cc pc = .ok (.iaload, 1)) (hp : pc + 1 = pc') (h : g_ck i 18 f = some t) (k : f = some t → Ev N own cc nL ret d pc' lc (.int (g_ts.getD i.toNatClampNeg 0) :: st) I A L r) : Ev N own cc nL ret d pc lc (.int i :: .ref 71 :: st) I A L r := by
  subst hp
  obtain ⟨hin, hf⟩ := g_ck_e h
  have k := k hf
  intro p l e s m args below meth c dC dI ad cA hC H locs ls hP hS hl
  exact va_ti hC.1 hC.2.1 hC.2.2.2.2.2.2.2.2.2.2.2.2 hS hin rfl hd (k p l e s m args below meth c dC dI ad cA hC H locs ls hP hS hl)

theorem e_mmax {x y : Int32} {idx : Nat} {pc' : Nat} (hd : decode cc pc = .ok (.invokestatic idx, 3)) (hp : pc + 3 = pc') (hlink : Cond.methodLink own idx Lib.Math.max.name ∈ gT) (hw1 : Cond.static Lib.Math.max.name ∈ gT) (hw2 : Cond.initialized RJ9 ∈ gT) (hw3 : Cond.code Lib.Math.max.name Lib.Math.max.code 2 (some .int) ∈ gT) (hdd : 1 ≤ d) (hst : (st.map fun v => v.category).sum ≤ 8) (k : Ev N own cc nL ret d pc' lc (.int (if x < y then y else x) :: st) I A L r) : Ev N own cc nL ret d pc lc (.int y :: .int x :: st) I A L r := by
  subst hp
  intro p l e s m args below meth c dC dI ad cA hC H locs ls hP hS hl
  have hst' : ((st.map (cv ad)).map fun v => v.category).sum ≤ 8 := by
    rw [List.map_map]
    rw [show ((fun v : Value => v.category) ∘ cv ad) = (fun v : Value => v.category) from funext (fun v => cv_cat ad v)]
    exact hst
  exact va_mmax hC.1 hC.2.1 (hC.2.2.2.1.trans hl.1.symm) hC.2.2.2.2.1 (hC.2.2.2.2.2.1 _ hlink) (hC.2.2.2.2.2.1 _ hw1) (hC.2.2.2.2.2.1 _ hw2) (hC.2.2.2.2.2.1 _ hw3) hdd (by show _ + 13 ≤ 39 * d; omega) (Nat.zero_le _) (Nat.zero_le _) hd (k p l e s m args below meth c dC dI ad cA hC H locs ls hP hS hl)
theorem e_mmin {x y : Int32} {idx : Nat} {pc' : Nat} (hd : decode cc pc = .ok (.invokestatic idx, 3)) (hp : pc + 3 = pc') (hlink : Cond.methodLink own idx Lib.Math.min.name ∈ gT) (hw1 : Cond.static Lib.Math.min.name ∈ gT) (hw2 : Cond.initialized RJ9 ∈ gT) (hw3 : Cond.code Lib.Math.min.name Lib.Math.min.code 2 (some .int) ∈ gT) (hdd : 1 ≤ d) (hst : (st.map fun v => v.category).sum ≤ 8) (k : Ev N own cc nL ret d pc' lc (.int (if y < x then y else x) :: st) I A L r) : Ev N own cc nL ret d pc lc (.int y :: .int x :: st) I A L r := by
  subst hp
  intro p l e s m args below meth c dC dI ad cA hC H locs ls hP hS hl
  have hst' : ((st.map (cv ad)).map fun v => v.category).sum ≤ 8 := by
    rw [List.map_map]
    rw [show ((fun v : Value => v.category) ∘ cv ad) = (fun v : Value => v.category) from funext (fun v => cv_cat ad v)]
    exact hst
  exact va_mmin hC.1 hC.2.1 (hC.2.2.2.1.trans hl.1.symm) hC.2.2.2.2.1 (hC.2.2.2.2.2.1 _ hlink) (hC.2.2.2.2.2.1 _ hw1) (hC.2.2.2.2.2.1 _ hw2) (hC.2.2.2.2.2.1 _ hw3) hdd (by show _ + 13 ≤ 39 * d; omega) (Nat.zero_le _) (Nat.zero_le _) hd (k p l e s m args below meth c dC dI ad cA hC H locs ls hP hS hl)
theorem e_mabs {x : Int32} {idx : Nat} {pc' : Nat} (hd : decode cc pc = .ok (.invokestatic idx, 3)) (hp : pc + 3 = pc') (hlink : Cond.methodLink own idx Lib.Math.abs.name ∈ gT) (hw1 : Cond.static Lib.Math.abs.name ∈ gT) (hw2 : Cond.initialized RJ9 ∈ gT) (hw3 : Cond.code Lib.Math.abs.name Lib.Math.abs.code 1 (some .int) ∈ gT) (hdd : 1 ≤ d) (hst : (st.map fun v => v.category).sum ≤ 8) (k : Ev N own cc nL ret d pc' lc (.int (if 0 ≤ x then x else 0 - x) :: st) I A L r) : Ev N own cc nL ret d pc lc (.int x :: st) I A L r := by
  subst hp
  intro p l e s m args below meth c dC dI ad cA hC H locs ls hP hS hl
  have hst' : ((st.map (cv ad)).map fun v => v.category).sum ≤ 8 := by
    rw [List.map_map]
    rw [show ((fun v : Value => v.category) ∘ cv ad) = (fun v : Value => v.category) from funext (fun v => cv_cat ad v)]
    exact hst
  exact va_mabs hC.1 hC.2.1 (hC.2.2.2.1.trans hl.1.symm) hC.2.2.2.2.1 (hC.2.2.2.2.2.1 _ hlink) (hC.2.2.2.2.2.1 _ hw1) (hC.2.2.2.2.2.1 _ hw2) (hC.2.2.2.2.2.1 _ hw3) hdd (by show _ + 13 ≤ 39 * d; omega) (Nat.zero_le _) (Nat.zero_le _) hd (k p l e s m args below meth c dC dI ad cA hC H locs ls hP hS hl)
theorem g_cp_e {τ : Type} {sp dp n : Int32} {n0 n1 : Nat} {f : Option τ} {t : τ} (h : g_cp sp dp n n0 n1 f = some t) : (¬ sp < 0 ∧ ¬ dp < 0 ∧ ¬ n < 0 ∧ sp.toNatClampNeg + n.toNatClampNeg ≤ n0 ∧ dp.toNatClampNeg + n.toNatClampNeg ≤ n1) ∧ f = some t := by
  unfold g_cp at h
  split at h
  next q => exact ⟨⟨Int32.not_lt.mpr q.1.1, Int32.not_lt.mpr q.1.2.1, Int32.not_lt.mpr q.1.2.2, q.2.1, q.2.2⟩, h⟩
  next => cases h
theorem e_copy {τ : Type} {f : Option τ} {t : τ} {a0 a n0 n1 idx : Nat} {sp dp n : Int32} {pc' : Nat} (hd : decode cc pc = .ok (.invokestatic idx, 3)) (hp : pc + 3 = pc') (hlink : Cond.methodLink own idx arraycopyName ∈ gT) (hw1 : Cond.native arraycopyName ∈ gT) (hw2 : Cond.static arraycopyName ∈ gT) (hw3 : Cond.initialized RJ10 ∈ gT) (hdd : 1 ≤ d) (hst : (st.map fun v => v.category).sum ≤ 8) (hs0 : g_sh a0 = (8 + 0, n0)) (ha0 : a0 < N) (hs1 : g_sh a = (8 + 0, n1)) (ha1 : a < N) (h : g_cp sp dp n n0 n1 f = some t) (k : f = some t → Ev N own cc nL ret d pc' lc (st) I (va_up A a (va_cpy (A a0) (A a) sp.toNatClampNeg dp.toNatClampNeg n.toNatClampNeg)) L r) : Ev N own cc nL ret d pc lc (.int n :: .int dp :: .ref a :: .int sp :: .ref a0 :: st) I A L r := by
  subst hp
  obtain ⟨⟨q1, q2, q3, q4, q5⟩, hf⟩ := g_cp_e h
  have k := k hf
  intro p l e s m args below meth c dC dI ad cA hC H locs ls hP hS hl
  have hst' : ((st.map (cv ad)).map fun v => v.category).sum ≤ 8 := by
    rw [List.map_map]
    rw [show ((fun v : Value => v.category) ∘ cv ad) = (fun v : Value => v.category) from funext (fun v => cv_cat ad v)]
    exact hst
  refine va_copyi (D := (dC, dI)) (A := gA N ad) (H0 := s.heap) (f := A a0) (g := A a) hC.1 hC.2.1 (hC.2.2.2.1.trans hl.1.symm) hC.2.2.2.2.1 (hC.2.2.2.2.2.1 _ hlink) (hC.2.2.2.2.2.1 _ hw1) (hC.2.2.2.2.2.1 _ hw2) (hC.2.2.2.2.2.1 _ hw3) hC.2.2.2.2.2.2.2.1 hP (gC_D hC I A L) hS a0 a a0 a (by rw [gW_get _ _ _ _ _ ha0, g_arr hs0, g_rowI hs0 (by omega)]) (by rw [gW_get _ _ _ _ _ ha1, g_arr hs1, g_rowI hs1 (by omega)]) (ty := .int) (g_tyat ha0 hs0) (g_tyat ha1 hs1) rfl q1 q2 q3 q4 q5 (fun _ _ => rfl) hdd (by show _ + (nativeFrameWords "java/lang/System" "arraycopy" 5 + 11) ≤ 39 * d; rw [show nativeFrameWords "java/lang/System" "arraycopy" 5 = 7 from by decide +kernel]; omega) hd (fun H locs hP hD hS => ?_)
  rw [g_setA hs1 (by omega)] at hP
  exact (k p l e s m args below meth c dC dI ad cA hC H locs ls hP hS hl)
end EMem
/-! returns -/
section ERet
variable {N : Nat} {own : String} {cc : ByteArray} {nL : Nat} {d : Nat} {pc : Nat} {lc : List (Option Value)} {I : Nat → Int32} {A : Nat → Nat → Int32} {L : Nat → Int64}
theorem e_iret {x : Int32} (hd : decode cc pc = .ok (.ireturn, 1)) : Ev N own cc nL (some .int) d pc lc [.int x] I A L (some (.int x), (I, A, L)) := by
  intro p l e s m args below meth c dC dI ad cA hC H locs ls hP hS hl
  exact W.iret (v := x) hC.1 hC.2.1 hC.2.2.1 (fun t ht hW => ⟨⟨rfl, by rw [ht]; exact hP⟩, hS.F ht⟩) hS.2.2 hd hC.2.2.2.2.2.2.1
theorem e_zret {x : Int32} (hd : decode cc pc = .ok (.ireturn, 1)) (hx : x = 0 ∨ x = 1) : Ev N own cc nL (some .boolean) d pc lc [.int x] I A L (some (.int x), (I, A, L)) := by
  intro p l e s m args below meth c dC dI ad cA hC H locs ls hP hS hl
  exact W.zret (v := x) (ty := .boolean) hC.1 hC.2.1 hC.2.2.1 (by rcases hx with rfl | rfl <;> rfl) (fun t ht hW => ⟨⟨rfl, by rw [ht]; exact hP⟩, hS.F ht⟩) hS.2.2 hd hC.2.2.2.2.2.2.1
theorem e_lret {x : Int64} (hd : decode cc pc = .ok (.lreturn, 1)) : Ev N own cc nL (some .long) d pc lc [.long x] I A L (some (.long x), (I, A, L)) := by
  intro p l e s m args below meth c dC dI ad cA hC H locs ls hP hS hl
  exact W.lret (v := x) hC.1 hC.2.1 hC.2.2.1 (fun t ht hW => ⟨⟨rfl, by rw [ht]; exact hP⟩, hS.F ht⟩) hS.2.2 hd hC.2.2.2.2.2.2.1
theorem e_vret (hd : decode cc pc = .ok (.return_, 1)) : Ev N own cc nL none d pc lc [] I A L (none, (I, A, L)) := by
  intro p l e s m args below meth c dC dI ad cA hC H locs ls hP hS hl
  exact W.vret hC.1 hC.2.1 hC.2.2.1 (fun t ht hW => ⟨⟨rfl, by rw [ht]; exact hP⟩, hS.F ht⟩) hS.2.2 hd hC.2.2.2.2.2.2.1
theorem e_aret {a : Nat} {n : String} (hd : decode cc pc = .ok (.areturn, 1)) : Ev N own cc nL (some (.object n)) d pc lc [.ref a] I A L (some (.ref a), (I, A, L)) := by
  intro p l e s m args below meth c dC dI ad cA hC H locs ls hP hS hl
  exact W.aret (v := .ref (ad a)) hC.1 hC.2.1 hC.2.2.1 (Or.inl ⟨n, rfl⟩) (Or.inr ⟨_, rfl⟩) (fun t ht hW => ⟨⟨rfl, by rw [ht]; exact hP⟩, hS.F ht⟩) hS.2.2 hd hC.2.2.2.2.2.2.1
end ERet
/-! contracts and calls -/
def gPc (N : Nat) (dC : Nat → ClassId) (dI : Nat → Nat → Nat) (ad : Nat → Nat) (cA : Nat → ClassId) (av : List Value) (I : Nat → Int32) (A : Nat → Nat → Int32) (L : Nat → Int64) : Array Value → State → Prop := va_Pc (av.map (cv ad)) (fun U => gF N dC dI ad cA U ∧ va_P (dC, dI) vwCl (gW N cA ad I A L) U.heap)
def GM (N : Nat) (y : MethodName) (cc : ByteArray) (nL : Nat) (ret : Option FieldType) (d : Nat) (av : List Value) (I : Nat → Int32) (A : Nat → Nat → Int32) (L : Nat → Int64) (r : gR) : Prop := ∀ (l : Launch) (dC : Nat → ClassId) (dI : Nat → Nat → Nat) (ad : Nat → Nat) (cA : Nat → ClassId), Met l y (Cond.code y cc nL ret :: gT) (gRm d) (gPc N dC dI ad cA av I A L) (gQ N dC dI cA ad r) 0 0 (gA N ad)
def g_ent : List Value → List (Option Value)
  | [] => []
  | v :: vs => if v.category = 2 then some v :: none :: g_ent vs else some v :: g_ent vs
theorem g_ent_mem (ad : Nat → Nat) : ∀ (av : List Value) (o i : Nat) (v : Value), (g_ent av)[i]? = some (some v) → (o + i, cv ad v) ∈ lv_args o (av.map (cv ad))
  | [], o, i, v, h => by simp [g_ent] at h
  | w :: vs, o, i, v, h => by
    show (o + i, cv ad v) ∈ (o, cv ad w) :: lv_args (if (cv ad w).category = 2 then o + 2 else o + 1) (vs.map (cv ad))
    rw [cv_cat]
    by_cases hc : w.category = 2
    · rw [if_pos hc]
      simp only [g_ent, if_pos hc] at h
      match i, h with
      | 0, h => cases h; exact List.mem_cons_self
      | 1, h => cases h
      | i + 2, h =>
        have := g_ent_mem ad vs (o + 2) i v (by simpa using h)
        rw [show o + (i + 2) = o + 2 + i by omega]
        exact List.mem_cons_of_mem _ this
    · rw [if_neg hc]
      simp only [g_ent, if_neg hc] at h
      match i, h with
      | 0, h => cases h; exact List.mem_cons_self
      | i + 1, h =>
        have := g_ent_mem ad vs (o + 1) i v (by simpa using h)
        rw [show o + (i + 1) = o + 1 + i by omega]
        exact List.mem_cons_of_mem _ this
theorem gm_of {N : Nat} {y : MethodName} {cc : ByteArray} {nL n : Nat} {ret : Option FieldType} {d : Nat} {av : List Value} {lc : List (Option Value)} {I : Nat → Int32} {A : Nat → Nat → Int32} {L : Nat → Int64} {r : gR} (hy : Jvm.plainName y.cls = true) (hlc : g_ent av ++ List.replicate n none = lc) (hlen : ∀ ad, (lg_sl (av.map (cv ad))).length ≤ nL) (k : Ev N y.cls cc nL ret d 0 lc [] I A L r) : GM N y cc nL ret d av I A L r := by
  intro l dC dI ad cA
  refine Met.ofW (cc := cc) (maxL := nL) (ret := ret) hy rfl ?_
  intro p e s m args below meth c s₁ B hml hv
  obtain ⟨rfl, hF, hP⟩ := hv
  have hts := atoms_spec (ws := Cond.code y cc nL ret :: gT) B.pre
  have hl := lv_entry (av.map (cv ad)) (n := nL) (hlen ad)
  rw [lg_entry_eq]
  exact k p l e s m _ below meth c dC dI ad cA ⟨B.exec, B.bytes, B.returns, hml, findClass_of_methodNamed B.named, fun w hw => hts w (List.mem_cons_of_mem _ hw), B.notSynchronized, hF⟩ s.heap [] _ hP va_S.rf ⟨hl.1, hl.2.1, fun q hq => by
    obtain ⟨v, h1, h2⟩ := gPr_mem.mp hq
    rw [← hlc, List.getElem?_append] at h1
    split at h1
    next => exact hl.2.2 q (by rw [show q = (0 + q.1, cv ad v) from Prod.ext (by simp) h2]; exact g_ent_mem ad av 0 q.1 v h1)
    next =>
      have := List.eq_of_mem_replicate (List.mem_of_getElem? h1)
      cases this⟩
def g_mth (y : MethodName) (cy : ByteArray) (ny : Nat) (ry : Option FieldType) (n : Nat) : Prop := Cond.initialized y.cls ∈ gT ∧ Cond.code y cy ny ry ∈ gT ∧ (y.cls ≠ "java/lang/invoke/MethodHandle" ∧ y.cls ≠ "java/lang/invoke/VarHandle" ∧ (parseMethodDescriptor y.desc).map (fun d => d.parameters.length) = some n) ∧ ny ≤ 20
def g_mv (y : MethodName) (cy : ByteArray) (ny : Nat) (ry : Option FieldType) (n : Nat) : Prop := g_mth y cy ny ry n ∧ Cond.instanceMethod y ∈ gT ∧ Cond.selects y.cls y y ∈ gT
def g_ms (y : MethodName) (cy : ByteArray) (ny : Nat) (ry : Option FieldType) (n : Nat) : Prop := g_mth y cy ny ry n ∧ Cond.static y ∈ gT
theorem g_good {y : MethodName} {cy : ByteArray} {ny : Nat} {ry : Option FieldType} (h : Cond.code y cy ny ry ∈ gT) : GoodIn gT (Cond.code y cy ny ry :: gT) := by
  intro w hw
  rcases List.mem_cons.mp hw with rfl | hw
  · exact ⟨h, gT_good _ h⟩
  · exact ⟨hw, gT_good _ hw⟩
theorem gPc_blind {N : Nat} {dC : Nat → ClassId} {dI : Nat → Nat → Nat} {ad : Nat → Nat} {cA : Nat → ClassId} {av : List Value} {I : Nat → Int32} {A : Nat → Nat → Int32} {L : Nat → Int64} : FrameBlind (gPc N dC dI ad cA av I A L) := by
  intro a U g mk h
  exact ⟨h.1, h.2.1.calling g mk a, h.2.2⟩
section ECall
variable {N : Nat} {own : String} {cc : ByteArray} {nL : Nat} {ret : Option FieldType} {d : Nat} {pc : Nat} {lc : List (Option Value)} {st : List Value} {I : Nat → Int32} {A : Nat → Nat → Int32} {L : Nat → Int64} {r : gR}
variable {y : MethodName} {cy : ByteArray} {ny dy n idx : Nat} {ry : Option FieldType} {As S : List Value} {v : Option Value} {I' : Nat → Int32} {A' : Nat → Nat → Int32} {L' : Nat → Int64} {pc' : Nat}
/-- behind a call -/
theorem e_run (k : Ev N own cc nL ret d pc' lc (v.toList ++ st) I' A' L' r) {p : Program} {l : Launch} {e : Env} {s : State} {m : MethodId} {args : Array Value} {below : List Frame} {meth : Method} {c : Code} {dC : Nat → ClassId} {dI : Nat → Nat → Nat} {ad : Nat → Nat} {cA : Nat → ClassId} (hC : gCx N own cc nL ret p s m args meth c dC dI ad cA) {H : Heap} {locs : List Loc} {ls : Array Slot} (hS : va_S (gA N ad) s.heap H locs) (hl : lv_has ls nL (gPr ad lc)) {st0 : List Value} {av : Array Value} (hp : pc + 3 = pc')
    (hr : va_Run p l e (gRm d) s m args below meth c H locs 0 0 0 0 (F0 m pc ls st0) (st.map (cv ad)) (gQ N dC dI cA ad (v, (I', A', L')) av) (gA N ad)) : W p l e (gRm d) s m args below meth c H locs 0 0 (MQ below (gQ N dC dI cA ad r) args s 0 0 (gA N ad)) (F0 m pc ls st0) := by
  subst hp
  intro T hT X
  obtain ⟨w, st₀, t, T', LL, h0, X', hL, e1, e2, ⟨⟨hv, hP⟩, hz, hk⟩, stp⟩ := hr T hT X
  have hw : w = v.map (cv ad) := by
    have := Outcome.returned.inj hv
    exact this
  subst hw
  rw [h0] at hz hk
  have hS' : va_S (gA N ad) s.heap T'.heap (locs ++ LL) := ⟨Nat.le_trans hS.1 (by rw [e1]; exact hz), fun q h1 h2 => by rw [e1, hk q (Nat.lt_of_lt_of_le h1 hS.1) h2]; exact hS.2.1 q h1 h2, fun q hq => by
      rcases List.mem_append.mp hq with h | h
      · exact hS.2.2 q h
      · exact hL q h⟩
  obtain ⟨t2, a1, b1⟩ := k p l e s m args below meth c dC dI ad cA hC T'.heap (locs ++ LL) ls (by rw [e1]; exact hP) hS' hl T' rfl X'
  refine ⟨t2, stp t2 ?_, b1⟩
  have e9 : (v.toList ++ st).map (cv ad) = (v.map (cv ad)).toList ++ st.map (cv ad) := by
    rw [List.map_append]
    cases v <;> rfl
  rw [e9] at a1
  exact a1
theorem e_st8 {ad : Nat → Nat} (hst : (st.map fun v => v.category).sum ≤ 8) : ((st.map (cv ad)).map fun v => v.category).sum ≤ 8 := by
  rw [List.map_map]
  rw [show ((fun v : Value => v.category) ∘ cv ad) = (fun v : Value => v.category) from funext (fun v => cv_cat ad v)]
  exact hst
/-- an instance method of the same class -/
theorem e_callV {a ci : Nat} (hd : decode cc pc = .ok (.invokevirtual idx, 3)) (hp : pc + 3 = pc') (hlink : Cond.methodLink own idx y ∈ gT) (hm : g_mv y cy ny ry n) (hn : As.length = n) (hdd : dy + 1 ≤ d) (hst : (st.map fun v => v.category).sum ≤ 8) (hsh : g_sh a = (ci, 0)) (ha : a < N) (hci : ci < 8) (hcl : (g_cl ci).1 = y.cls)
    (hM : GM N y cy ny ry dy (.ref a :: As) I A L (v, (I', A', L'))) (hSt : S = As.reverse ++ .ref a :: st) (k : Ev N own cc nL ret d pc' lc (v.toList ++ st) I' A' L' r) : Ev N own cc nL ret d pc lc (S) I A L r := by
  subst hSt
  intro p l e s m args below meth c dC dI ad cA hC H locs ls hP hS hl
  obtain ⟨⟨w1, w2, w3, w4⟩, w5, w6⟩ := hm
  have hts := hC.2.2.2.2.2.1
  refine e_run k hC hS hl hp ?_ (av := (Value.ref (ad a) :: As.map (cv ad)).toArray)
  refine va_runV (C := y.cls) (b := ad a) (As := As.map (cv ad)) (rest := st.map (cv ad)) ⟨hC.1, hC.2.1, hC.2.2.2.1, hC.2.2.2.2.1, hts⟩ (hM l dC dI ad cA) ⟨callB_of n hts (g_good w2) rfl rfl rfl (hts _ w1) (hts _ hlink) w3 ⟨hdd, by show 8 + (ny + 11) + 39 * dy ≤ 39 * d; omega⟩, hts _ w5, hts _ w6⟩ ⟨gPc_blind, ?_, fun U hU hW => ⟨rfl, hC.2.2.2.2.2.2.2.moved hS hU hW, by rw [hU]; exact hP⟩⟩ rfl (by rw [List.length_map]; exact hn) hl.1 (by simp [List.map_append, List.map_reverse, cv]) (lv_room (e_st8 hst)) hd ⟨Nat.le_refl 0, Nat.le_refl 0⟩
  rw [← hcl]
  exact va_recv hC.2.2.2.2.2.2.2.1 hP (g_cl_at hci) (q0 := a) (by rw [gW_get _ _ _ _ _ ha, g_obj hsh hci])
theorem e_callVN {host : String} {a ci : Nat} (hd : decode cc pc = .ok (.invokevirtual idx, 3)) (hp : pc + 3 = pc') (hlink : Cond.methodLinkNest own idx y host ∈ lw_tbl) (hm : g_mv y cy ny ry n) (hn : As.length = n) (hdd : dy + 1 ≤ d) (hst : (st.map fun v => v.category).sum ≤ 8) (hsh : g_sh a = (ci, 0)) (ha : a < N) (hci : ci < 8) (hcl : (g_cl ci).1 = y.cls)
    (hM : GM N y cy ny ry dy (.ref a :: As) I A L (v, (I', A', L'))) (hSt : S = As.reverse ++ .ref a :: st) (k : Ev N own cc nL ret d pc' lc (v.toList ++ st) I' A' L' r) : Ev N own cc nL ret d pc lc (S) I A L r := by
  subst hSt
  intro p l e s m args below meth c dC dI ad cA hC H locs ls hP hS hl
  obtain ⟨⟨w1, w2, w3, w4⟩, w5, w6⟩ := hm
  have hts := hC.2.2.2.2.2.1
  refine e_run k hC hS hl hp ?_ (av := (Value.ref (ad a) :: As.map (cv ad)).toArray)
  refine va_runVN (C := y.cls) (b := ad a) (As := As.map (cv ad)) (rest := st.map (cv ad)) ⟨hC.1, hC.2.1, hC.2.2.2.1, hC.2.2.2.2.1, hts⟩ (hM l dC dI ad cA) ⟨va_cnB n hts (g_good w2) rfl rfl rfl (hC.2.2.2.2.2.2.2.2.1 _ hlink rfl) (hts _ w1) w3 ⟨hdd, by show 8 + (ny + 11) + 39 * dy ≤ 39 * d; omega⟩, hts _ w5, hts _ w6⟩ ⟨gPc_blind, ?_, fun U hU hW => ⟨rfl, hC.2.2.2.2.2.2.2.moved hS hU hW, by rw [hU]; exact hP⟩⟩ rfl (by rw [List.length_map]; exact hn) hl.1 (by simp [List.map_append, List.map_reverse, cv]) (lv_room (e_st8 hst)) hd ⟨Nat.le_refl 0, Nat.le_refl 0⟩
  rw [← hcl]
  exact va_recv hC.2.2.2.2.2.2.2.1 hP (g_cl_at hci) (q0 := a) (by rw [gW_get _ _ _ _ _ ha, g_obj hsh hci])
theorem e_callS (hd : decode cc pc = .ok (.invokestatic idx, 3)) (hp : pc + 3 = pc') (hlink : Cond.methodLink own idx y ∈ gT) (hm : g_ms y cy ny ry n) (hn : As.length = n) (hdd : dy + 1 ≤ d) (hst : (st.map fun v => v.category).sum ≤ 8)
    (hM : GM N y cy ny ry dy As I A L (v, (I', A', L'))) (hSt : S = As.reverse ++ st) (k : Ev N own cc nL ret d pc' lc (v.toList ++ st) I' A' L' r) : Ev N own cc nL ret d pc lc (S) I A L r := by
  subst hSt
  intro p l e s m args below meth c dC dI ad cA hC H locs ls hP hS hl
  obtain ⟨⟨w1, w2, w3, w4⟩, w5⟩ := hm
  have hts := hC.2.2.2.2.2.1
  refine e_run k hC hS hl hp ?_ (av := (As.map (cv ad)).toArray)
  exact va_runS (As := As.map (cv ad)) (rest := st.map (cv ad)) ⟨hC.1, hC.2.1, hC.2.2.2.1, hC.2.2.2.2.1, hts⟩ (hM l dC dI ad cA) ⟨callB_of n hts (g_good w2) rfl rfl rfl (hts _ w1) (hts _ hlink) w3 ⟨hdd, by show 8 + (ny + 11) + 39 * dy ≤ 39 * d; omega⟩, hts _ w5⟩ ⟨gPc_blind, fun U hU hW => ⟨rfl, hC.2.2.2.2.2.2.2.moved hS hU hW, by rw [hU]; exact hP⟩⟩ rfl (by rw [List.length_map]; exact hn) hl.1 (by simp [List.map_append, List.map_reverse]) (lv_room (e_st8 hst)) hd ⟨Nat.le_refl 0, Nat.le_refl 0⟩
theorem e_callSN {host : String} (hd : decode cc pc = .ok (.invokestatic idx, 3)) (hp : pc + 3 = pc') (hlink : Cond.methodLinkNest own idx y host ∈ lw_tbl) (hm : g_ms y cy ny ry n) (hn : As.length = n) (hdd : dy + 1 ≤ d) (hst : (st.map fun v => v.category).sum ≤ 8)
    (hM : GM N y cy ny ry dy As I A L (v, (I', A', L'))) (hSt : S = As.reverse ++ st) (k : Ev N own cc nL ret d pc' lc (v.toList ++ st) I' A' L' r) : Ev N own cc nL ret d pc lc (S) I A L r := by
  subst hSt
  intro p l e s m args below meth c dC dI ad cA hC H locs ls hP hS hl
  obtain ⟨⟨w1, w2, w3, w4⟩, w5⟩ := hm
  have hts := hC.2.2.2.2.2.1
  refine e_run k hC hS hl hp ?_ (av := (As.map (cv ad)).toArray)
  exact va_runSN (As := As.map (cv ad)) (rest := st.map (cv ad)) ⟨hC.1, hC.2.1, hC.2.2.2.1, hC.2.2.2.2.1, hts⟩ (hM l dC dI ad cA) ⟨va_cnB n hts (g_good w2) rfl rfl rfl (hC.2.2.2.2.2.2.2.2.1 _ hlink rfl) (hts _ w1) w3 ⟨hdd, by show 8 + (ny + 11) + 39 * dy ≤ 39 * d; omega⟩, hts _ w5, trivial⟩ ⟨gPc_blind, fun U hU hW => ⟨rfl, hC.2.2.2.2.2.2.2.moved hS hU hW, by rw [hU]; exact hP⟩⟩ rfl (by rw [List.length_map]; exact hn) hl.1 (by simp [List.map_append, List.map_reverse]) (lv_room (e_st8 hst)) hd ⟨Nat.le_refl 0, Nat.le_refl 0⟩
end ECall
