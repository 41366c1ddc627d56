/-! THE WORLD: after the constructors no object is made and no reference changes. Cells have numbers 0..69 (ad: their addresses); ints of object a, field k: I (16 a + k); longs: L (16 a + k); rows: A a. -/
abbrev gS : Type := (Nat → Int32) × (Nat → Nat → Int32) × (Nat → Int64)
abbrev gR : Type := Option Value × gS
def g_shl : List (Nat × Nat) := [(6, 0),
  (2, 0), (8, 32), (8, 32), (8, 32), (8, 32),
  (2, 0), (8, 32), (8, 32), (8, 32), (8, 32),
  (5, 0), (11, 5),
  (2, 0), (8, 32), (8, 32), (8, 32), (8, 32), (2, 0), (8, 32), (8, 32), (8, 32), (8, 32), (2, 0), (8, 32), (8, 32), (8, 32), (8, 32), (2, 0), (8, 32), (8, 32), (8, 32), (8, 32), (2, 0), (8, 32), (8, 32), (8, 32), (8, 32),
  (4, 0), (8, 60), (8, 60), (8, 60), (8, 60), (8, 60), (8, 32), (1, 0),
  (4, 0), (8, 60), (8, 60), (8, 60), (8, 60), (8, 60), (8, 32), (1, 0),
  (0, 0), (9, 667), (8, 48),
  (3, 0), (9, 120),
  (7, 0), (8, 129), (8, 645), (8, 129), (8, 3), (8, 120), (8, 320), (10, 32), (10, 343), (8, 3), (8, 3)]
def g_sh (a : Nat) : Nat × Nat := g_shl.getD a (99, 0)
def g_fdl : List (List (Nat × Nat)) := [
  [(0, 1), (0, 2), (1, 0)],
  [(1, 0), (1, 0), (1, 0), (1, 0), (1, 0), (1, 0), (1, 0), (1, 0), (1, 0), (1, 0), (1, 0)],
  [(0, 1), (0, 2), (0, 3), (0, 4), (1, 0)],
  [(0, 1), (1, 0), (1, 0), (1, 0), (1, 0), (1, 0), (1, 0), (1, 0), (1, 0)],
  [(0, 1), (0, 2), (0, 3), (0, 4), (0, 5), (0, 6), (0, 7), (1, 0), (1, 0)],
  [(0, 1), (1, 0), (1, 0)],
  [(0, 1), (0, 6), (0, 11), (0, 38), (0, 46), (0, 54), (0, 57), (1, 0), (1, 0), (1, 0), (1, 0), (1, 0), (1, 0), (1, 0), (1, 0), (1, 0)],
  [(0, 1), (0, 2), (1, 0), (0, 3), (0, 4), (0, 5), (1, 0), (1, 0), (2, 0), (2, 0), (0, 6), (1, 0), (0, 7), (0, 8), (0, 9), (0, 10)]]
def g_fds (ci : Nat) : List (Nat × Nat) := g_fdl.getD ci []
def g_val (ad : Nat → Nat) (I : Nat → Int32) (L : Nat → Int64) (a k : Nat) (f : Nat × Nat) : Value := if f.1 = 0 then .ref (ad (a + f.2)) else if f.1 = 1 then .int (I (16 * a + k)) else .long (L (16 * a + k))
def g_fs (ad : Nat → Nat) (I : Nat → Int32) (L : Nat → Int64) (a ci : Nat) : List Value := (List.range (g_fds ci).length).map (fun k => g_val ad I L a k ((g_fds ci).getD k (0, 0)))
def g_row (ad : Nat → Nat) (A : Nat → Nat → Int32) (a : Nat) : (Nat → Int32) ⊕ (Nat → Int64) ⊕ (Nat → UInt32) ⊕ (Nat → UInt64) ⊕ (Nat → Option Nat) := if (g_sh a).1 = 11 then .inr (.inr (.inr (.inr (fun j => some (ad (13 + 5 * j)))))) else .inl (A a)
def g_cell (cA : Nat → ClassId) (ad : Nat → Nat) (I : Nat → Int32) (A : Nat → Nat → Int32) (L : Nat → Int64) (a : Nat) : va_E := if (g_sh a).1 < 8 then .inr ((g_sh a).1, g_fs ad I L a (g_sh a).1) else .inl (cA a, (g_sh a).2, g_row ad A a)
def gW (N : Nat) (cA : Nat → ClassId) (ad : Nat → Nat) (I : Nat → Int32) (A : Nat → Nat → Int32) (L : Nat → Int64) : va_W := (List.range N).map (fun a => (ad a, g_cell cA ad I A L a))
def gA (N : Nat) (ad : Nat → Nat) : Nat → Prop := fun q => ∃ a, a < N ∧ q = ad a
def g_ety (t : Nat) : FieldType := if t = 9 then .byte else if t = 10 then .boolean else if t = 11 then .object RX2 else .int
def gTy (N : Nat) (cA : Nat → ClassId) : List (ClassId × FieldType) := (List.range N).map (fun a => (cA a, g_ety (g_sh a).1))
theorem g_tyat {N : Nat} {cA : Nat → ClassId} {a t n : Nat} (ha : a < N) (hsh : g_sh a = (t, n)) : (gTy N cA)[a]? = some (cA a, g_ety t) := by
  unfold gTy
  rw [List.getElem?_map, List.getElem?_range ha]
  show some (cA a, g_ety (g_sh a).1) = _
  rw [hsh]
def g_tf : List Int32 := [0, 1, 2, 0, 1, 2, 0, 1, 2, 1, 0, 2, 2, 0, 1, 1, 0, 2]
def g_ts : List Int32 := [-1, -1, -1, -1, 1, 1, -1, -1, 1, -1, 1, 1, 1, 1, 1, 1, 1, 1]
theorem gW_get {N : Nat} (cA : Nat → ClassId) (ad : Nat → Nat) (I : Nat → Int32) (A : Nat → Nat → Int32) (L : Nat → Int64) {a : Nat} (h : a < N) : (gW N cA ad I A L)[a]? = some (ad a, g_cell cA ad I A L a) := by
  unfold gW
  rw [List.getElem?_map, List.getElem?_range h]; rfl
theorem gW_len {N : Nat} (cA : Nat → ClassId) (ad : Nat → Nat) (I : Nat → Int32) (A : Nat → Nat → Int32) (L : Nat → Int64) : (gW N cA ad I A L).length = N := by simp [gW]
theorem gW_lt {N : Nat} {cA : Nat → ClassId} {ad : Nat → Nat} {I : Nat → Int32} {A : Nat → Nat → Int32} {L : Nat → Int64} {a : Nat} {q : Nat × va_E} (h : (gW N cA ad I A L)[a]? = some q)   : a < N ∧ q = (ad a, g_cell cA ad I A L a) := by
  have h1 : a < N := by
    have := (List.getElem?_eq_some_iff.mp h).1
    rwa [gW_len] at this
  rw [gW_get _ _ _ _ _ h1] at h
  exact ⟨h1, (Option.some.inj h).symm⟩
theorem gW_D {N : Nat} {cA : Nat → ClassId} {ad : Nat → Nat} {I : Nat → Int32} {A : Nat → Nat → Int32} {L : Nat → Int64} (hj : ∀ a b, a < N → b < N → ad a = ad b → a = b) : va_D (gA N ad) (gW N cA ad I A L) := by
  refine ⟨fun i j p q hp hq h => ?_, fun k q hq => ?_⟩
  · obtain ⟨h1, rfl⟩ := gW_lt hp
    obtain ⟨h2, rfl⟩ := gW_lt hq
    exact hj i j h1 h2 h
  · obtain ⟨h1, rfl⟩ := gW_lt hq
    exact ⟨k, h1, rfl⟩
theorem gW_set {N : Nat} {cA : Nat → ClassId} {ad : Nat → Nat} {I I' : Nat → Int32} {A A' : Nat → Nat → Int32} {L L' : Nat → Int64} {a : Nat} {e : va_E} (he : a < N → g_cell cA ad I' A' L' a = e) (ho : ∀ b, b < N → b ≠ a → g_cell cA ad I' A' L' b = g_cell cA ad I A L b) : (gW N cA ad I A L).set a (ad a, e) = gW N cA ad I' A' L' := by
  apply List.ext_getElem?
  intro j
  rw [List.getElem?_set]
  by_cases hj : j < N
  · by_cases h : a = j
    · subst h
      rw [if_pos rfl, if_pos (by rw [gW_len]; exact hj), gW_get _ _ _ _ _ hj, he hj]
    · rw [if_neg h, gW_get _ _ _ _ _ hj, gW_get _ _ _ _ _ hj, ho j hj (fun q => h q.symm)]
  · have h1 : ∀ I A L, (gW N cA ad I A L)[j]? = none := fun I A L => List.getElem?_eq_none (by rw [gW_len]; omega)
    by_cases h : a = j
    · subst h
      rw [if_pos rfl, if_neg (by rw [gW_len]; exact hj), h1]
    · rw [if_neg h, h1, h1]
theorem g_fds_le (ci : Nat) : (g_fds ci).length ≤ 16 := by
  by_cases h : ci < 8
  · exact (by decide : ∀ ci, ci < 8 → (g_fds ci).length ≤ 16) ci h
  · have : g_fds ci = [] := by
      unfold g_fds
      rw [List.getD_eq_getElem?_getD, List.getElem?_eq_none (by simp [g_fdl]; omega)]; rfl
    rw [this]; exact Nat.zero_le _
theorem g_fs_get (ad : Nat → Nat) (I : Nat → Int32) (L : Nat → Int64) (a ci : Nat) {k : Nat} {f : Nat × Nat} (h : (g_fds ci)[k]? = some f) : (g_fs ad I L a ci)[k]? = some (g_val ad I L a k f) := by
  unfold g_fs
  have hk := (List.getElem?_eq_some_iff.mp h).1
  rw [List.getElem?_map, List.getElem?_range hk]
  simp [List.getD_eq_getElem?_getD, h]
theorem g_fs_len (ad : Nat → Nat) (I : Nat → Int32) (L : Nat → Int64) (a ci : Nat) : (g_fs ad I L a ci).length = (g_fds ci).length := by simp [g_fs]
theorem g_fs_up {ad : Nat → Nat} {I I' : Nat → Int32} {L L' : Nat → Int64} {a ci k : Nat} {f : Nat × Nat} {v : Value} (h : (g_fds ci)[k]? = some f) (hv : g_val ad I' L' a k f = v) (hI : ∀ j, j < 16 → j ≠ k → I' (16 * a + j) = I (16 * a + j)) (hL : ∀ j, j < 16 → j ≠ k → L' (16 * a + j) = L (16 * a + j)) : g_fs ad I' L' a ci = (g_fs ad I L a ci).set k v := by
  apply List.ext_getElem?
  intro j
  rw [List.getElem?_set]
  have hk := (List.getElem?_eq_some_iff.mp h).1
  by_cases hj : j < (g_fds ci).length
  · have hfj : (g_fds ci)[j]? = some ((g_fds ci)[j]) := List.getElem?_eq_getElem hj
    by_cases e : k = j
    · subst e
      rw [if_pos rfl, if_pos (by rw [g_fs_len]; exact hk), g_fs_get ad I' L' a ci h, hv]
    · rw [if_neg e, g_fs_get ad I' L' a ci hfj, g_fs_get ad I L a ci hfj]
      have h16 := g_fds_le ci
      unfold g_val
      rw [hI j (by omega) (fun q => e q.symm), hL j (by omega) (fun q => e q.symm)]
  · have h1 : ∀ I L, (g_fs ad I L a ci)[j]? = none := fun I L => List.getElem?_eq_none (by rw [g_fs_len]; omega)
    rw [if_neg (by omega), h1, h1]
theorem g_fs_same {ad : Nat → Nat} {I I' : Nat → Int32} {L L' : Nat → Int64} {a ci : Nat} (hI : ∀ j, j < 16 → I' (16 * a + j) = I (16 * a + j)) (hL : ∀ j, j < 16 → L' (16 * a + j) = L (16 * a + j)) : g_fs ad I' L' a ci = g_fs ad I L a ci := by
  unfold g_fs
  apply List.map_congr_left
  intro k hk
  have h16 := g_fds_le ci
  have hk2 := List.mem_range.mp hk
  unfold g_val
  rw [hI k (by omega), hL k (by omega)]
/-! the words of the tables -/
def gT : List Cond := lw_tbl.filter goodWord
def g_nest : Cond → Bool
  | .fieldLinkNest .. => true
  | .methodLinkNest .. => true
  | _ => false
theorem gT_good (w : Cond) (h : w ∈ gT) : (w.onTables && w.keeps) = true ∨ ∃ ty, w = .arrayClass ty := good_of_word (List.mem_filter.mp h).2
/-! what is known of a state: the classes, the links between nest mates, the two rows of the turns (cells 70, 71) -/
def gF (N : Nat) (dC : Nat → ClassId) (dI : Nat → Nat → Nat) (ad : Nat → Nat) (cA : Nat → ClassId) (s : State) : Prop :=
  va_K (dC, dI) vwCl (gTy N cA) s ∧ (∀ w ∈ lw_tbl, g_nest w = true → va_Nw w s) ∧ (∀ a b, a < N → b < N → ad a = ad b → a = b) ∧
  (va_Z RX6 "TURN_FROM" "[I" (.ref (ad 70)) (gA N ad) s s.heap ∧ va_T .int (ad 70) 18 (fun j => .int (g_tf.getD j 0)) (gA N ad) s s.heap) ∧
  (va_Z RX6 "TURN_SIGN" "[I" (.ref (ad 71)) (gA N ad) s s.heap ∧ va_T .int (ad 71) 18 (fun j => .int (g_ts.getD j 0)) (gA N ad) s s.heap)
theorem g_nest_move {w : Cond} (hw : g_nest w = true) {s U : State} (hW : s.WarmedH U.vm) (h : va_Nw w s) : va_Nw w U := by
  cases w <;> first | exact va_Nw.warmF hW h | exact va_Nw.warmM hW h | (simp [g_nest] at hw)
theorem g_nest_on {w : Cond} (hw : g_nest w = true) : w.onTables = true := by
  cases w <;> first | rfl | (simp [g_nest] at hw)
theorem gF.moved {N : Nat} {dC : Nat → ClassId} {dI : Nat → Nat → Nat} {ad : Nat → Nat} {cA : Nat → ClassId} {s U : State} {H : Heap} {locs : List Loc} (h : gF N dC dI ad cA s) (hS : va_S (gA N ad) s.heap H locs) (hU : U.heap = H) (hW : s.WarmedH U.vm) : gF N dC dI ad cA U := by
  obtain ⟨h1, h2, h3, ⟨h4, h5⟩, h6, h7⟩ := h
  subst hU
  exact ⟨va_K.moved hW.alike h1, fun w a b => g_nest_move b hW (h2 w a b), h3, ⟨(h4.moved hW.alike).kept hS.2.1, (h5.moved hW.alike).kept hS.2.1⟩, (h6.moved hW.alike).kept hS.2.1, (h7.moved hW.alike).kept hS.2.1⟩
theorem gF.calling {N : Nat} {dC : Nat → ClassId} {dI : Nat → Nat → Nat} {ad : Nat → Nat} {cA : Nat → ClassId} {U : State} (h : gF N dC dI ad cA U) (g : JFrame) (mk : MethodId) (a : Array Value) : gF N dC dI ad cA (U.calling g mk a) := by
  obtain ⟨h1, h2, h3, ⟨h4, h5⟩, h6, h7⟩ := h
  have e : U.vm.Alike (U.calling g mk a).vm := Vm.Alike.refl U.vm
  exact ⟨va_K.moved (u := U) (U := U.calling g mk a) e h1, fun w wa wb => va_Nw.same (u := U) (U := U.calling g mk a) (g_nest_on wb) rfl (h2 w wa wb), h3, ⟨h4.moved e, h5.moved e⟩, h6.moved e, h7.moved e⟩
/-! values, locals -/
def cv (ad : Nat → Nat) (v : Value) : Value := match v with
  | .ref a => .ref (ad a)
  | v => v
def gPr (ad : Nat → Nat) (lc : List (Option Value)) : List (Nat × Value) := (List.range lc.length).filterMap (fun i => ((lc[i]?).bind id).map (fun v => (i, cv ad v)))
theorem gPr_mem {ad : Nat → Nat} {lc : List (Option Value)} {q : Nat × Value} : q ∈ gPr ad lc ↔ ∃ v, lc[q.1]? = some (some v) ∧ q.2 = cv ad v := by
  unfold gPr
  rw [List.mem_filterMap]
  constructor
  · rintro ⟨i, hi, h⟩
    cases hx : lc[i]? with
    | none => rw [hx] at h; cases h
    | some o =>
      cases o with
      | none => rw [hx] at h; cases h
      | some v =>
        rw [hx] at h
        cases h
        exact ⟨v, hx, rfl⟩
  · rintro ⟨v, h1, h2⟩
    refine ⟨q.1, List.mem_range.mpr (List.getElem?_eq_some_iff.mp h1).1, ?_⟩
    rw [h1]
    show some (q.1, cv ad v) = some q
    rw [← h2]
theorem gPr_at {ad : Nat → Nat} {ls : Array Slot} {nL : Nat} {lc : List (Option Value)} (h : lv_has ls nL (gPr ad lc)) {i : Nat} {v : Value} (hv : lc[i]? = some (some v)) : ls[i]? = some (.val (cv ad v)) := h.2.2 (i, cv ad v) (gPr_mem.mpr ⟨v, hv, rfl⟩)
def gLe : List (Option Value) → List (Option Value) → Prop
  | [], _ => True
  | none :: t, _ :: u => gLe t u
  | some v :: t, some w :: u => v = w ∧ gLe t u
  | _, _ => False
theorem gLe_get : ∀ {a b : List (Option Value)}, gLe a b → ∀ {i : Nat} {v : Value}, a[i]? = some (some v) → b[i]? = some (some v)
  | [], _, _, i, v, h => by simp at h
  | none :: t, [], hh, i, v, h => by simp [gLe] at hh
  | some _ :: t, [], hh, i, v, h => by simp [gLe] at hh
  | some _ :: t, none :: u, hh, i, v, h => by simp [gLe] at hh
  | none :: t, x :: u, hh, i, v, h => by
    cases i with
    | zero => simp at h
    | succ i => simpa using gLe_get (a := t) (b := u) (by simpa [gLe] using hh) (by simpa using h)
  | some w :: t, some x :: u, hh, i, v, h => by
    obtain ⟨rfl, h2⟩ : w = x ∧ gLe t u := by simpa [gLe] using hh
    cases i with
    | zero => simpa using h
    | succ i => simpa using gLe_get (a := t) (b := u) h2 (by simpa using h)
theorem gPr_le {ad : Nat → Nat} {ls : Array Slot} {nL : Nat} {a b : List (Option Value)} (hh : gLe a b) (h : lv_has ls nL (gPr ad b)) : lv_has ls nL (gPr ad a) := by
  refine ⟨h.1, h.2.1, fun q hq => ?_⟩
  obtain ⟨v, h1, h2⟩ := gPr_mem.mp hq
  exact h.2.2 q (gPr_mem.mpr ⟨v, gLe_get hh h1, h2⟩)
/-- the place ahead of i holds no long that is known -/
def gok (lc : List (Option Value)) : Nat → Bool
  | 0 => true
  | i + 1 => match lc[i]? with
    | some (some (.long _)) => false
    | some (some (.double _)) => false
    | _ => true
theorem gok_cat {ad : Nat → Nat} {lc : List (Option Value)} {j : Nat} (h : gok lc (j + 1) = true) {v : Value} (hv : lc[j]? = some (some v)) : ¬ (cv ad v).category = 2 := by
  simp only [gok, hv] at h
  cases v <;> simp_all [cv, Value.category]
theorem gPr_st1 {ad : Nat → Nat} {ls' : Array Slot} {nL : Nat} {lc : List (Option Value)} {i : Nat} {v : Value} (hok : gok lc i = true) (h : lv_has ls' nL ((i, cv ad v) :: (gPr ad lc).filter (fun q => !(q.1 == i) && !(q.1 + 1 == i && q.2.category == 2)))) : lv_has ls' nL (gPr ad (lc.set i (some v))) := by
  refine ⟨h.1, h.2.1, fun q hq => ?_⟩
  obtain ⟨w, h1, h2⟩ := gPr_mem.mp hq
  rw [List.getElem?_set] at h1
  by_cases e : i = q.1
  · rw [if_pos e] at h1
    split at h1
    next => 
      cases h1
      exact h.2.2 q (by rw [show q = (i, cv ad v) from Prod.ext e.symm h2]; exact List.mem_cons_self)
    next => cases h1
  · rw [if_neg e] at h1
    refine h.2.2 q (List.mem_cons_of_mem _ (List.mem_filter.mpr ⟨gPr_mem.mpr ⟨w, h1, h2⟩, ?_⟩))
    have e1 : (q.1 == i) = false := by simpa using fun z => e z.symm
    rw [e1]
    by_cases e2 : q.1 + 1 = i
    · subst e2
      have := gok_cat (ad := ad) hok h1
      rw [h2]
      simp [this]
    · simp [e2]
theorem gPr_st2 {ad : Nat → Nat} {ls' : Array Slot} {nL : Nat} {lc : List (Option Value)} {i : Nat} {v : Value} (hok : gok lc i = true) (h : lv_has ls' nL ((i, cv ad v) :: (gPr ad lc).filter (fun q => !(q.1 == i) && (!(q.1 == i + 1) && !(q.1 + 1 == i && q.2.category == 2))))) : lv_has ls' nL (gPr ad ((lc.set i (some v)).set (i + 1) none)) := by
  refine ⟨h.1, h.2.1, fun q hq => ?_⟩
  obtain ⟨w, h1, h2⟩ := gPr_mem.mp hq
  rw [List.getElem?_set] at h1
  by_cases e0 : i + 1 = q.1
  · rw [if_pos e0] at h1
    split at h1 <;> cases h1
  rw [if_neg e0, List.getElem?_set] at h1
  by_cases e : i = q.1
  · rw [if_pos e] at h1
    split at h1
    next => 
      cases h1
      exact h.2.2 q (by rw [show q = (i, cv ad v) from Prod.ext e.symm h2]; exact List.mem_cons_self)
    next => cases h1
  · rw [if_neg e] at h1
    refine h.2.2 q (List.mem_cons_of_mem _ (List.mem_filter.mpr ⟨gPr_mem.mpr ⟨w, h1, h2⟩, ?_⟩))
    have e1 : (q.1 == i) = false := by simpa using fun z => e z.symm
    have e3 : (q.1 == i + 1) = false := by simpa using fun z => e0 z.symm
    rw [e1, e3]
    by_cases e2 : q.1 + 1 = i
    · subst e2
      have := gok_cat (ad := ad) hok h1
      rw [h2]
      simp [this]
    · simp [e2]
/-! the judgement -/
abbrev gRm (d : Nat) : Room := { frames := d, cells := 0, slots := 0, locals := 39 * d }
def gQ (N : Nat) (dC : Nat → ClassId) (dI : Nat → Nat → Nat) (cA : Nat → ClassId) (ad : Nat → Nat) (r : gR) : Array Value → State → Outcome → State → Prop := fun _ st oc t => (oc = .returned (r.1.map (cv ad)) ∧ va_P (dC, dI) vwCl (gW N cA ad r.2.1 r.2.2.1 r.2.2.2) t.heap) ∧ va_F (gA N ad) st t
def gCx (N : Nat) (own : String) (cc : ByteArray) (nL : Nat) (ret : Option FieldType) (p : Program) (s : State) (m : MethodId) (args : Array Value) (meth : Method) (c : Code) (dC : Nat → ClassId) (dI : Nat → Nat → Nat) (ad : Nat → Nat) (cA : Nat → ClassId) : Prop :=
  p.tables.exec = Jvm.exec ∧ c.code = cc ∧ meth.sig.returnType = ret ∧ c.maxLocals = nL ∧ s.vm.findClass own = some m.cls ∧ (∀ w ∈ gT, w.before args s = true) ∧ meth.locks = false ∧ gF N dC dI ad cA s
def Ev (N : Nat) (own : String) (cc : ByteArray) (nL : Nat) (ret : Option FieldType) (d : Nat) (pc : Nat) (lc : List (Option Value)) (st : List Value) (I : Nat → Int32) (A : Nat → Nat → Int32) (L : Nat → Int64) (r : gR) : Prop :=
  ∀ (p : Program) (l : Launch) (e : Env) (s : State) (m : MethodId) (args : Array Value) (below : List Frame) (meth : Method) (c : Code) (dC : Nat → ClassId) (dI : Nat → Nat → Nat) (ad : Nat → Nat) (cA : Nat → ClassId), gCx N own cc nL ret p s m args meth c dC dI ad cA → ∀ (H : Heap) (locs : List Loc) (ls : Array Slot), va_P (dC, dI) vwCl (gW N cA ad I A L) H → va_S (gA N ad) s.heap H locs → lv_has ls nL (gPr ad lc) →
    W p l e (gRm d) s m args below meth c H locs 0 0 (MQ below (gQ N dC dI cA ad r) args s 0 0 (gA N ad)) (F0 m pc ls (st.map (cv ad)))

section ERules
variable {N : Nat} {own : String} {cc : ByteArray} {nL : Nat} {ret : Option FieldType} {d : Nat} {pc : Nat} {lc : List (Option Value)} {st : List Value} {I : Nat → Int32} {A : Nat → Nat → Int32} {L : Nat → Int64} {r : gR}
theorem e_iconst {n : Int} {v : Int32} (hv : Int32.ofInt n = v) {pc' : Nat} (hd : decode cc pc = .ok (.iconst n, 1)) (hp : pc + 1 = pc') (k : Ev N own cc nL ret d pc' lc (.int v :: st) I A L r) : Ev N own cc nL ret d pc lc (st) I A L r := by
  subst hp
  intro p l e s m args below meth c dC dI ad cA hC H locs ls hP hS hl
  exact lv_iconst hC.1 hC.2.1 hd hv (k p l e s m args below meth c dC dI ad cA hC H locs ls hP hS hl)

theorem e_bipush {n : Int} {v : Int32} (hv : (Int8.ofInt n).toInt32 = v) {pc' : Nat} (hd : decode cc pc = .ok (.bipush n, 2)) (hp : pc + 2 = pc') (k : Ev N own cc nL ret d pc' lc (.int v :: st) I A L r) : Ev N own cc nL ret d pc lc (st) I A L r := by
  subst hp
  intro p l e s m args below meth c dC dI ad cA hC H locs ls hP hS hl
  exact lv_bipush hC.1 hC.2.1 hd hv (k p l e s m args below meth c dC dI ad cA hC H locs ls hP hS hl)

theorem e_sipush {n : Int} {v : Int32} (hv : (Int16.ofInt n).toInt32 = v) {pc' : Nat} (hd : decode cc pc = .ok (.sipush n, 3)) (hp : pc + 3 = pc') (k : Ev N own cc nL ret d pc' lc (.int v :: st) I A L r) : Ev N own cc nL ret d pc lc (st) I A L r := by
  subst hp
  intro p l e s m args below meth c dC dI ad cA hC H locs ls hP hS hl
  exact lv_sipush hC.1 hC.2.1 hd hv (k p l e s m args below meth c dC dI ad cA hC H locs ls hP hS hl)

theorem e_lconst {n : Fin 2} {v : Int64} (hv : Int64.ofNat (n : Nat) = v) {pc' : Nat} (hd : decode cc pc = .ok (.lconst n, 1)) (hp : pc + 1 = pc') (k : Ev N own cc nL ret d pc' lc (.long v :: st) I A L r) : Ev N own cc nL ret d pc lc (st) I A L r := by
  subst hp
  intro p l e s m args below meth c dC dI ad cA hC H locs ls hP hS hl
  exact lv_lconst hC.1 hC.2.1 hd hv (k p l e s m args below meth c dC dI ad cA hC H locs ls hP hS hl)

theorem e_iload_n {k0 : Fin 4} {i : Nat} {x : Int32} (hi : (k0 : Nat) = i) (hv : lc[i]? = some (some (.int x))) {pc' : Nat} (hd : decode cc pc = .ok (.iload_n k0, 1)) (hp : pc + 1 = pc') (k : Ev N own cc nL ret d pc' lc (.int x :: st) I A L r) : Ev N own cc nL ret d pc lc (st) I A L r := by
  subst hp
  intro p l e s m args below meth c dC dI ad cA hC H locs ls hP hS hl
  exact lv_iload_n hC.1 hC.2.1 hd hi (gPr_at hl hv) (k p l e s m args below meth c dC dI ad cA hC H locs ls hP hS hl)

theorem e_iload {i : Nat} {x : Int32} (hv : lc[i]? = some (some (.int x))) {pc' : Nat} (hd : decode cc pc = .ok (.iload i, 2)) (hp : pc + 2 = pc') (k : Ev N own cc nL ret d pc' lc (.int x :: st) I A L r) : Ev N own cc nL ret d pc lc (st) I A L r := by
  subst hp
  intro p l e s m args below meth c dC dI ad cA hC H locs ls hP hS hl
  exact lv_iload hC.1 hC.2.1 hd (gPr_at hl hv) (k p l e s m args below meth c dC dI ad cA hC H locs ls hP hS hl)

theorem e_lload_n {k0 : Fin 4} {i : Nat} {x : Int64} (hi : (k0 : Nat) = i) (hv : lc[i]? = some (some (.long x))) {pc' : Nat} (hd : decode cc pc = .ok (.lload_n k0, 1)) (hp : pc + 1 = pc') (k : Ev N own cc nL ret d pc' lc (.long x :: st) I A L r) : Ev N own cc nL ret d pc lc (st) I A L r := by
  subst hp
  intro p l e s m args below meth c dC dI ad cA hC H locs ls hP hS hl
  exact lv_lload_n hC.1 hC.2.1 hd hi (gPr_at hl hv) (k p l e s m args below meth c dC dI ad cA hC H locs ls hP hS hl)

theorem e_lload {i : Nat} {x : Int64} (hv : lc[i]? = some (some (.long x))) {pc' : Nat} (hd : decode cc pc = .ok (.lload i, 2)) (hp : pc + 2 = pc') (k : Ev N own cc nL ret d pc' lc (.long x :: st) I A L r) : Ev N own cc nL ret d pc lc (st) I A L r := by
  subst hp
  intro p l e s m args below meth c dC dI ad cA hC H locs ls hP hS hl
  exact lv_lload hC.1 hC.2.1 hd (gPr_at hl hv) (k p l e s m args below meth c dC dI ad cA hC H locs ls hP hS hl)

theorem e_aload_n {k0 : Fin 4} {i : Nat} {x : Nat} (hi : (k0 : Nat) = i) (hv : lc[i]? = some (some (.ref x))) {pc' : Nat} (hd : decode cc pc = .ok (.aload_n k0, 1)) (hp : pc + 1 = pc') (k : Ev N own cc nL ret d pc' lc (.ref x :: st) I A L r) : Ev N own cc nL ret d pc lc (st) I A L r := by
  subst hp
  intro p l e s m args below meth c dC dI ad cA hC H locs ls hP hS hl
  exact lv_aload_n hC.1 hC.2.1 hd hi (gPr_at hl hv) (k p l e s m args below meth c dC dI ad cA hC H locs ls hP hS hl)

theorem e_aload {i : Nat} {x : Nat} (hv : lc[i]? = some (some (.ref x))) {pc' : Nat} (hd : decode cc pc = .ok (.aload i, 2)) (hp : pc + 2 = pc') (k : Ev N own cc nL ret d pc' lc (.ref x :: st) I A L r) : Ev N own cc nL ret d pc lc (st) I A L r := by
  subst hp
  intro p l e s m args below meth c dC dI ad cA hC H locs ls hP hS hl
  exact lv_aload hC.1 hC.2.1 hd (gPr_at hl hv) (k p l e s m args below meth c dC dI ad cA hC H locs ls hP hS hl)

theorem e_istore_n {i : Nat} {x : Int32} {k0 : Fin 4} {pc' : Nat} {lc' : List (Option Value)} (hi : (k0 : Nat) = i) (hd : decode cc pc = .ok (.istore_n k0, 1)) (hp : pc + 1 = pc') (hn : i < nL) (hok : gok lc i = true) (hlc : (lc.set i (some (.int x))) = lc') (k : Ev N own cc nL ret d pc' lc' (st) I A L r) : Ev N own cc nL ret d pc lc (.int x :: st) I A L r := by
  subst hp
  intro p l e s m args below meth c dC dI ad cA hC H locs ls hP hS hl
  exact lv_istore_n hC.1 hC.2.1 hd hi hl hn rfl (fun ls hl => by
    have hl := gPr_st1 (ad := ad) (v := .int x) hok hl
    exact (k p l e s m args below meth c dC dI ad cA hC H locs ls hP hS (by rw [hlc] at hl; exact hl)))

theorem e_istore {i : Nat} {x : Int32} {pc' : Nat} {lc' : List (Option Value)} (hd : decode cc pc = .ok (.istore i, 2)) (hp : pc + 2 = pc') (hn : i < nL) (hok : gok lc i = true) (hlc : (lc.set i (some (.int x))) = lc') (k : Ev N own cc nL ret d pc' lc' (st) I A L r) : Ev N own cc nL ret d pc lc (.int x :: st) I A L r := by
  subst hp
  intro p l e s m args below meth c dC dI ad cA hC H locs ls hP hS hl
  exact lv_istore hC.1 hC.2.1 hd hl hn rfl (fun ls hl => by
    have hl := gPr_st1 (ad := ad) (v := .int x) hok hl
    exact (k p l e s m args below meth c dC dI ad cA hC H locs ls hP hS (by rw [hlc] at hl; exact hl)))

theorem e_lstore_n {i : Nat} {x : Int64} {k0 : Fin 4} {pc' : Nat} {lc' : List (Option Value)} (hi : (k0 : Nat) = i) (hd : decode cc pc = .ok (.lstore_n k0, 1)) (hp : pc + 1 = pc') (hn : i + 1 < nL) (hok : gok lc i = true) (hlc : ((lc.set i (some (.long x))).set (i + 1) none) = lc') (k : Ev N own cc nL ret d pc' lc' (st) I A L r) : Ev N own cc nL ret d pc lc (.long x :: st) I A L r := by
  subst hp
  intro p l e s m args below meth c dC dI ad cA hC H locs ls hP hS hl
  exact lv_lstore_n hC.1 hC.2.1 hd hi hl hn rfl (fun ls hl => by
    have hl := gPr_st2 (ad := ad) (v := .long x) hok hl
    exact (k p l e s m args below meth c dC dI ad cA hC H locs ls hP hS (by rw [hlc] at hl; exact hl)))

theorem e_lstore {i : Nat} {x : Int64} {pc' : Nat} {lc' : List (Option Value)} (hd : decode cc pc = .ok (.lstore i, 2)) (hp : pc + 2 = pc') (hn : i + 1 < nL) (hok : gok lc i = true) (hlc : ((lc.set i (some (.long x))).set (i + 1) none) = lc') (k : Ev N own cc nL ret d pc' lc' (st) I A L r) : Ev N own cc nL ret d pc lc (.long x :: st) I A L r := by
  subst hp
  intro p l e s m args below meth c dC dI ad cA hC H locs ls hP hS hl
  exact lv_lstore hC.1 hC.2.1 hd hl hn rfl (fun ls hl => by
    have hl := gPr_st2 (ad := ad) (v := .long x) hok hl
    exact (k p l e s m args below meth c dC dI ad cA hC H locs ls hP hS (by rw [hlc] at hl; exact hl)))

theorem e_astore_n {i : Nat} {x : Nat} {k0 : Fin 4} {pc' : Nat} {lc' : List (Option Value)} (hi : (k0 : Nat) = i) (hd : decode cc pc = .ok (.astore_n k0, 1)) (hp : pc + 1 = pc') (hn : i < nL) (hok : gok lc i = true) (hlc : (lc.set i (some (.ref x))) = lc') (k : Ev N own cc nL ret d pc' lc' (st) I A L r) : Ev N own cc nL ret d pc lc (.ref x :: st) I A L r := by
  subst hp
  intro p l e s m args below meth c dC dI ad cA hC H locs ls hP hS hl
  exact lv_astore_n hC.1 hC.2.1 hd hi hl hn rfl (fun ls hl => by
    have hl := gPr_st1 (ad := ad) (v := .ref x) hok hl
    exact (k p l e s m args below meth c dC dI ad cA hC H locs ls hP hS (by rw [hlc] at hl; exact hl)))

theorem e_astore {i : Nat} {x : Nat} {pc' : Nat} {lc' : List (Option Value)} (hd : decode cc pc = .ok (.astore i, 2)) (hp : pc + 2 = pc') (hn : i < nL) (hok : gok lc i = true) (hlc : (lc.set i (some (.ref x))) = lc') (k : Ev N own cc nL ret d pc' lc' (st) I A L r) : Ev N own cc nL ret d pc lc (.ref x :: st) I A L r := by
  subst hp
  intro p l e s m args below meth c dC dI ad cA hC H locs ls hP hS hl
  exact lv_astore hC.1 hC.2.1 hd hl hn rfl (fun ls hl => by
    have hl := gPr_st1 (ad := ad) (v := .ref x) hok hl
    exact (k p l e s m args below meth c dC dI ad cA hC H locs ls hP hS (by rw [hlc] at hl; exact hl)))

theorem e_iinc {i : Nat} {n : Int} {x v : Int32} {pc' : Nat} {lc' : List (Option Value)} (hd : decode cc pc = .ok (.iinc i n, 3)) (hp : pc + 3 = pc') (hv : lc[i]? = some (some (.int x))) (hw : x + Int32.ofInt n = v) (hn : i < nL) (hok : gok lc i = true) (hlc : lc.set i (some (.int v)) = lc') (k : Ev N own cc nL ret d pc' lc' (st) I A L r) : Ev N own cc nL ret d pc lc (st) I A L r := by
  subst hp
  intro p l e s m args below meth c dC dI ad cA hC H locs ls hP hS hl
  have hm : (i, Value.int x) ∈ gPr ad lc := gPr_mem.mpr ⟨.int x, hv, rfl⟩
  obtain ⟨kk, hkk⟩ := List.mem_iff_getElem?.mp hm
  exact lv_iinc hC.1 hC.2.1 hd hl hkk hw hn rfl (fun ls hl => by
    have hl := gPr_st1 (ad := ad) (v := .int v) hok hl
    exact (k p l e s m args below meth c dC dI ad cA hC H locs ls hP hS (by rw [hlc] at hl; exact hl)))

theorem e_iadd {x y : Int32} {pc' : Nat} (hd : decode cc pc = .ok (.iadd, 1)) (hp : pc + 1 = pc') (k : Ev N own cc nL ret d pc' lc (.int (x + y) :: st) I A L r) : Ev N own cc nL ret d pc lc (.int y :: .int x :: st) I A L r := by
  subst hp
  intro p l e s m args below meth c dC dI ad cA hC H locs ls hP hS hl
  exact lv_iadd hC.1 hC.2.1 hd (k p l e s m args below meth c dC dI ad cA hC H locs ls hP hS hl)

theorem e_isub {x y : Int32} {pc' : Nat} (hd : decode cc pc = .ok (.isub, 1)) (hp : pc + 1 = pc') (k : Ev N own cc nL ret d pc' lc (.int (x - y) :: st) I A L r) : Ev N own cc nL ret d pc lc (.int y :: .int x :: st) I A L r := by
  subst hp
  intro p l e s m args below meth c dC dI ad cA hC H locs ls hP hS hl
  exact lv_isub hC.1 hC.2.1 hd (k p l e s m args below meth c dC dI ad cA hC H locs ls hP hS hl)

theorem e_imul {x y : Int32} {pc' : Nat} (hd : decode cc pc = .ok (.imul, 1)) (hp : pc + 1 = pc') (k : Ev N own cc nL ret d pc' lc (.int (x * y) :: st) I A L r) : Ev N own cc nL ret d pc lc (.int y :: .int x :: st) I A L r := by
  subst hp
  intro p l e s m args below meth c dC dI ad cA hC H locs ls hP hS hl
  exact lv_imul hC.1 hC.2.1 hd (k p l e s m args below meth c dC dI ad cA hC H locs ls hP hS hl)

theorem e_iand {x y : Int32} {pc' : Nat} (hd : decode cc pc = .ok (.iand, 1)) (hp : pc + 1 = pc') (k : Ev N own cc nL ret d pc' lc (.int (x &&& y) :: st) I A L r) : Ev N own cc nL ret d pc lc (.int y :: .int x :: st) I A L r := by
  subst hp
  intro p l e s m args below meth c dC dI ad cA hC H locs ls hP hS hl
  exact lv_iand hC.1 hC.2.1 hd (k p l e s m args below meth c dC dI ad cA hC H locs ls hP hS hl)

theorem e_ior {x y : Int32} {pc' : Nat} (hd : decode cc pc = .ok (.ior, 1)) (hp : pc + 1 = pc') (k : Ev N own cc nL ret d pc' lc (.int (x ||| y) :: st) I A L r) : Ev N own cc nL ret d pc lc (.int y :: .int x :: st) I A L r := by
  subst hp
  intro p l e s m args below meth c dC dI ad cA hC H locs ls hP hS hl
  exact lv_ior hC.1 hC.2.1 hd (k p l e s m args below meth c dC dI ad cA hC H locs ls hP hS hl)

theorem e_ixor {x y : Int32} {pc' : Nat} (hd : decode cc pc = .ok (.ixor, 1)) (hp : pc + 1 = pc') (k : Ev N own cc nL ret d pc' lc (.int (x ^^^ y) :: st) I A L r) : Ev N own cc nL ret d pc lc (.int y :: .int x :: st) I A L r := by
  subst hp
  intro p l e s m args below meth c dC dI ad cA hC H locs ls hP hS hl
  exact lv_ixor hC.1 hC.2.1 hd (k p l e s m args below meth c dC dI ad cA hC H locs ls hP hS hl)

theorem e_ishl {x y : Int32} {pc' : Nat} (hd : decode cc pc = .ok (.ishl, 1)) (hp : pc + 1 = pc') (k : Ev N own cc nL ret d pc' lc (.int (x <<< (y &&& 31)) :: st) I A L r) : Ev N own cc nL ret d pc lc (.int y :: .int x :: st) I A L r := by
  subst hp
  intro p l e s m args below meth c dC dI ad cA hC H locs ls hP hS hl
  exact lv_ishl hC.1 hC.2.1 hd (k p l e s m args below meth c dC dI ad cA hC H locs ls hP hS hl)

theorem e_ishr {x y : Int32} {pc' : Nat} (hd : decode cc pc = .ok (.ishr, 1)) (hp : pc + 1 = pc') (k : Ev N own cc nL ret d pc' lc (.int (x >>> (y &&& 31)) :: st) I A L r) : Ev N own cc nL ret d pc lc (.int y :: .int x :: st) I A L r := by
  subst hp
  intro p l e s m args below meth c dC dI ad cA hC H locs ls hP hS hl
  exact lv_ishr hC.1 hC.2.1 hd (k p l e s m args below meth c dC dI ad cA hC H locs ls hP hS hl)

theorem e_idiv {x y : Int32} (hne : ¬ y = 0) {pc' : Nat} (hd : decode cc pc = .ok (.idiv, 1)) (hp : pc + 1 = pc') (k : Ev N own cc nL ret d pc' lc (.int (x / y) :: st) I A L r) : Ev N own cc nL ret d pc lc (.int y :: .int x :: st) I A L r := by
  subst hp
  intro p l e s m args below meth c dC dI ad cA hC H locs ls hP hS hl
  exact lv_idiv hC.1 hC.2.1 hd hne (k p l e s m args below meth c dC dI ad cA hC H locs ls hP hS hl)

theorem e_irem {x y : Int32} (hne : ¬ y = 0) {pc' : Nat} (hd : decode cc pc = .ok (.irem, 1)) (hp : pc + 1 = pc') (k : Ev N own cc nL ret d pc' lc (.int (x - x / y * y) :: st) I A L r) : Ev N own cc nL ret d pc lc (.int y :: .int x :: st) I A L r := by
  subst hp
  intro p l e s m args below meth c dC dI ad cA hC H locs ls hP hS hl
  exact lv_irem hC.1 hC.2.1 hd hne (k p l e s m args below meth c dC dI ad cA hC H locs ls hP hS hl)

theorem e_ineg {x : Int32} {pc' : Nat} (hd : decode cc pc = .ok (.ineg, 1)) (hp : pc + 1 = pc') (k : Ev N own cc nL ret d pc' lc (.int (-x) :: st) I A L r) : Ev N own cc nL ret d pc lc (.int x :: st) I A L r := by
  subst hp
  intro p l e s m args below meth c dC dI ad cA hC H locs ls hP hS hl
  exact lv_ineg hC.1 hC.2.1 hd (k p l e s m args below meth c dC dI ad cA hC H locs ls hP hS hl)

theorem e_iushr {x y : Int32} {pc' : Nat} (hd : decode cc pc = .ok (.iushr, 1)) (hp : pc + 1 = pc') (k : Ev N own cc nL ret d pc' lc (.int ((x.toUInt32 >>> (y.toUInt32 &&& Int32.toUInt32 31)).toInt32) :: st) I A L r) : Ev N own cc nL ret d pc lc (.int y :: .int x :: st) I A L r := by
  subst hp
  intro p l e s m args below meth c dC dI ad cA hC H locs ls hP hS hl
  exact lv_iushr hC.1 hC.2.1 hd rfl (k p l e s m args below meth c dC dI ad cA hC H locs ls hP hS hl)

theorem e_ladd {x y : Int64} {pc' : Nat} (hd : decode cc pc = .ok (.ladd, 1)) (hp : pc + 1 = pc') (k : Ev N own cc nL ret d pc' lc (.long (x + y) :: st) I A L r) : Ev N own cc nL ret d pc lc (.long y :: .long x :: st) I A L r := by
  subst hp
  intro p l e s m args below meth c dC dI ad cA hC H locs ls hP hS hl
  exact lv_ladd hC.1 hC.2.1 hd (k p l e s m args below meth c dC dI ad cA hC H locs ls hP hS hl)

theorem e_lsub {x y : Int64} {pc' : Nat} (hd : decode cc pc = .ok (.lsub, 1)) (hp : pc + 1 = pc') (k : Ev N own cc nL ret d pc' lc (.long (x - y) :: st) I A L r) : Ev N own cc nL ret d pc lc (.long y :: .long x :: st) I A L r := by
  subst hp
  intro p l e s m args below meth c dC dI ad cA hC H locs ls hP hS hl
  exact lv_lsub hC.1 hC.2.1 hd (k p l e s m args below meth c dC dI ad cA hC H locs ls hP hS hl)

theorem e_lmul {x y : Int64} {pc' : Nat} (hd : decode cc pc = .ok (.lmul, 1)) (hp : pc + 1 = pc') (k : Ev N own cc nL ret d pc' lc (.long (x * y) :: st) I A L r) : Ev N own cc nL ret d pc lc (.long y :: .long x :: st) I A L r := by
  subst hp
  intro p l e s m args below meth c dC dI ad cA hC H locs ls hP hS hl
  exact lv_lmul hC.1 hC.2.1 hd (k p l e s m args below meth c dC dI ad cA hC H locs ls hP hS hl)

theorem e_ldiv {x y : Int64} (hne : ¬ y = 0) {pc' : Nat} (hd : decode cc pc = .ok (.ldiv, 1)) (hp : pc + 1 = pc') (k : Ev N own cc nL ret d pc' lc (.long (x / y) :: st) I A L r) : Ev N own cc nL ret d pc lc (.long y :: .long x :: st) I A L r := by
  subst hp
  intro p l e s m args below meth c dC dI ad cA hC H locs ls hP hS hl
  exact lv_ldiv hC.1 hC.2.1 hd hne (k p l e s m args below meth c dC dI ad cA hC H locs ls hP hS hl)

theorem e_lrem {x y : Int64} (hne : ¬ y = 0) {pc' : Nat} (hd : decode cc pc = .ok (.lrem, 1)) (hp : pc + 1 = pc') (k : Ev N own cc nL ret d pc' lc (.long (x - x / y * y) :: st) I A L r) : Ev N own cc nL ret d pc lc (.long y :: .long x :: st) I A L r := by
  subst hp
  intro p l e s m args below meth c dC dI ad cA hC H locs ls hP hS hl
  exact lv_lrem hC.1 hC.2.1 hd hne (k p l e s m args below meth c dC dI ad cA hC H locs ls hP hS hl)

theorem e_lcmp {x y : Int64} {pc' : Nat} (hd : decode cc pc = .ok (.lcmp, 1)) (hp : pc + 1 = pc') (k : Ev N own cc nL ret d pc' lc (.int (lg_cmp x y) :: st) I A L r) : Ev N own cc nL ret d pc lc (.long y :: .long x :: st) I A L r := by
  subst hp
  intro p l e s m args below meth c dC dI ad cA hC H locs ls hP hS hl
  exact W.lcmp hC.1 hC.2.1 hd (k p l e s m args below meth c dC dI ad cA hC H locs ls hP hS hl)

theorem e_i2l {x : Int32} {pc' : Nat} (hd : decode cc pc = .ok (.i2l, 1)) (hp : pc + 1 = pc') (k : Ev N own cc nL ret d pc' lc (.long x.toInt64 :: st) I A L r) : Ev N own cc nL ret d pc lc (.int x :: st) I A L r := by
  subst hp
  intro p l e s m args below meth c dC dI ad cA hC H locs ls hP hS hl
  exact lv_i2l hC.1 hC.2.1 hd rfl (k p l e s m args below meth c dC dI ad cA hC H locs ls hP hS hl)

theorem e_l2i {x : Int64} {pc' : Nat} (hd : decode cc pc = .ok (.l2i, 1)) (hp : pc + 1 = pc') (k : Ev N own cc nL ret d pc' lc (.int x.toInt32 :: st) I A L r) : Ev N own cc nL ret d pc lc (.long x :: st) I A L r := by
  subst hp
  intro p l e s m args below meth c dC dI ad cA hC H locs ls hP hS hl
  exact lv_l2i hC.1 hC.2.1 hd rfl (k p l e s m args below meth c dC dI ad cA hC H locs ls hP hS hl)

theorem e_i2b {x : Int32} {pc' : Nat} (hd : decode cc pc = .ok (.i2b, 1)) (hp : pc + 1 = pc') (k : Ev N own cc nL ret d pc' lc (.int x.toInt8.toInt32 :: st) I A L r) : Ev N own cc nL ret d pc lc (.int x :: st) I A L r := by
  subst hp
  intro p l e s m args below meth c dC dI ad cA hC H locs ls hP hS hl
  exact lv_i2b hC.1 hC.2.1 hd rfl (k p l e s m args below meth c dC dI ad cA hC H locs ls hP hS hl)

theorem cv_cat (ad : Nat → Nat) (v : Value) : (cv ad v).category = v.category := by cases v <;> rfl
theorem e_dup {v : Value} (hv : v.category = 1) {pc' : Nat} (hd : decode cc pc = .ok (.dup, 1)) (hp : pc + 1 = pc') (k : Ev N own cc nL ret d pc' lc (v :: v :: st) I A L r) : Ev N own cc nL ret d pc lc (v :: st) I A L r := by
  subst hp
  intro p l e s m args below meth c dC dI ad cA hC H locs ls hP hS hl
  exact lv_dup hC.1 hC.2.1 hd ((cv_cat ad v).trans hv) (k p l e s m args below meth c dC dI ad cA hC H locs ls hP hS hl)

theorem e_pop {v : Value} (hv : v.category = 1) {pc' : Nat} (hd : decode cc pc = .ok (.pop, 1)) (hp : pc + 1 = pc') (k : Ev N own cc nL ret d pc' lc (st) I A L r) : Ev N own cc nL ret d pc lc (v :: st) I A L r := by
  subst hp
  intro p l e s m args below meth c dC dI ad cA hC H locs ls hP hS hl
  exact lv_pop hC.1 hC.2.1 hd ((cv_cat ad v).trans hv) (k p l e s m args below meth c dC dI ad cA hC H locs ls hP hS hl)

theorem e_dup2 {v w : Value} (hv : v.category = 1) (hw : w.category = 1) {pc' : Nat} (hd : decode cc pc = .ok (.dup2, 1)) (hp : pc + 1 = pc') (k : Ev N own cc nL ret d pc' lc (v :: w :: v :: w :: st) I A L r) : Ev N own cc nL ret d pc lc (v :: w :: st) I A L r := by
  subst hp
  intro p l e s m args below meth c dC dI ad cA hC H locs ls hP hS hl
  exact lv_dup2_11 hC.1 hC.2.1 hd ((cv_cat ad v).trans hv) ((cv_cat ad w).trans hw) (k p l e s m args below meth c dC dI ad cA hC H locs ls hP hS hl)

theorem e_ldc {n : Nat} {v : Int32} (hw : Cond.constant own n v ∈ gT) {pc' : Nat} (hd : decode cc pc = .ok (.ldc n, 2)) (hp : pc + 2 = pc') (k : Ev N own cc nL ret d pc' lc (.int v :: st) I A L r) : Ev N own cc nL ret d pc lc (st) I A L r := by
  subst hp
  intro p l e s m args below meth c dC dI ad cA hC H locs ls hP hS hl
  exact lv_ldc hC.1 hC.2.1 hC.2.2.2.2.1 (hC.2.2.2.2.2.1 _ hw) hd (k p l e s m args below meth c dC dI ad cA hC H locs ls hP hS hl)

theorem e_ldcw {n : Nat} {v : Int32} (hw : Cond.constant own n v ∈ gT) {pc' : Nat} (hd : decode cc pc = .ok (.ldc_w n, 3)) (hp : pc + 3 = pc') (k : Ev N own cc nL ret d pc' lc (.int v :: st) I A L r) : Ev N own cc nL ret d pc lc (st) I A L r := by
  subst hp
  intro p l e s m args below meth c dC dI ad cA hC H locs ls hP hS hl
  exact lv_ldcw hC.1 hC.2.1 hC.2.2.2.2.1 (hC.2.2.2.2.2.1 _ hw) hd (k p l e s m args below meth c dC dI ad cA hC H locs ls hP hS hl)

theorem e_ldc2 {n : Nat} {v : Int64} (hw : Cond.constantLong own n v ∈ gT) {pc' : Nat} (hd : decode cc pc = .ok (.ldc2_w n, 3)) (hp : pc + 3 = pc') (k : Ev N own cc nL ret d pc' lc (.long v :: st) I A L r) : Ev N own cc nL ret d pc lc (st) I A L r := by
  subst hp
  intro p l e s m args below meth c dC dI ad cA hC H locs ls hP hS hl
  exact lv_ldc2 hC.1 hC.2.1 hC.2.2.2.2.1 (hC.2.2.2.2.2.1 _ hw) hd (k p l e s m args below meth c dC dI ad cA hC H locs ls hP hS hl)

theorem e_goto {off : Int} {tgt : Nat} (hd : decode cc pc = .ok (.goto off, 3)) (ht : (pc : Int) + off = (tgt : Int)) (k : Ev N own cc nL ret d tgt lc (st) I A L r) : Ev N own cc nL ret d pc lc (st) I A L r := by
  intro p l e s m args below meth c dC dI ad cA hC H locs ls hP hS hl
  exact lv_goto hC.1 hC.2.1 hd ht (k p l e s m args below meth c dC dI ad cA hC H locs ls hP hS hl)
theorem e_weak {lc' : List (Option Value)} (hh : gLe lc' lc) (k : Ev N own cc nL ret d pc lc' (st) I A L r) : Ev N own cc nL ret d pc lc (st) I A L r := by
  intro p l e s m args below meth c dC dI ad cA hC H locs ls hP hS hl
  exact k p l e s m args below meth c dC dI ad cA hC H locs ls hP hS (gPr_le hh hl)
theorem e_ifnonnull {x : Nat} {off : Int} {tgt : Nat} (hd : decode cc pc = .ok (.ifnonnull off, 3)) (ht : (pc : Int) + off = (tgt : Int)) (k : Ev N own cc nL ret d tgt lc (st) I A L r) : Ev N own cc nL ret d pc lc (.ref x :: st) I A L r := by
  intro p l e s m args below meth c dC dI ad cA hC H locs ls hP hS hl
  exact lv_ifnonnull hC.1 hC.2.1 hd ht (k p l e s m args below meth c dC dI ad cA hC H locs ls hP hS hl)
theorem e_ifnull {x : Nat} {off : Int} {pc' : Nat} (hd : decode cc pc = .ok (.ifnull off, 3)) (hp : pc + 3 = pc') (k : Ev N own cc nL ret d pc' lc (st) I A L r) : Ev N own cc nL ret d pc lc (.ref x :: st) I A L r := by
  subst hp
  intro p l e s m args below meth c dC dI ad cA hC H locs ls hP hS hl
  exact lv_ifnull hC.1 hC.2.1 hd (k p l e s m args below meth c dC dI ad cA hC H locs ls hP hS hl)

theorem e_if_eq {τ : Type} {f g : Option τ} {t : τ} {x : Int32} {off : Int} {tgt pc' : Nat} (hd : decode cc pc = .ok (.ifCond .eq off, 3)) (ht : (pc : Int) + off = (tgt : Int)) (hp : pc + 3 = pc') (h : (if x = 0 then f else g) = some t) (kt : f = some t → Ev N own cc nL ret d tgt lc (st) I A L r) (kf : g = some t → Ev N own cc nL ret d pc' lc (st) I A L r) : Ev N own cc nL ret d pc lc (.int x :: st) I A L r := by
  subst hp
  intro p l e s m args below meth c dC dI ad cA hC H locs ls hP hS hl
  exact lv_if_eq hC.1 hC.2.1 hd ht (fun q => by rw [if_pos q] at h; exact kt h p l e s m args below meth c dC dI ad cA hC H locs ls hP hS hl) (fun q => by rw [if_neg q] at h; exact kf h p l e s m args below meth c dC dI ad cA hC H locs ls hP hS hl)

theorem e_if_lt {τ : Type} {f g : Option τ} {t : τ} {x : Int32} {off : Int} {tgt pc' : Nat} (hd : decode cc pc = .ok (.ifCond .lt off, 3)) (ht : (pc : Int) + off = (tgt : Int)) (hp : pc + 3 = pc') (h : (if x < 0 then f else g) = some t) (kt : f = some t → Ev N own cc nL ret d tgt lc (st) I A L r) (kf : g = some t → Ev N own cc nL ret d pc' lc (st) I A L r) : Ev N own cc nL ret d pc lc (.int x :: st) I A L r := by
  subst hp
  intro p l e s m args below meth c dC dI ad cA hC H locs ls hP hS hl
  exact lv_if_lt hC.1 hC.2.1 hd ht (fun q => by rw [if_pos q] at h; exact kt h p l e s m args below meth c dC dI ad cA hC H locs ls hP hS hl) (fun q => by rw [if_neg q] at h; exact kf h p l e s m args below meth c dC dI ad cA hC H locs ls hP hS hl)

theorem e_if_ge {τ : Type} {f g : Option τ} {t : τ} {x : Int32} {off : Int} {tgt pc' : Nat} (hd : decode cc pc = .ok (.ifCond .ge off, 3)) (ht : (pc : Int) + off = (tgt : Int)) (hp : pc + 3 = pc') (h : (if 0 ≤ x then f else g) = some t) (kt : f = some t → Ev N own cc nL ret d tgt lc (st) I A L r) (kf : g = some t → Ev N own cc nL ret d pc' lc (st) I A L r) : Ev N own cc nL ret d pc lc (.int x :: st) I A L r := by
  subst hp
  intro p l e s m args below meth c dC dI ad cA hC H locs ls hP hS hl
  exact lv_if_ge hC.1 hC.2.1 hd ht (fun q => by rw [if_pos q] at h; exact kt h p l e s m args below meth c dC dI ad cA hC H locs ls hP hS hl) (fun q => by rw [if_neg q] at h; exact kf h p l e s m args below meth c dC dI ad cA hC H locs ls hP hS hl)

theorem e_if_gt {τ : Type} {f g : Option τ} {t : τ} {x : Int32} {off : Int} {tgt pc' : Nat} (hd : decode cc pc = .ok (.ifCond .gt off, 3)) (ht : (pc : Int) + off = (tgt : Int)) (hp : pc + 3 = pc') (h : (if 0 < x then f else g) = some t) (kt : f = some t → Ev N own cc nL ret d tgt lc (st) I A L r) (kf : g = some t → Ev N own cc nL ret d pc' lc (st) I A L r) : Ev N own cc nL ret d pc lc (.int x :: st) I A L r := by
  subst hp
  intro p l e s m args below meth c dC dI ad cA hC H locs ls hP hS hl
  exact lv_if_gt hC.1 hC.2.1 hd ht (fun q => by rw [if_pos q] at h; exact kt h p l e s m args below meth c dC dI ad cA hC H locs ls hP hS hl) (fun q => by rw [if_neg q] at h; exact kf h p l e s m args below meth c dC dI ad cA hC H locs ls hP hS hl)

theorem e_if_le {τ : Type} {f g : Option τ} {t : τ} {x : Int32} {off : Int} {tgt pc' : Nat} (hd : decode cc pc = .ok (.ifCond .le off, 3)) (ht : (pc : Int) + off = (tgt : Int)) (hp : pc + 3 = pc') (h : (if x ≤ 0 then f else g) = some t) (kt : f = some t → Ev N own cc nL ret d tgt lc (st) I A L r) (kf : g = some t → Ev N own cc nL ret d pc' lc (st) I A L r) : Ev N own cc nL ret d pc lc (.int x :: st) I A L r := by
  subst hp
  intro p l e s m args below meth c dC dI ad cA hC H locs ls hP hS hl
  exact lv_if_le hC.1 hC.2.1 hd ht (fun q => by rw [if_pos q] at h; exact kt h p l e s m args below meth c dC dI ad cA hC H locs ls hP hS hl) (fun q => by rw [if_neg q] at h; exact kf h p l e s m args below meth c dC dI ad cA hC H locs ls hP hS hl)

theorem e_icmp_eq {τ : Type} {f g : Option τ} {t : τ} {x y : Int32} {off : Int} {tgt pc' : Nat} (hd : decode cc pc = .ok (.if_icmp .eq off, 3)) (ht : (pc : Int) + off = (tgt : Int)) (hp : pc + 3 = pc') (h : (if x = y then f else g) = some t) (kt : f = some t → Ev N own cc nL ret d tgt lc (st) I A L r) (kf : g = some t → Ev N own cc nL ret d pc' lc (st) I A L r) : Ev N own cc nL ret d pc lc (.int y :: .int x :: st) I A L r := by
  subst hp
  intro p l e s m args below meth c dC dI ad cA hC H locs ls hP hS hl
  exact lv_icmp_eq hC.1 hC.2.1 hd ht (fun q => by rw [if_pos q] at h; exact kt h p l e s m args below meth c dC dI ad cA hC H locs ls hP hS hl) (fun q => by rw [if_neg q] at h; exact kf h p l e s m args below meth c dC dI ad cA hC H locs ls hP hS hl)

theorem e_icmp_lt {τ : Type} {f g : Option τ} {t : τ} {x y : Int32} {off : Int} {tgt pc' : Nat} (hd : decode cc pc = .ok (.if_icmp .lt off, 3)) (ht : (pc : Int) + off = (tgt : Int)) (hp : pc + 3 = pc') (h : (if x < y then f else g) = some t) (kt : f = some t → Ev N own cc nL ret d tgt lc (st) I A L r) (kf : g = some t → Ev N own cc nL ret d pc' lc (st) I A L r) : Ev N own cc nL ret d pc lc (.int y :: .int x :: st) I A L r := by
  subst hp
  intro p l e s m args below meth c dC dI ad cA hC H locs ls hP hS hl
  exact lv_icmp_lt hC.1 hC.2.1 hd ht (fun q => by rw [if_pos q] at h; exact kt h p l e s m args below meth c dC dI ad cA hC H locs ls hP hS hl) (fun q => by rw [if_neg q] at h; exact kf h p l e s m args below meth c dC dI ad cA hC H locs ls hP hS hl)

theorem e_icmp_ge {τ : Type} {f g : Option τ} {t : τ} {x y : Int32} {off : Int} {tgt pc' : Nat} (hd : decode cc pc = .ok (.if_icmp .ge off, 3)) (ht : (pc : Int) + off = (tgt : Int)) (hp : pc + 3 = pc') (h : (if y ≤ x then f else g) = some t) (kt : f = some t → Ev N own cc nL ret d tgt lc (st) I A L r) (kf : g = some t → Ev N own cc nL ret d pc' lc (st) I A L r) : Ev N own cc nL ret d pc lc (.int y :: .int x :: st) I A L r := by
  subst hp
  intro p l e s m args below meth c dC dI ad cA hC H locs ls hP hS hl
  exact lv_icmp_ge hC.1 hC.2.1 hd ht (fun q => by rw [if_pos q] at h; exact kt h p l e s m args below meth c dC dI ad cA hC H locs ls hP hS hl) (fun q => by rw [if_neg q] at h; exact kf h p l e s m args below meth c dC dI ad cA hC H locs ls hP hS hl)

theorem e_icmp_gt {τ : Type} {f g : Option τ} {t : τ} {x y : Int32} {off : Int} {tgt pc' : Nat} (hd : decode cc pc = .ok (.if_icmp .gt off, 3)) (ht : (pc : Int) + off = (tgt : Int)) (hp : pc + 3 = pc') (h : (if y < x then f else g) = some t) (kt : f = some t → Ev N own cc nL ret d tgt lc (st) I A L r) (kf : g = some t → Ev N own cc nL ret d pc' lc (st) I A L r) : Ev N own cc nL ret d pc lc (.int y :: .int x :: st) I A L r := by
  subst hp
  intro p l e s m args below meth c dC dI ad cA hC H locs ls hP hS hl
  exact lv_icmp_gt hC.1 hC.2.1 hd ht (fun q => by rw [if_pos q] at h; exact kt h p l e s m args below meth c dC dI ad cA hC H locs ls hP hS hl) (fun q => by rw [if_neg q] at h; exact kf h p l e s m args below meth c dC dI ad cA hC H locs ls hP hS hl)

theorem e_icmp_le {τ : Type} {f g : Option τ} {t : τ} {x y : Int32} {off : Int} {tgt pc' : Nat} (hd : decode cc pc = .ok (.if_icmp .le off, 3)) (ht : (pc : Int) + off = (tgt : Int)) (hp : pc + 3 = pc') (h : (if x ≤ y then f else g) = some t) (kt : f = some t → Ev N own cc nL ret d tgt lc (st) I A L r) (kf : g = some t → Ev N own cc nL ret d pc' lc (st) I A L r) : Ev N own cc nL ret d pc lc (.int y :: .int x :: st) I A L r := by
  subst hp
  intro p l e s m args below meth c dC dI ad cA hC H locs ls hP hS hl
  exact lv_icmp_le hC.1 hC.2.1 hd ht (fun q => by rw [if_pos q] at h; exact kt h p l e s m args below meth c dC dI ad cA hC H locs ls hP hS hl) (fun q => by rw [if_neg q] at h; exact kf h p l e s m args below meth c dC dI ad cA hC H locs ls hP hS hl)

theorem e_if_ne {τ : Type} {f g : Option τ} {t : τ} {x : Int32} {off : Int} {tgt pc' : Nat} (hd : decode cc pc = .ok (.ifCond .ne off, 3)) (ht : (pc : Int) + off = (tgt : Int)) (hp : pc + 3 = pc') (h : (if x = 0 then g else f) = some t) (kt : f = some t → Ev N own cc nL ret d tgt lc (st) I A L r) (kf : g = some t → Ev N own cc nL ret d pc' lc (st) I A L r) : Ev N own cc nL ret d pc lc (.int x :: st) I A L r := by
  subst hp
  intro p l e s m args below meth c dC dI ad cA hC H locs ls hP hS hl
  exact lv_if_ne hC.1 hC.2.1 hd ht (fun q => by rw [if_neg q] at h; exact kt h p l e s m args below meth c dC dI ad cA hC H locs ls hP hS hl) (fun q => by
    have q : x = 0 := q
    rw [if_pos q] at h; exact kf h p l e s m args below meth c dC dI ad cA hC H locs ls hP hS hl)
theorem e_icmp_ne {τ : Type} {f g : Option τ} {t : τ} {x y : Int32} {off : Int} {tgt pc' : Nat} (hd : decode cc pc = .ok (.if_icmp .ne off, 3)) (ht : (pc : Int) + off = (tgt : Int)) (hp : pc + 3 = pc') (h : (if x = y then g else f) = some t) (kt : f = some t → Ev N own cc nL ret d tgt lc (st) I A L r) (kf : g = some t → Ev N own cc nL ret d pc' lc (st) I A L r) : Ev N own cc nL ret d pc lc (.int y :: .int x :: st) I A L r := by
  subst hp
  intro p l e s m args below meth c dC dI ad cA hC H locs ls hP hS hl
  exact lv_icmp_ne hC.1 hC.2.1 hd ht (fun q => by rw [if_neg q] at h; exact kt h p l e s m args below meth c dC dI ad cA hC H locs ls hP hS hl) (fun q => by
    have q : x = y := q
    rw [if_pos q] at h; exact kf h p l e s m args below meth c dC dI ad cA hC H locs ls hP hS hl)
/-- a switch: one case -/
theorem e_swIn {dflt lo hi : Int} {offs : Array Int} {len : Nat} {x : Int32} {off : Int} {tgt : Nat} (hd : decode cc pc = .ok (.tableswitch dflt lo hi offs, len)) (h1 : ¬ x.toInt < lo) (h2 : ¬ hi < x.toInt) (ho : offs[(x.toInt - lo).toNat]? = some off) (ht : (pc : Int) + off = (tgt : Int)) (k : Ev N own cc nL ret d tgt lc (st) I A L r) : Ev N own cc nL ret d pc lc (.int x :: st) I A L r := by
  intro p l e s m args below meth c dC dI ad cA hC H locs ls hP hS hl
  exact lv_tableIn hC.1 hC.2.1 hd h1 h2 ho ht (k p l e s m args below meth c dC dI ad cA hC H locs ls hP hS hl)
theorem e_swOut {dflt lo hi : Int} {offs : Array Int} {len : Nat} {x : Int32} {tgt : Nat} (hd : decode cc pc = .ok (.tableswitch dflt lo hi offs, len)) (h : x.toInt < lo ∨ hi < x.toInt) (ht : (pc : Int) + dflt = (tgt : Int)) (k : Ev N own cc nL ret d tgt lc (st) I A L r) : Ev N own cc nL ret d pc lc (.int x :: st) I A L r := by
  intro p l e s m args below meth c dC dI ad cA hC H locs ls hP hS hl
  exact lv_tableOut hC.1 hC.2.1 hd h ht (k p l e s m args below meth c dC dI ad cA hC H locs ls hP hS hl)
end ERules
