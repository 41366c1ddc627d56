def kN (U : State) : Prop := (∀ w ∈ lw_tbl, g_nest w = true → va_Nw w U) ∧ va_AO RX2 U
theorem kN_moved {s U : State} (hW : s.WarmedH U.vm) (h : kN s) : kN U := ⟨fun w a b => g_nest_move b hW (h.1 w a b), va_AO.moved hW.alike h.2⟩
def kPc (dC : Nat → ClassId) (dI : Nat → Nat → Nat) (av : List Value) (sz : Nat) (ws : va_W) : Array Value → State → Prop := va_Pc av (fun U => U.heap.size = sz ∧ va_P (dC, dI) vwCl ws U.heap ∧ va_K (dC, dI) vwCl [] U ∧ va_D (fun _ => True) ws ∧ kN U)
theorem kPc_blind {dC : Nat → ClassId} {dI : Nat → Nat → Nat} {av : List Value} {sz : Nat} {ws : va_W} : FrameBlind (kPc dC dI av sz ws) := by
  intro a U g mk h
  obtain ⟨h0, h1, h2, h3, h4, h5, h6⟩ := h
  have e : U.vm.Alike (U.calling g mk a).vm := Vm.Alike.refl U.vm
  exact ⟨h0, h1, h2, va_K.moved (u := U) (U := U.calling g mk a) e h3, h4, fun w wa wb => va_Nw.same (u := U) (U := U.calling g mk a) (g_nest_on wb) rfl (h5 w wa wb), va_AO.moved e h6⟩
theorem kfs_X0 : ∀ j, j < 3 → defaultValue (tyX0 j) = vp_V [.null, .null, .int 0] j := fun j hj => by rcases (show j = 0 ∨ j = 1 ∨ j = 2 by omega) with rfl | rfl | rfl <;> rfl
theorem kfs_X1 : ∀ j, j < 11 → defaultValue (tyX1 j) = vp_V [.int 0, .int 0, .int 0, .int 0, .int 0, .int 0, .int 0, .int 0, .int 0, .int 0, .int 0] j := fun j hj => by rcases (show j = 0 ∨ j = 1 ∨ j = 2 ∨ j = 3 ∨ j = 4 ∨ j = 5 ∨ j = 6 ∨ j = 7 ∨ j = 8 ∨ j = 9 ∨ j = 10 by omega) with rfl | rfl | rfl | rfl | rfl | rfl | rfl | rfl | rfl | rfl | rfl <;> rfl
theorem kfs_X2 : ∀ j, j < 5 → defaultValue (tyX2 j) = vp_V [.null, .null, .null, .null, .int 0] j := fun j hj => by rcases (show j = 0 ∨ j = 1 ∨ j = 2 ∨ j = 3 ∨ j = 4 by omega) with rfl | rfl | rfl | rfl | rfl <;> rfl
theorem kfs_X3 : ∀ j, j < 9 → defaultValue (tyX3 j) = vp_V [.null, .int 0, .int 0, .int 0, .int 0, .int 0, .int 0, .int 0, .int 0] j := fun j hj => by rcases (show j = 0 ∨ j = 1 ∨ j = 2 ∨ j = 3 ∨ j = 4 ∨ j = 5 ∨ j = 6 ∨ j = 7 ∨ j = 8 by omega) with rfl | rfl | rfl | rfl | rfl | rfl | rfl | rfl | rfl <;> rfl
theorem kfs_X4 : ∀ j, j < 9 → defaultValue (tyX4 j) = vp_V [.null, .null, .null, .null, .null, .null, .null, .int 0, .int 0] j := fun j hj => by rcases (show j = 0 ∨ j = 1 ∨ j = 2 ∨ j = 3 ∨ j = 4 ∨ j = 5 ∨ j = 6 ∨ j = 7 ∨ j = 8 by omega) with rfl | rfl | rfl | rfl | rfl | rfl | rfl | rfl | rfl <;> rfl
theorem kfs_X5 : ∀ j, j < 3 → defaultValue (tyX5 j) = vp_V [.null, .int 0, .int 0] j := fun j hj => by rcases (show j = 0 ∨ j = 1 ∨ j = 2 by omega) with rfl | rfl | rfl <;> rfl
theorem kfs_X6 : ∀ j, j < 16 → defaultValue (tyX6 j) = vp_V [.null, .null, .null, .null, .null, .null, .null, .int 0, .int 0, .int 0, .int 0, .int 0, .int 0, .int 0, .int 0, .int 0] j := fun j hj => by rcases (show j = 0 ∨ j = 1 ∨ j = 2 ∨ j = 3 ∨ j = 4 ∨ j = 5 ∨ j = 6 ∨ j = 7 ∨ j = 8 ∨ j = 9 ∨ j = 10 ∨ j = 11 ∨ j = 12 ∨ j = 13 ∨ j = 14 ∨ j = 15 by omega) with rfl | rfl | rfl | rfl | rfl | rfl | rfl | rfl | rfl | rfl | rfl | rfl | rfl | rfl | rfl | rfl <;> rfl
theorem kfs_X7 : ∀ j, j < 16 → defaultValue (tyX7 j) = vp_V [.null, .null, .int 0, .null, .null, .null, .int 0, .int 0, .long 0, .long 0, .null, .int 0, .null, .null, .null, .null] j := fun j hj => by rcases (show j = 0 ∨ j = 1 ∨ j = 2 ∨ j = 3 ∨ j = 4 ∨ j = 5 ∨ j = 6 ∨ j = 7 ∨ j = 8 ∨ j = 9 ∨ j = 10 ∨ j = 11 ∨ j = 12 ∨ j = 13 ∨ j = 14 ∨ j = 15 by omega) with rfl | rfl | rfl | rfl | rfl | rfl | rfl | rfl | rfl | rfl | rfl | rfl | rfl | rfl | rfl | rfl <;> rfl
set_option maxHeartbeats 4000000 in
set_option maxRecDepth 100000 in
theorem k_X1_init (l : Launch) (dC : Nat → ClassId) (dI : Nat → Nat → Nat) (h0 : Nat) (sz : Nat) : Met l yX1_init (Cond.code yX1_init cX1_init 1 none :: gT) ({ frames := 1, cells := 0, slots := 0, locals := 12 }) (kPc dC dI [.ref h0] sz [(h0, .inr (1, [.int 0, .int 0, .int 0, .int 0, .int 0, .int 0, .int 0, .int 0, .int 0, .int 0, .int 0]))]) (va_Qv (fun _ : Unit => True) (fun _ t => va_P (dC, dI) vwCl [(h0, .inr (1, [.int 0, .int 0, .int 0, .int 0, .int 0, .int 0, .int 0, .int 0, .int 0, .int 0, .int 0]))] t.heap ∧ va_K (dC, dI) vwCl [] t ∧ va_D (va_A [(h0, .inr (1, [.int 0, .int 0, .int 0, .int 0, .int 0, .int 0, .int 0, .int 0, .int 0, .int 0, .int 0]))] sz) [(h0, .inr (1, [.int 0, .int 0, .int 0, .int 0, .int 0, .int 0, .int 0, .int 0, .int 0, .int 0, .int 0]))]) (va_A [(h0, .inr (1, [.int 0, .int 0, .int 0, .int 0, .int 0, .int 0, .int 0, .int 0, .int 0, .int 0, .int 0]))] sz)) 0 0 (va_A [(h0, .inr (1, [.int 0, .int 0, .int 0, .int 0, .int 0, .int 0, .int 0, .int 0, .int 0, .int 0, .int 0]))] sz) := by
  refine Met.ofW (cc := cX1_init) (maxL := 1) (ret := none) (by decide +kernel) rfl ?_
  intro p e s m args below meth c s₁ B hml hv
  obtain ⟨rfl, hsz, hP, hK, hD0, hN⟩ := hv
  have hx := B.exec
  have hb := B.bytes
  have hr := B.returns
  have hts0 := atoms_spec (ws := Cond.code yX1_init cX1_init 1 none :: gT) B.pre
  have hts : ∀ w ∈ gT, w.before _ s = true := fun w hw => hts0 w (List.mem_cons_of_mem _ hw)
  have hown : s.vm.findClass RX1 = some m.cls := findClass_of_methodNamed B.named
  have hlocks := B.notSynchronized
  have hin : meth.name = "<init>" := (name_of_methodNamed B.named B.method).1
  subst hsz
  have hD := hD0.self (sz := s.heap.size)
  generalize hAe : va_A [(h0, .inr (1, [.int 0, .int 0, .int 0, .int 0, .int 0, .int 0, .int 0, .int 0, .int 0, .int 0, .int 0]))] s.heap.size = A at hD ⊢
  have hA : ∀ q : Nat, s.heap.size ≤ q → A q := fun q h => by rw [← hAe]; exact Or.inr h
  have hS : va_S A s.heap s.heap [] := va_S.rf
  have hP : va_P (dC, dI) vwCl [(h0, .inr (1, [.int 0, .int 0, .int 0, .int 0, .int 0, .int 0, .int 0, .int 0, .int 0, .int 0, .int 0]))] s.heap := hP
  have hl := lv_entry ([.ref h0]) (n := 1) (Nat.le_of_ble_eq_true rfl)
  rw [lg_entry_eq]
  generalize (lg_sl ([.ref h0]) ++ List.replicate (1 - (lg_sl ([.ref h0])).length) Slot.unset).toArray = ls at hl ⊢
  have hl : lv_has ls 1 [(0, .ref h0)] := hl
  refine lv_aload_n hx hb dX1_init_0 rfl (lv_at hl 0 rfl) ?_
  refine W.objInit hx hb hown (hts _ mw_190) (hts _ mw_118) (hts _ mw_119) rfl (by rw [hml]; exact hl.1) rfl dX1_init_1 (Nat.le_of_ble_eq_true rfl) (Nat.le_of_ble_eq_true rfl) ?_
  refine W.eq (g2 := F0 m 4 ls []) rfl ?_
  exact W.vret hx hb hr (fun t ht hW => ⟨⟨(), rfl, trivial, by rw [ht]; exact hP, va_K.moved hW.alike hK, hD⟩, hS.F ht⟩) hS.2.2 dX1_init_4
set_option maxHeartbeats 4000000 in
set_option maxRecDepth 100000 in
theorem k_X2_init (l : Launch) (dC : Nat → ClassId) (dI : Nat → Nat → Nat) (h0 : Nat) (sz : Nat) : Met l yX2_init (Cond.code yX2_init cX2_init 1 none :: gT) ({ frames := 1, cells := 4, slots := 128, locals := 12 }) (kPc dC dI [.ref h0] sz [(h0, .inr (2, [.null, .null, .null, .null, .int 0]))]) (va_Qv (fun _ : Unit => True) (fun _ t => ∃ (q1 q3 q5 q7 : Nat), ∃ (c2 c4 c6 c8 : ClassId), va_P (dC, dI) vwCl [(h0, .inr (2, [.ref q1, .ref q3, .ref q5, .ref q7, .int 0])), (q1, .inl (c2, 32, .inl (fun _ => 0))), (q3, .inl (c4, 32, .inl (fun _ => 0))), (q5, .inl (c6, 32, .inl (fun _ => 0))), (q7, .inl (c8, 32, .inl (fun _ => 0)))] t.heap ∧ va_K (dC, dI) vwCl [(c2, .int), (c4, .int), (c6, .int), (c8, .int)] t ∧ va_D (va_A [(h0, .inr (2, [.null, .null, .null, .null, .int 0]))] sz) [(h0, .inr (2, [.ref q1, .ref q3, .ref q5, .ref q7, .int 0])), (q1, .inl (c2, 32, .inl (fun _ => 0))), (q3, .inl (c4, 32, .inl (fun _ => 0))), (q5, .inl (c6, 32, .inl (fun _ => 0))), (q7, .inl (c8, 32, .inl (fun _ => 0)))]) (va_A [(h0, .inr (2, [.null, .null, .null, .null, .int 0]))] sz)) 4 128 (va_A [(h0, .inr (2, [.null, .null, .null, .null, .int 0]))] sz) := by
  refine Met.ofW (cc := cX2_init) (maxL := 1) (ret := none) (by decide +kernel) rfl ?_
  intro p e s m args below meth c s₁ B hml hv
  obtain ⟨rfl, hsz, hP, hK, hD0, hN⟩ := hv
  have hx := B.exec
  have hb := B.bytes
  have hr := B.returns
  have hts0 := atoms_spec (ws := Cond.code yX2_init cX2_init 1 none :: gT) B.pre
  have hts : ∀ w ∈ gT, w.before _ s = true := fun w hw => hts0 w (List.mem_cons_of_mem _ hw)
  have hown : s.vm.findClass RX2 = some m.cls := findClass_of_methodNamed B.named
  have hlocks := B.notSynchronized
  have hin : meth.name = "<init>" := (name_of_methodNamed B.named B.method).1
  subst hsz
  have hD := hD0.self (sz := s.heap.size)
  generalize hAe : va_A [(h0, .inr (2, [.null, .null, .null, .null, .int 0]))] s.heap.size = A at hD ⊢
  have hA : ∀ q : Nat, s.heap.size ≤ q → A q := fun q h => by rw [← hAe]; exact Or.inr h
  have hS : va_S A s.heap s.heap [] := va_S.rf
  have hP : va_P (dC, dI) vwCl [(h0, .inr (2, [.null, .null, .null, .null, .int 0]))] s.heap := hP
  have hl := lv_entry ([.ref h0]) (n := 1) (Nat.le_of_ble_eq_true rfl)
  rw [lg_entry_eq]
  generalize (lg_sl ([.ref h0]) ++ List.replicate (1 - (lg_sl ([.ref h0])).length) Slot.unset).toArray = ls at hl ⊢
  have hl : lv_has ls 1 [(0, .ref h0)] := hl
  refine lv_aload_n hx hb dX2_init_0 rfl (lv_at hl 0 rfl) ?_
  refine W.objInit hx hb hown (hts _ mw_125) (hts _ mw_118) (hts _ mw_119) rfl (by rw [hml]; exact hl.1) rfl dX2_init_1 (Nat.le_of_ble_eq_true rfl) (Nat.le_of_ble_eq_true rfl) ?_
  refine W.eq (g2 := F0 m 4 ls []) rfl ?_
  refine lv_aload_n hx hb dX2_init_4 rfl (lv_at hl 0 rfl) ?_
  refine lv_bipush (v := 32) hx hb dX2_init_5 (by decide) ?_
  refine va_newa (atype := .int) (a0 := (32, .inl (fun _ => 0))) hx hb (hts _ mw_158) (ty := .int) rfl hK hP hD hS hA (fun _ => rfl) (by decide) (by decide) (Nat.le_of_ble_eq_true rfl) (Nat.le_of_ble_eq_true rfl) (Nat.le_of_ble_eq_true rfl) dX2_init_7 (fun q1 c2 H hK hP hD hS => ?_)
  have hP : va_P (dC, dI) vwCl [(h0, .inr (2, [.null, .null, .null, .null, .int 0])), (q1, .inl (c2, 32, .inl (fun _ => 0)))] H := hP
  have hD : va_D A [(h0, .inr (2, [.null, .null, .null, .null, .int 0])), (q1, .inl (c2, 32, .inl (fun _ => 0)))] := hD
  have hK : va_K (dC, dI) vwCl [(c2, .int)] s := hK
  refine W.widen (k := 1) (n := 32) (Nat.le_of_ble_eq_true rfl) (Nat.le_of_ble_eq_true rfl) ?_
  refine va_putF (D := (dC, dI)) (ci := 2) (v := .ref q1) (ty := .array .int) (C := RX2) (T := TX2) (N := 5) hx hb hts gin_X2 tyX2 tyX2_ok nmX2 hown hK hP hD hS 0 rfl rfl 0 (by decide) (hts _ mw_126) (fun _ h9 => h9) rfl hin rfl (by decide +kernel) rfl rfl (Nat.le_of_ble_eq_true rfl) dX2_init_9 (fun H locs hP hD hS => ?_)
  have hP : va_P (dC, dI) vwCl [(h0, .inr (2, [.ref q1, .null, .null, .null, .int 0])), (q1, .inl (c2, 32, .inl (fun _ => 0)))] H := hP
  have hD : va_D A [(h0, .inr (2, [.ref q1, .null, .null, .null, .int 0])), (q1, .inl (c2, 32, .inl (fun _ => 0)))] := hD
  refine lv_aload_n hx hb dX2_init_12 rfl (lv_at hl 0 rfl) ?_
  refine lv_bipush (v := 32) hx hb dX2_init_13 (by decide) ?_
  refine va_newa (atype := .int) (a0 := (32, .inl (fun _ => 0))) hx hb (hts _ mw_158) (ty := .int) rfl hK hP hD hS hA (fun _ => rfl) (by decide) (by decide) (Nat.le_of_ble_eq_true rfl) (Nat.le_of_ble_eq_true rfl) (Nat.le_of_ble_eq_true rfl) dX2_init_15 (fun q3 c4 H hK hP hD hS => ?_)
  have hP : va_P (dC, dI) vwCl [(h0, .inr (2, [.ref q1, .null, .null, .null, .int 0])), (q1, .inl (c2, 32, .inl (fun _ => 0))), (q3, .inl (c4, 32, .inl (fun _ => 0)))] H := hP
  have hD : va_D A [(h0, .inr (2, [.ref q1, .null, .null, .null, .int 0])), (q1, .inl (c2, 32, .inl (fun _ => 0))), (q3, .inl (c4, 32, .inl (fun _ => 0)))] := hD
  have hK : va_K (dC, dI) vwCl [(c2, .int), (c4, .int)] s := hK
  refine W.widen (k := 2) (n := 64) (Nat.le_of_ble_eq_true rfl) (Nat.le_of_ble_eq_true rfl) ?_
  refine va_putF (D := (dC, dI)) (ci := 2) (v := .ref q3) (ty := .array .int) (C := RX2) (T := TX2) (N := 5) hx hb hts gin_X2 tyX2 tyX2_ok nmX2 hown hK hP hD hS 0 rfl rfl 1 (by decide) (hts _ mw_130) (fun _ h9 => h9) rfl hin rfl (by decide +kernel) rfl rfl (Nat.le_of_ble_eq_true rfl) dX2_init_17 (fun H locs hP hD hS => ?_)
  have hP : va_P (dC, dI) vwCl [(h0, .inr (2, [.ref q1, .ref q3, .null, .null, .int 0])), (q1, .inl (c2, 32, .inl (fun _ => 0))), (q3, .inl (c4, 32, .inl (fun _ => 0)))] H := hP
  have hD : va_D A [(h0, .inr (2, [.ref q1, .ref q3, .null, .null, .int 0])), (q1, .inl (c2, 32, .inl (fun _ => 0))), (q3, .inl (c4, 32, .inl (fun _ => 0)))] := hD
  refine lv_aload_n hx hb dX2_init_20 rfl (lv_at hl 0 rfl) ?_
  refine lv_bipush (v := 32) hx hb dX2_init_21 (by decide) ?_
  refine va_newa (atype := .int) (a0 := (32, .inl (fun _ => 0))) hx hb (hts _ mw_158) (ty := .int) rfl hK hP hD hS hA (fun _ => rfl) (by decide) (by decide) (Nat.le_of_ble_eq_true rfl) (Nat.le_of_ble_eq_true rfl) (Nat.le_of_ble_eq_true rfl) dX2_init_23 (fun q5 c6 H hK hP hD hS => ?_)
  have hP : va_P (dC, dI) vwCl [(h0, .inr (2, [.ref q1, .ref q3, .null, .null, .int 0])), (q1, .inl (c2, 32, .inl (fun _ => 0))), (q3, .inl (c4, 32, .inl (fun _ => 0))), (q5, .inl (c6, 32, .inl (fun _ => 0)))] H := hP
  have hD : va_D A [(h0, .inr (2, [.ref q1, .ref q3, .null, .null, .int 0])), (q1, .inl (c2, 32, .inl (fun _ => 0))), (q3, .inl (c4, 32, .inl (fun _ => 0))), (q5, .inl (c6, 32, .inl (fun _ => 0)))] := hD
  have hK : va_K (dC, dI) vwCl [(c2, .int), (c4, .int), (c6, .int)] s := hK
  refine W.widen (k := 3) (n := 96) (Nat.le_of_ble_eq_true rfl) (Nat.le_of_ble_eq_true rfl) ?_
  refine va_putF (D := (dC, dI)) (ci := 2) (v := .ref q5) (ty := .array .int) (C := RX2) (T := TX2) (N := 5) hx hb hts gin_X2 tyX2 tyX2_ok nmX2 hown hK hP hD hS 0 rfl rfl 2 (by decide) (hts _ mw_134) (fun _ h9 => h9) rfl hin rfl (by decide +kernel) rfl rfl (Nat.le_of_ble_eq_true rfl) dX2_init_25 (fun H locs hP hD hS => ?_)
  have hP : va_P (dC, dI) vwCl [(h0, .inr (2, [.ref q1, .ref q3, .ref q5, .null, .int 0])), (q1, .inl (c2, 32, .inl (fun _ => 0))), (q3, .inl (c4, 32, .inl (fun _ => 0))), (q5, .inl (c6, 32, .inl (fun _ => 0)))] H := hP
  have hD : va_D A [(h0, .inr (2, [.ref q1, .ref q3, .ref q5, .null, .int 0])), (q1, .inl (c2, 32, .inl (fun _ => 0))), (q3, .inl (c4, 32, .inl (fun _ => 0))), (q5, .inl (c6, 32, .inl (fun _ => 0)))] := hD
  refine lv_aload_n hx hb dX2_init_28 rfl (lv_at hl 0 rfl) ?_
  refine lv_bipush (v := 32) hx hb dX2_init_29 (by decide) ?_
  refine va_newa (atype := .int) (a0 := (32, .inl (fun _ => 0))) hx hb (hts _ mw_158) (ty := .int) rfl hK hP hD hS hA (fun _ => rfl) (by decide) (by decide) (Nat.le_of_ble_eq_true rfl) (Nat.le_of_ble_eq_true rfl) (Nat.le_of_ble_eq_true rfl) dX2_init_31 (fun q7 c8 H hK hP hD hS => ?_)
  have hP : va_P (dC, dI) vwCl [(h0, .inr (2, [.ref q1, .ref q3, .ref q5, .null, .int 0])), (q1, .inl (c2, 32, .inl (fun _ => 0))), (q3, .inl (c4, 32, .inl (fun _ => 0))), (q5, .inl (c6, 32, .inl (fun _ => 0))), (q7, .inl (c8, 32, .inl (fun _ => 0)))] H := hP
  have hD : va_D A [(h0, .inr (2, [.ref q1, .ref q3, .ref q5, .null, .int 0])), (q1, .inl (c2, 32, .inl (fun _ => 0))), (q3, .inl (c4, 32, .inl (fun _ => 0))), (q5, .inl (c6, 32, .inl (fun _ => 0))), (q7, .inl (c8, 32, .inl (fun _ => 0)))] := hD
  have hK : va_K (dC, dI) vwCl [(c2, .int), (c4, .int), (c6, .int), (c8, .int)] s := hK
  refine W.widen (k := 4) (n := 128) (Nat.le_of_ble_eq_true rfl) (Nat.le_of_ble_eq_true rfl) ?_
  refine va_putF (D := (dC, dI)) (ci := 2) (v := .ref q7) (ty := .array .int) (C := RX2) (T := TX2) (N := 5) hx hb hts gin_X2 tyX2 tyX2_ok nmX2 hown hK hP hD hS 0 rfl rfl 3 (by decide) (hts _ mw_138) (fun _ h9 => h9) rfl hin rfl (by decide +kernel) rfl rfl (Nat.le_of_ble_eq_true rfl) dX2_init_33 (fun H locs hP hD hS => ?_)
  have hP : va_P (dC, dI) vwCl [(h0, .inr (2, [.ref q1, .ref q3, .ref q5, .ref q7, .int 0])), (q1, .inl (c2, 32, .inl (fun _ => 0))), (q3, .inl (c4, 32, .inl (fun _ => 0))), (q5, .inl (c6, 32, .inl (fun _ => 0))), (q7, .inl (c8, 32, .inl (fun _ => 0)))] H := hP
  have hD : va_D A [(h0, .inr (2, [.ref q1, .ref q3, .ref q5, .ref q7, .int 0])), (q1, .inl (c2, 32, .inl (fun _ => 0))), (q3, .inl (c4, 32, .inl (fun _ => 0))), (q5, .inl (c6, 32, .inl (fun _ => 0))), (q7, .inl (c8, 32, .inl (fun _ => 0)))] := hD
  exact W.vret hx hb hr (fun t ht hW => ⟨⟨(), rfl, trivial, q1, q3, q5, q7, c2, c4, c6, c8, by rw [ht]; exact hP, va_K.moved hW.alike hK, hD⟩, hS.F ht⟩) hS.2.2 dX2_init_36
set_option maxHeartbeats 4000000 in
set_option maxRecDepth 100000 in
theorem k_X0_init (l : Launch) (dC : Nat → ClassId) (dI : Nat → Nat → Nat) (h0 : Nat) (sz : Nat) : Met l yX0_init (Cond.code yX0_init cX0_init 1 none :: gT) ({ frames := 1, cells := 2, slots := 715, locals := 12 }) (kPc dC dI [.ref h0] sz [(h0, .inr (0, [.null, .null, .int 0]))]) (va_Qv (fun _ : Unit => True) (fun _ t => ∃ (q1 q3 : Nat), ∃ (c2 c4 : ClassId), va_P (dC, dI) vwCl [(h0, .inr (0, [.ref q1, .ref q3, .int 0])), (q1, .inl (c2, 667, .inl (fun _ => 0))), (q3, .inl (c4, 48, .inl (fun _ => 0)))] t.heap ∧ va_K (dC, dI) vwCl [(c2, .byte), (c4, .int)] t ∧ va_D (va_A [(h0, .inr (0, [.null, .null, .int 0]))] sz) [(h0, .inr (0, [.ref q1, .ref q3, .int 0])), (q1, .inl (c2, 667, .inl (fun _ => 0))), (q3, .inl (c4, 48, .inl (fun _ => 0)))]) (va_A [(h0, .inr (0, [.null, .null, .int 0]))] sz)) 2 715 (va_A [(h0, .inr (0, [.null, .null, .int 0]))] sz) := by
  refine Met.ofW (cc := cX0_init) (maxL := 1) (ret := none) (by decide +kernel) rfl ?_
  intro p e s m args below meth c s₁ B hml hv
  obtain ⟨rfl, hsz, hP, hK, hD0, hN⟩ := hv
  have hx := B.exec
  have hb := B.bytes
  have hr := B.returns
  have hts0 := atoms_spec (ws := Cond.code yX0_init cX0_init 1 none :: gT) B.pre
  have hts : ∀ w ∈ gT, w.before _ s = true := fun w hw => hts0 w (List.mem_cons_of_mem _ hw)
  have hown : s.vm.findClass RX0 = some m.cls := findClass_of_methodNamed B.named
  have hlocks := B.notSynchronized
  have hin : meth.name = "<init>" := (name_of_methodNamed B.named B.method).1
  subst hsz
  have hD := hD0.self (sz := s.heap.size)
  generalize hAe : va_A [(h0, .inr (0, [.null, .null, .int 0]))] s.heap.size = A at hD ⊢
  have hA : ∀ q : Nat, s.heap.size ≤ q → A q := fun q h => by rw [← hAe]; exact Or.inr h
  have hS : va_S A s.heap s.heap [] := va_S.rf
  have hP : va_P (dC, dI) vwCl [(h0, .inr (0, [.null, .null, .int 0]))] s.heap := hP
  have hl := lv_entry ([.ref h0]) (n := 1) (Nat.le_of_ble_eq_true rfl)
  rw [lg_entry_eq]
  generalize (lg_sl ([.ref h0]) ++ List.replicate (1 - (lg_sl ([.ref h0])).length) Slot.unset).toArray = ls at hl ⊢
  have hl : lv_has ls 1 [(0, .ref h0)] := hl
  refine lv_aload_n hx hb dX0_init_0 rfl (lv_at hl 0 rfl) ?_
  refine W.objInit hx hb hown (hts _ mw_273) (hts _ mw_118) (hts _ mw_119) rfl (by rw [hml]; exact hl.1) rfl dX0_init_1 (Nat.le_of_ble_eq_true rfl) (Nat.le_of_ble_eq_true rfl) ?_
  refine W.eq (g2 := F0 m 4 ls []) rfl ?_
  refine lv_aload_n hx hb dX0_init_4 rfl (lv_at hl 0 rfl) ?_
  refine lv_sipush (v := 667) hx hb dX0_init_5 (by decide) ?_
  refine va_newa (atype := .byte) (a0 := (667, .inl (fun _ => 0))) hx hb (hts _ mw_289) (ty := .byte) rfl hK hP hD hS hA (fun _ => rfl) (by decide) (by decide) (Nat.le_of_ble_eq_true rfl) (Nat.le_of_ble_eq_true rfl) (Nat.le_of_ble_eq_true rfl) dX0_init_8 (fun q1 c2 H hK hP hD hS => ?_)
  have hP : va_P (dC, dI) vwCl [(h0, .inr (0, [.null, .null, .int 0])), (q1, .inl (c2, 667, .inl (fun _ => 0)))] H := hP
  have hD : va_D A [(h0, .inr (0, [.null, .null, .int 0])), (q1, .inl (c2, 667, .inl (fun _ => 0)))] := hD
  have hK : va_K (dC, dI) vwCl [(c2, .byte)] s := hK
  refine W.widen (k := 1) (n := 667) (Nat.le_of_ble_eq_true rfl) (Nat.le_of_ble_eq_true rfl) ?_
  refine va_putF (D := (dC, dI)) (ci := 0) (v := .ref q1) (ty := .array .byte) (C := RX0) (T := TX0) (N := 3) hx hb hts gin_X0 tyX0 tyX0_ok nmX0 hown hK hP hD hS 0 rfl rfl 0 (by decide) (hts _ mw_274) (fun _ h9 => h9) rfl hin rfl (by decide +kernel) rfl rfl (Nat.le_of_ble_eq_true rfl) dX0_init_10 (fun H locs hP hD hS => ?_)
  have hP : va_P (dC, dI) vwCl [(h0, .inr (0, [.ref q1, .null, .int 0])), (q1, .inl (c2, 667, .inl (fun _ => 0)))] H := hP
  have hD : va_D A [(h0, .inr (0, [.ref q1, .null, .int 0])), (q1, .inl (c2, 667, .inl (fun _ => 0)))] := hD
  refine lv_aload_n hx hb dX0_init_13 rfl (lv_at hl 0 rfl) ?_
  refine lv_bipush (v := 48) hx hb dX0_init_14 (by decide) ?_
  refine va_newa (atype := .int) (a0 := (48, .inl (fun _ => 0))) hx hb (hts _ mw_158) (ty := .int) rfl hK hP hD hS hA (fun _ => rfl) (by decide) (by decide) (Nat.le_of_ble_eq_true rfl) (Nat.le_of_ble_eq_true rfl) (Nat.le_of_ble_eq_true rfl) dX0_init_16 (fun q3 c4 H hK hP hD hS => ?_)
  have hP : va_P (dC, dI) vwCl [(h0, .inr (0, [.ref q1, .null, .int 0])), (q1, .inl (c2, 667, .inl (fun _ => 0))), (q3, .inl (c4, 48, .inl (fun _ => 0)))] H := hP
  have hD : va_D A [(h0, .inr (0, [.ref q1, .null, .int 0])), (q1, .inl (c2, 667, .inl (fun _ => 0))), (q3, .inl (c4, 48, .inl (fun _ => 0)))] := hD
  have hK : va_K (dC, dI) vwCl [(c2, .byte), (c4, .int)] s := hK
  refine W.widen (k := 2) (n := 715) (Nat.le_of_ble_eq_true rfl) (Nat.le_of_ble_eq_true rfl) ?_
  refine va_putF (D := (dC, dI)) (ci := 0) (v := .ref q3) (ty := .array .int) (C := RX0) (T := TX0) (N := 3) hx hb hts gin_X0 tyX0 tyX0_ok nmX0 hown hK hP hD hS 0 rfl rfl 1 (by decide) (hts _ mw_275) (fun _ h9 => h9) rfl hin rfl (by decide +kernel) rfl rfl (Nat.le_of_ble_eq_true rfl) dX0_init_18 (fun H locs hP hD hS => ?_)
  have hP : va_P (dC, dI) vwCl [(h0, .inr (0, [.ref q1, .ref q3, .int 0])), (q1, .inl (c2, 667, .inl (fun _ => 0))), (q3, .inl (c4, 48, .inl (fun _ => 0)))] H := hP
  have hD : va_D A [(h0, .inr (0, [.ref q1, .ref q3, .int 0])), (q1, .inl (c2, 667, .inl (fun _ => 0))), (q3, .inl (c4, 48, .inl (fun _ => 0)))] := hD
  exact W.vret hx hb hr (fun t ht hW => ⟨⟨(), rfl, trivial, q1, q3, c2, c4, by rw [ht]; exact hP, va_K.moved hW.alike hK, hD⟩, hS.F ht⟩) hS.2.2 dX0_init_21
set_option maxHeartbeats 4000000 in
set_option maxRecDepth 100000 in
theorem k_X3_init (l : Launch) (dC : Nat → ClassId) (dI : Nat → Nat → Nat) (h0 : Nat) (sz : Nat) : Met l yX3_init (Cond.code yX3_init cX3_init 1 none :: gT) ({ frames := 1, cells := 1, slots := 120, locals := 12 }) (kPc dC dI [.ref h0] sz [(h0, .inr (3, [.null, .int 0, .int 0, .int 0, .int 0, .int 0, .int 0, .int 0, .int 0]))]) (va_Qv (fun _ : Unit => True) (fun _ t => ∃ (q1 : Nat), ∃ (c2 : ClassId), va_P (dC, dI) vwCl [(h0, .inr (3, [.ref q1, .int 0, .int 0, .int 0, .int 0, .int 0, .int 0, .int 0, .int 0])), (q1, .inl (c2, 120, .inl (fun _ => 0)))] t.heap ∧ va_K (dC, dI) vwCl [(c2, .byte)] t ∧ va_D (va_A [(h0, .inr (3, [.null, .int 0, .int 0, .int 0, .int 0, .int 0, .int 0, .int 0, .int 0]))] sz) [(h0, .inr (3, [.ref q1, .int 0, .int 0, .int 0, .int 0, .int 0, .int 0, .int 0, .int 0])), (q1, .inl (c2, 120, .inl (fun _ => 0)))]) (va_A [(h0, .inr (3, [.null, .int 0, .int 0, .int 0, .int 0, .int 0, .int 0, .int 0, .int 0]))] sz)) 1 120 (va_A [(h0, .inr (3, [.null, .int 0, .int 0, .int 0, .int 0, .int 0, .int 0, .int 0, .int 0]))] sz) := by
  refine Met.ofW (cc := cX3_init) (maxL := 1) (ret := none) (by decide +kernel) rfl ?_
  intro p e s m args below meth c s₁ B hml hv
  obtain ⟨rfl, hsz, hP, hK, hD0, hN⟩ := hv
  have hx := B.exec
  have hb := B.bytes
  have hr := B.returns
  have hts0 := atoms_spec (ws := Cond.code yX3_init cX3_init 1 none :: gT) B.pre
  have hts : ∀ w ∈ gT, w.before _ s = true := fun w hw => hts0 w (List.mem_cons_of_mem _ hw)
  have hown : s.vm.findClass RX3 = some m.cls := findClass_of_methodNamed B.named
  have hlocks := B.notSynchronized
  have hin : meth.name = "<init>" := (name_of_methodNamed B.named B.method).1
  subst hsz
  have hD := hD0.self (sz := s.heap.size)
  generalize hAe : va_A [(h0, .inr (3, [.null, .int 0, .int 0, .int 0, .int 0, .int 0, .int 0, .int 0, .int 0]))] s.heap.size = A at hD ⊢
  have hA : ∀ q : Nat, s.heap.size ≤ q → A q := fun q h => by rw [← hAe]; exact Or.inr h
  have hS : va_S A s.heap s.heap [] := va_S.rf
  have hP : va_P (dC, dI) vwCl [(h0, .inr (3, [.null, .int 0, .int 0, .int 0, .int 0, .int 0, .int 0, .int 0, .int 0]))] s.heap := hP
  have hl := lv_entry ([.ref h0]) (n := 1) (Nat.le_of_ble_eq_true rfl)
  rw [lg_entry_eq]
  generalize (lg_sl ([.ref h0]) ++ List.replicate (1 - (lg_sl ([.ref h0])).length) Slot.unset).toArray = ls at hl ⊢
  have hl : lv_has ls 1 [(0, .ref h0)] := hl
  refine lv_aload_n hx hb dX3_init_0 rfl (lv_at hl 0 rfl) ?_
  refine W.objInit hx hb hown (hts _ mw_295) (hts _ mw_118) (hts _ mw_119) rfl (by rw [hml]; exact hl.1) rfl dX3_init_1 (Nat.le_of_ble_eq_true rfl) (Nat.le_of_ble_eq_true rfl) ?_
  refine W.eq (g2 := F0 m 4 ls []) rfl ?_
  refine lv_aload_n hx hb dX3_init_4 rfl (lv_at hl 0 rfl) ?_
  refine lv_bipush (v := 120) hx hb dX3_init_5 (by decide) ?_
  refine va_newa (atype := .byte) (a0 := (120, .inl (fun _ => 0))) hx hb (hts _ mw_289) (ty := .byte) rfl hK hP hD hS hA (fun _ => rfl) (by decide) (by decide) (Nat.le_of_ble_eq_true rfl) (Nat.le_of_ble_eq_true rfl) (Nat.le_of_ble_eq_true rfl) dX3_init_7 (fun q1 c2 H hK hP hD hS => ?_)
  have hP : va_P (dC, dI) vwCl [(h0, .inr (3, [.null, .int 0, .int 0, .int 0, .int 0, .int 0, .int 0, .int 0, .int 0])), (q1, .inl (c2, 120, .inl (fun _ => 0)))] H := hP
  have hD : va_D A [(h0, .inr (3, [.null, .int 0, .int 0, .int 0, .int 0, .int 0, .int 0, .int 0, .int 0])), (q1, .inl (c2, 120, .inl (fun _ => 0)))] := hD
  have hK : va_K (dC, dI) vwCl [(c2, .byte)] s := hK
  refine W.widen (k := 1) (n := 120) (Nat.le_of_ble_eq_true rfl) (Nat.le_of_ble_eq_true rfl) ?_
  refine va_putF (D := (dC, dI)) (ci := 3) (v := .ref q1) (ty := .array .byte) (C := RX3) (T := TX3) (N := 9) hx hb hts gin_X3 tyX3 tyX3_ok nmX3 hown hK hP hD hS 0 rfl rfl 0 (by decide) (hts _ mw_296) (fun _ h9 => h9) rfl hin rfl (by decide +kernel) rfl rfl (Nat.le_of_ble_eq_true rfl) dX3_init_9 (fun H locs hP hD hS => ?_)
  have hP : va_P (dC, dI) vwCl [(h0, .inr (3, [.ref q1, .int 0, .int 0, .int 0, .int 0, .int 0, .int 0, .int 0, .int 0])), (q1, .inl (c2, 120, .inl (fun _ => 0)))] H := hP
  have hD : va_D A [(h0, .inr (3, [.ref q1, .int 0, .int 0, .int 0, .int 0, .int 0, .int 0, .int 0, .int 0])), (q1, .inl (c2, 120, .inl (fun _ => 0)))] := hD
  exact W.vret hx hb hr (fun t ht hW => ⟨⟨(), rfl, trivial, q1, c2, by rw [ht]; exact hP, va_K.moved hW.alike hK, hD⟩, hS.F ht⟩) hS.2.2 dX3_init_12
set_option maxHeartbeats 4000000 in
set_option maxRecDepth 100000 in
theorem k_X4_init (l : Launch) (dC : Nat → ClassId) (dI : Nat → Nat → Nat) (h0 : Nat) (sz : Nat) : Met l yX4_init (Cond.code yX4_init cX4_init 1 none :: gT) ({ frames := 2, cells := 7, slots := 343, locals := 32 }) (kPc dC dI [.ref h0] sz [(h0, .inr (4, [.null, .null, .null, .null, .null, .null, .null, .int 0, .int 0]))]) (va_Qv (fun _ : Unit => True) (fun _ t => ∃ (q1 q3 q5 q7 q9 q11 q13 : Nat), ∃ (c2 c4 c6 c8 c10 c12 : ClassId), va_P (dC, dI) vwCl [(h0, .inr (4, [.ref q1, .ref q3, .ref q5, .ref q7, .ref q9, .ref q11, .ref q13, .int 0, .int 0])), (q1, .inl (c2, 60, .inl (fun _ => 0))), (q3, .inl (c4, 60, .inl (fun _ => 0))), (q5, .inl (c6, 60, .inl (fun _ => 0))), (q7, .inl (c8, 60, .inl (fun _ => 0))), (q9, .inl (c10, 60, .inl (fun _ => 0))), (q11, .inl (c12, 32, .inl (fun _ => 0))), (q13, .inr (1, [.int 0, .int 0, .int 0, .int 0, .int 0, .int 0, .int 0, .int 0, .int 0, .int 0, .int 0]))] t.heap ∧ va_K (dC, dI) vwCl [(c2, .int), (c4, .int), (c6, .int), (c8, .int), (c10, .int), (c12, .int)] t ∧ va_D (va_A [(h0, .inr (4, [.null, .null, .null, .null, .null, .null, .null, .int 0, .int 0]))] sz) [(h0, .inr (4, [.ref q1, .ref q3, .ref q5, .ref q7, .ref q9, .ref q11, .ref q13, .int 0, .int 0])), (q1, .inl (c2, 60, .inl (fun _ => 0))), (q3, .inl (c4, 60, .inl (fun _ => 0))), (q5, .inl (c6, 60, .inl (fun _ => 0))), (q7, .inl (c8, 60, .inl (fun _ => 0))), (q9, .inl (c10, 60, .inl (fun _ => 0))), (q11, .inl (c12, 32, .inl (fun _ => 0))), (q13, .inr (1, [.int 0, .int 0, .int 0, .int 0, .int 0, .int 0, .int 0, .int 0, .int 0, .int 0, .int 0]))]) (va_A [(h0, .inr (4, [.null, .null, .null, .null, .null, .null, .null, .int 0, .int 0]))] sz)) 7 343 (va_A [(h0, .inr (4, [.null, .null, .null, .null, .null, .null, .null, .int 0, .int 0]))] sz) := by
  refine Met.ofW (cc := cX4_init) (maxL := 1) (ret := none) (by decide +kernel) rfl ?_
  intro p e s m args below meth c s₁ B hml hv
  obtain ⟨rfl, hsz, hP, hK, hD0, hN⟩ := hv
  have hx := B.exec
  have hb := B.bytes
  have hr := B.returns
  have hts0 := atoms_spec (ws := Cond.code yX4_init cX4_init 1 none :: gT) B.pre
  have hts : ∀ w ∈ gT, w.before _ s = true := fun w hw => hts0 w (List.mem_cons_of_mem _ hw)
  have hown : s.vm.findClass RX4 = some m.cls := findClass_of_methodNamed B.named
  have hlocks := B.notSynchronized
  have hin : meth.name = "<init>" := (name_of_methodNamed B.named B.method).1
  subst hsz
  have hD := hD0.self (sz := s.heap.size)
  generalize hAe : va_A [(h0, .inr (4, [.null, .null, .null, .null, .null, .null, .null, .int 0, .int 0]))] s.heap.size = A at hD ⊢
  have hA : ∀ q : Nat, s.heap.size ≤ q → A q := fun q h => by rw [← hAe]; exact Or.inr h
  have hS : va_S A s.heap s.heap [] := va_S.rf
  have hP : va_P (dC, dI) vwCl [(h0, .inr (4, [.null, .null, .null, .null, .null, .null, .null, .int 0, .int 0]))] s.heap := hP
  have hl := lv_entry ([.ref h0]) (n := 1) (Nat.le_of_ble_eq_true rfl)
  rw [lg_entry_eq]
  generalize (lg_sl ([.ref h0]) ++ List.replicate (1 - (lg_sl ([.ref h0])).length) Slot.unset).toArray = ls at hl ⊢
  have hl : lv_has ls 1 [(0, .ref h0)] := hl
  refine lv_aload_n hx hb dX4_init_0 rfl (lv_at hl 0 rfl) ?_
  refine W.objInit hx hb hown (hts _ mw_184) (hts _ mw_118) (hts _ mw_119) rfl (by rw [hml]; exact hl.1) rfl dX4_init_1 (Nat.le_of_ble_eq_true rfl) (Nat.le_of_ble_eq_true rfl) ?_
  refine W.eq (g2 := F0 m 4 ls []) rfl ?_
  refine lv_aload_n hx hb dX4_init_4 rfl (lv_at hl 0 rfl) ?_
  refine lv_bipush (v := 60) hx hb dX4_init_5 (by decide) ?_
  refine va_newa (atype := .int) (a0 := (60, .inl (fun _ => 0))) hx hb (hts _ mw_158) (ty := .int) rfl hK hP hD hS hA (fun _ => rfl) (by decide) (by decide) (Nat.le_of_ble_eq_true rfl) (Nat.le_of_ble_eq_true rfl) (Nat.le_of_ble_eq_true rfl) dX4_init_7 (fun q1 c2 H hK hP hD hS => ?_)
  have hP : va_P (dC, dI) vwCl [(h0, .inr (4, [.null, .null, .null, .null, .null, .null, .null, .int 0, .int 0])), (q1, .inl (c2, 60, .inl (fun _ => 0)))] H := hP
  have hD : va_D A [(h0, .inr (4, [.null, .null, .null, .null, .null, .null, .null, .int 0, .int 0])), (q1, .inl (c2, 60, .inl (fun _ => 0)))] := hD
  have hK : va_K (dC, dI) vwCl [(c2, .int)] s := hK
  refine W.widen (k := 1) (n := 60) (Nat.le_of_ble_eq_true rfl) (Nat.le_of_ble_eq_true rfl) ?_
  refine va_putF (D := (dC, dI)) (ci := 4) (v := .ref q1) (ty := .array .int) (C := RX4) (T := TX4) (N := 9) hx hb hts gin_X4 tyX4 tyX4_ok nmX4 hown hK hP hD hS 0 rfl rfl 0 (by decide) (hts _ mw_236) (fun _ h9 => h9) rfl hin rfl (by decide +kernel) rfl rfl (Nat.le_of_ble_eq_true rfl) dX4_init_9 (fun H locs hP hD hS => ?_)
  have hP : va_P (dC, dI) vwCl [(h0, .inr (4, [.ref q1, .null, .null, .null, .null, .null, .null, .int 0, .int 0])), (q1, .inl (c2, 60, .inl (fun _ => 0)))] H := hP
  have hD : va_D A [(h0, .inr (4, [.ref q1, .null, .null, .null, .null, .null, .null, .int 0, .int 0])), (q1, .inl (c2, 60, .inl (fun _ => 0)))] := hD
  refine lv_aload_n hx hb dX4_init_12 rfl (lv_at hl 0 rfl) ?_
  refine lv_bipush (v := 60) hx hb dX4_init_13 (by decide) ?_
  refine va_newa (atype := .int) (a0 := (60, .inl (fun _ => 0))) hx hb (hts _ mw_158) (ty := .int) rfl hK hP hD hS hA (fun _ => rfl) (by decide) (by decide) (Nat.le_of_ble_eq_true rfl) (Nat.le_of_ble_eq_true rfl) (Nat.le_of_ble_eq_true rfl) dX4_init_15 (fun q3 c4 H hK hP hD hS => ?_)
  have hP : va_P (dC, dI) vwCl [(h0, .inr (4, [.ref q1, .null, .null, .null, .null, .null, .null, .int 0, .int 0])), (q1, .inl (c2, 60, .inl (fun _ => 0))), (q3, .inl (c4, 60, .inl (fun _ => 0)))] H := hP
  have hD : va_D A [(h0, .inr (4, [.ref q1, .null, .null, .null, .null, .null, .null, .int 0, .int 0])), (q1, .inl (c2, 60, .inl (fun _ => 0))), (q3, .inl (c4, 60, .inl (fun _ => 0)))] := hD
  have hK : va_K (dC, dI) vwCl [(c2, .int), (c4, .int)] s := hK
  refine W.widen (k := 2) (n := 120) (Nat.le_of_ble_eq_true rfl) (Nat.le_of_ble_eq_true rfl) ?_
  refine va_putF (D := (dC, dI)) (ci := 4) (v := .ref q3) (ty := .array .int) (C := RX4) (T := TX4) (N := 9) hx hb hts gin_X4 tyX4 tyX4_ok nmX4 hown hK hP hD hS 0 rfl rfl 1 (by decide) (hts _ mw_237) (fun _ h9 => h9) rfl hin rfl (by decide +kernel) rfl rfl (Nat.le_of_ble_eq_true rfl) dX4_init_17 (fun H locs hP hD hS => ?_)
  have hP : va_P (dC, dI) vwCl [(h0, .inr (4, [.ref q1, .ref q3, .null, .null, .null, .null, .null, .int 0, .int 0])), (q1, .inl (c2, 60, .inl (fun _ => 0))), (q3, .inl (c4, 60, .inl (fun _ => 0)))] H := hP
  have hD : va_D A [(h0, .inr (4, [.ref q1, .ref q3, .null, .null, .null, .null, .null, .int 0, .int 0])), (q1, .inl (c2, 60, .inl (fun _ => 0))), (q3, .inl (c4, 60, .inl (fun _ => 0)))] := hD
  refine lv_aload_n hx hb dX4_init_20 rfl (lv_at hl 0 rfl) ?_
  refine lv_bipush (v := 60) hx hb dX4_init_21 (by decide) ?_
  refine va_newa (atype := .int) (a0 := (60, .inl (fun _ => 0))) hx hb (hts _ mw_158) (ty := .int) rfl hK hP hD hS hA (fun _ => rfl) (by decide) (by decide) (Nat.le_of_ble_eq_true rfl) (Nat.le_of_ble_eq_true rfl) (Nat.le_of_ble_eq_true rfl) dX4_init_23 (fun q5 c6 H hK hP hD hS => ?_)
  have hP : va_P (dC, dI) vwCl [(h0, .inr (4, [.ref q1, .ref q3, .null, .null, .null, .null, .null, .int 0, .int 0])), (q1, .inl (c2, 60, .inl (fun _ => 0))), (q3, .inl (c4, 60, .inl (fun _ => 0))), (q5, .inl (c6, 60, .inl (fun _ => 0)))] H := hP
  have hD : va_D A [(h0, .inr (4, [.ref q1, .ref q3, .null, .null, .null, .null, .null, .int 0, .int 0])), (q1, .inl (c2, 60, .inl (fun _ => 0))), (q3, .inl (c4, 60, .inl (fun _ => 0))), (q5, .inl (c6, 60, .inl (fun _ => 0)))] := hD
  have hK : va_K (dC, dI) vwCl [(c2, .int), (c4, .int), (c6, .int)] s := hK
  refine W.widen (k := 3) (n := 180) (Nat.le_of_ble_eq_true rfl) (Nat.le_of_ble_eq_true rfl) ?_
  refine va_putF (D := (dC, dI)) (ci := 4) (v := .ref q5) (ty := .array .int) (C := RX4) (T := TX4) (N := 9) hx hb hts gin_X4 tyX4 tyX4_ok nmX4 hown hK hP hD hS 0 rfl rfl 2 (by decide) (hts _ mw_238) (fun _ h9 => h9) rfl hin rfl (by decide +kernel) rfl rfl (Nat.le_of_ble_eq_true rfl) dX4_init_25 (fun H locs hP hD hS => ?_)
  have hP : va_P (dC, dI) vwCl [(h0, .inr (4, [.ref q1, .ref q3, .ref q5, .null, .null, .null, .null, .int 0, .int 0])), (q1, .inl (c2, 60, .inl (fun _ => 0))), (q3, .inl (c4, 60, .inl (fun _ => 0))), (q5, .inl (c6, 60, .inl (fun _ => 0)))] H := hP
  have hD : va_D A [(h0, .inr (4, [.ref q1, .ref q3, .ref q5, .null, .null, .null, .null, .int 0, .int 0])), (q1, .inl (c2, 60, .inl (fun _ => 0))), (q3, .inl (c4, 60, .inl (fun _ => 0))), (q5, .inl (c6, 60, .inl (fun _ => 0)))] := hD
  refine lv_aload_n hx hb dX4_init_28 rfl (lv_at hl 0 rfl) ?_
  refine lv_bipush (v := 60) hx hb dX4_init_29 (by decide) ?_
  refine va_newa (atype := .int) (a0 := (60, .inl (fun _ => 0))) hx hb (hts _ mw_158) (ty := .int) rfl hK hP hD hS hA (fun _ => rfl) (by decide) (by decide) (Nat.le_of_ble_eq_true rfl) (Nat.le_of_ble_eq_true rfl) (Nat.le_of_ble_eq_true rfl) dX4_init_31 (fun q7 c8 H hK hP hD hS => ?_)
  have hP : va_P (dC, dI) vwCl [(h0, .inr (4, [.ref q1, .ref q3, .ref q5, .null, .null, .null, .null, .int 0, .int 0])), (q1, .inl (c2, 60, .inl (fun _ => 0))), (q3, .inl (c4, 60, .inl (fun _ => 0))), (q5, .inl (c6, 60, .inl (fun _ => 0))), (q7, .inl (c8, 60, .inl (fun _ => 0)))] H := hP
  have hD : va_D A [(h0, .inr (4, [.ref q1, .ref q3, .ref q5, .null, .null, .null, .null, .int 0, .int 0])), (q1, .inl (c2, 60, .inl (fun _ => 0))), (q3, .inl (c4, 60, .inl (fun _ => 0))), (q5, .inl (c6, 60, .inl (fun _ => 0))), (q7, .inl (c8, 60, .inl (fun _ => 0)))] := hD
  have hK : va_K (dC, dI) vwCl [(c2, .int), (c4, .int), (c6, .int), (c8, .int)] s := hK
  refine W.widen (k := 4) (n := 240) (Nat.le_of_ble_eq_true rfl) (Nat.le_of_ble_eq_true rfl) ?_
  refine va_putF (D := (dC, dI)) (ci := 4) (v := .ref q7) (ty := .array .int) (C := RX4) (T := TX4) (N := 9) hx hb hts gin_X4 tyX4 tyX4_ok nmX4 hown hK hP hD hS 0 rfl rfl 3 (by decide) (hts _ mw_239) (fun _ h9 => h9) rfl hin rfl (by decide +kernel) rfl rfl (Nat.le_of_ble_eq_true rfl) dX4_init_33 (fun H locs hP hD hS => ?_)
  have hP : va_P (dC, dI) vwCl [(h0, .inr (4, [.ref q1, .ref q3, .ref q5, .ref q7, .null, .null, .null, .int 0, .int 0])), (q1, .inl (c2, 60, .inl (fun _ => 0))), (q3, .inl (c4, 60, .inl (fun _ => 0))), (q5, .inl (c6, 60, .inl (fun _ => 0))), (q7, .inl (c8, 60, .inl (fun _ => 0)))] H := hP
  have hD : va_D A [(h0, .inr (4, [.ref q1, .ref q3, .ref q5, .ref q7, .null, .null, .null, .int 0, .int 0])), (q1, .inl (c2, 60, .inl (fun _ => 0))), (q3, .inl (c4, 60, .inl (fun _ => 0))), (q5, .inl (c6, 60, .inl (fun _ => 0))), (q7, .inl (c8, 60, .inl (fun _ => 0)))] := hD
  refine lv_aload_n hx hb dX4_init_36 rfl (lv_at hl 0 rfl) ?_
  refine lv_bipush (v := 60) hx hb dX4_init_37 (by decide) ?_
  refine va_newa (atype := .int) (a0 := (60, .inl (fun _ => 0))) hx hb (hts _ mw_158) (ty := .int) rfl hK hP hD hS hA (fun _ => rfl) (by decide) (by decide) (Nat.le_of_ble_eq_true rfl) (Nat.le_of_ble_eq_true rfl) (Nat.le_of_ble_eq_true rfl) dX4_init_39 (fun q9 c10 H hK hP hD hS => ?_)
  have hP : va_P (dC, dI) vwCl [(h0, .inr (4, [.ref q1, .ref q3, .ref q5, .ref q7, .null, .null, .null, .int 0, .int 0])), (q1, .inl (c2, 60, .inl (fun _ => 0))), (q3, .inl (c4, 60, .inl (fun _ => 0))), (q5, .inl (c6, 60, .inl (fun _ => 0))), (q7, .inl (c8, 60, .inl (fun _ => 0))), (q9, .inl (c10, 60, .inl (fun _ => 0)))] H := hP
  have hD : va_D A [(h0, .inr (4, [.ref q1, .ref q3, .ref q5, .ref q7, .null, .null, .null, .int 0, .int 0])), (q1, .inl (c2, 60, .inl (fun _ => 0))), (q3, .inl (c4, 60, .inl (fun _ => 0))), (q5, .inl (c6, 60, .inl (fun _ => 0))), (q7, .inl (c8, 60, .inl (fun _ => 0))), (q9, .inl (c10, 60, .inl (fun _ => 0)))] := hD
  have hK : va_K (dC, dI) vwCl [(c2, .int), (c4, .int), (c6, .int), (c8, .int), (c10, .int)] s := hK
  refine W.widen (k := 5) (n := 300) (Nat.le_of_ble_eq_true rfl) (Nat.le_of_ble_eq_true rfl) ?_
  refine va_putF (D := (dC, dI)) (ci := 4) (v := .ref q9) (ty := .array .int) (C := RX4) (T := TX4) (N := 9) hx hb hts gin_X4 tyX4 tyX4_ok nmX4 hown hK hP hD hS 0 rfl rfl 4 (by decide) (hts _ mw_241) (fun _ h9 => h9) rfl hin rfl (by decide +kernel) rfl rfl (Nat.le_of_ble_eq_true rfl) dX4_init_41 (fun H locs hP hD hS => ?_)
  have hP : va_P (dC, dI) vwCl [(h0, .inr (4, [.ref q1, .ref q3, .ref q5, .ref q7, .ref q9, .null, .null, .int 0, .int 0])), (q1, .inl (c2, 60, .inl (fun _ => 0))), (q3, .inl (c4, 60, .inl (fun _ => 0))), (q5, .inl (c6, 60, .inl (fun _ => 0))), (q7, .inl (c8, 60, .inl (fun _ => 0))), (q9, .inl (c10, 60, .inl (fun _ => 0)))] H := hP
  have hD : va_D A [(h0, .inr (4, [.ref q1, .ref q3, .ref q5, .ref q7, .ref q9, .null, .null, .int 0, .int 0])), (q1, .inl (c2, 60, .inl (fun _ => 0))), (q3, .inl (c4, 60, .inl (fun _ => 0))), (q5, .inl (c6, 60, .inl (fun _ => 0))), (q7, .inl (c8, 60, .inl (fun _ => 0))), (q9, .inl (c10, 60, .inl (fun _ => 0)))] := hD
  refine lv_aload_n hx hb dX4_init_44 rfl (lv_at hl 0 rfl) ?_
  refine lv_bipush (v := 32) hx hb dX4_init_45 (by decide) ?_
  refine va_newa (atype := .int) (a0 := (32, .inl (fun _ => 0))) hx hb (hts _ mw_158) (ty := .int) rfl hK hP hD hS hA (fun _ => rfl) (by decide) (by decide) (Nat.le_of_ble_eq_true rfl) (Nat.le_of_ble_eq_true rfl) (Nat.le_of_ble_eq_true rfl) dX4_init_47 (fun q11 c12 H hK hP hD hS => ?_)
  have hP : va_P (dC, dI) vwCl [(h0, .inr (4, [.ref q1, .ref q3, .ref q5, .ref q7, .ref q9, .null, .null, .int 0, .int 0])), (q1, .inl (c2, 60, .inl (fun _ => 0))), (q3, .inl (c4, 60, .inl (fun _ => 0))), (q5, .inl (c6, 60, .inl (fun _ => 0))), (q7, .inl (c8, 60, .inl (fun _ => 0))), (q9, .inl (c10, 60, .inl (fun _ => 0))), (q11, .inl (c12, 32, .inl (fun _ => 0)))] H := hP
  have hD : va_D A [(h0, .inr (4, [.ref q1, .ref q3, .ref q5, .ref q7, .ref q9, .null, .null, .int 0, .int 0])), (q1, .inl (c2, 60, .inl (fun _ => 0))), (q3, .inl (c4, 60, .inl (fun _ => 0))), (q5, .inl (c6, 60, .inl (fun _ => 0))), (q7, .inl (c8, 60, .inl (fun _ => 0))), (q9, .inl (c10, 60, .inl (fun _ => 0))), (q11, .inl (c12, 32, .inl (fun _ => 0)))] := hD
  have hK : va_K (dC, dI) vwCl [(c2, .int), (c4, .int), (c6, .int), (c8, .int), (c10, .int), (c12, .int)] s := hK
  refine W.widen (k := 6) (n := 332) (Nat.le_of_ble_eq_true rfl) (Nat.le_of_ble_eq_true rfl) ?_
  refine va_putF (D := (dC, dI)) (ci := 4) (v := .ref q11) (ty := .array .int) (C := RX4) (T := TX4) (N := 9) hx hb hts gin_X4 tyX4 tyX4_ok nmX4 hown hK hP hD hS 0 rfl rfl 5 (by decide) (hts _ mw_243) (fun _ h9 => h9) rfl hin rfl (by decide +kernel) rfl rfl (Nat.le_of_ble_eq_true rfl) dX4_init_49 (fun H locs hP hD hS => ?_)
  have hP : va_P (dC, dI) vwCl [(h0, .inr (4, [.ref q1, .ref q3, .ref q5, .ref q7, .ref q9, .ref q11, .null, .int 0, .int 0])), (q1, .inl (c2, 60, .inl (fun _ => 0))), (q3, .inl (c4, 60, .inl (fun _ => 0))), (q5, .inl (c6, 60, .inl (fun _ => 0))), (q7, .inl (c8, 60, .inl (fun _ => 0))), (q9, .inl (c10, 60, .inl (fun _ => 0))), (q11, .inl (c12, 32, .inl (fun _ => 0)))] H := hP
  have hD : va_D A [(h0, .inr (4, [.ref q1, .ref q3, .ref q5, .ref q7, .ref q9, .ref q11, .null, .int 0, .int 0])), (q1, .inl (c2, 60, .inl (fun _ => 0))), (q3, .inl (c4, 60, .inl (fun _ => 0))), (q5, .inl (c6, 60, .inl (fun _ => 0))), (q7, .inl (c8, 60, .inl (fun _ => 0))), (q9, .inl (c10, 60, .inl (fun _ => 0))), (q11, .inl (c12, 32, .inl (fun _ => 0)))] := hD
  refine lv_aload_n hx hb dX4_init_52 rfl (lv_at hl 0 rfl) ?_
  refine va_new (ci := 1) (fs := [.int 0, .int 0, .int 0, .int 0, .int 0, .int 0, .int 0, .int 0, .int 0, .int 0, .int 0]) (C := RX1) (T := TX1) (N := 11) hx hb hts gin_X1 tyX1 tyX1_ok hown (hts _ mw_185) (hts _ mw_186) (hts _ mw_104) hK hP hD hS hA rfl kfs_X1 (Nat.le_of_ble_eq_true rfl) (Nat.le_of_ble_eq_true rfl) dX4_init_53 (fun q13 H hP hD hS => ?_)
  have hP : va_P (dC, dI) vwCl [(h0, .inr (4, [.ref q1, .ref q3, .ref q5, .ref q7, .ref q9, .ref q11, .null, .int 0, .int 0])), (q1, .inl (c2, 60, .inl (fun _ => 0))), (q3, .inl (c4, 60, .inl (fun _ => 0))), (q5, .inl (c6, 60, .inl (fun _ => 0))), (q7, .inl (c8, 60, .inl (fun _ => 0))), (q9, .inl (c10, 60, .inl (fun _ => 0))), (q11, .inl (c12, 32, .inl (fun _ => 0))), (q13, .inr (1, [.int 0, .int 0, .int 0, .int 0, .int 0, .int 0, .int 0, .int 0, .int 0, .int 0, .int 0]))] H := hP
  have hD : va_D A [(h0, .inr (4, [.ref q1, .ref q3, .ref q5, .ref q7, .ref q9, .ref q11, .null, .int 0, .int 0])), (q1, .inl (c2, 60, .inl (fun _ => 0))), (q3, .inl (c4, 60, .inl (fun _ => 0))), (q5, .inl (c6, 60, .inl (fun _ => 0))), (q7, .inl (c8, 60, .inl (fun _ => 0))), (q9, .inl (c10, 60, .inl (fun _ => 0))), (q11, .inl (c12, 32, .inl (fun _ => 0))), (q13, .inr (1, [.int 0, .int 0, .int 0, .int 0, .int 0, .int 0, .int 0, .int 0, .int 0, .int 0, .int 0]))] := hD
  refine W.widen (k := 7) (n := 343) (Nat.le_of_ble_eq_true rfl) (Nat.le_of_ble_eq_true rfl) ?_
  refine lv_dup hx hb dX4_init_56 rfl ?_
  have hPc := hP.sub (ws' := [(q13, .inr (1, [.int 0, .int 0, .int 0, .int 0, .int 0, .int 0, .int 0, .int 0, .int 0, .int 0, .int 0]))]) [7] rfl
  have hDc := hD.sub (ws' := [(q13, .inr (1, [.int 0, .int 0, .int 0, .int 0, .int 0, .int 0, .int 0, .int 0, .int 0, .int 0, .int 0]))]) [7] (by decide) rfl
  have hKc := hK.sub (tys' := []) [] rfl
  have hFc := va_free (wc := [(q13, .inr (1, [.int 0, .int 0, .int 0, .int 0, .int 0, .int 0, .int 0, .int 0, .int 0, .int 0, .int 0]))]) hD hS hA [7] rfl
  refine va_callv (va_runIN (As := []) (rest := [.ref q13, .ref h0]) ⟨hx, hb, hml, hown, hts⟩ (k_X1_init l dC dI q13 H.size) ⟨va_cnB 0 hts (g_good mw_189) rfl rfl rfl (hN.1 _ mw_187 rfl) (hts _ mw_104) (by decide +kernel) ⟨Nat.le_of_ble_eq_true rfl, Nat.le_of_ble_eq_true rfl⟩, rfl, hts _ mw_188⟩ ⟨kPc_blind, fun U hU hW => ⟨rfl, by rw [hU], by rw [hU]; exact hPc, va_K.moved hW.alike hKc, hDc.weaken (fun _ _ _ _ => trivial), kN_moved hW hN⟩⟩ rfl rfl hl.1 rfl (lv_room (Nat.le_of_ble_eq_true rfl)) dX4_init_57 ⟨Nat.le_of_ble_eq_true rfl, Nat.le_of_ble_eq_true rfl⟩) hS (fun q _ h => hFc q h) hFc (fun u t H1 locs ht hvm hw hB hz1 hk1 hS => ?_)
  obtain ⟨hP1, hK1, hD1⟩ := hB
  rw [ht] at hP1
  have hK1 := va_K.moved hvm.symm hK1
  obtain ⟨hP, hD⟩ := va_join (wr := [(h0, .inr (4, [.ref q1, .ref q3, .ref q5, .ref q7, .ref q9, .ref q11, .null, .int 0, .int 0])), (q1, .inl (c2, 60, .inl (fun _ => 0))), (q3, .inl (c4, 60, .inl (fun _ => 0))), (q5, .inl (c6, 60, .inl (fun _ => 0))), (q7, .inl (c8, 60, .inl (fun _ => 0))), (q9, .inl (c10, 60, .inl (fun _ => 0))), (q11, .inl (c12, 32, .inl (fun _ => 0)))]) (w1 := [(q13, .inr (1, [.int 0, .int 0, .int 0, .int 0, .int 0, .int 0, .int 0, .int 0, .int 0, .int 0, .int 0]))]) hP hD [7] [0, 1, 2, 3, 4, 5, 6] rfl rfl (by decide) (by decide) hk1 hFc hP1 hD1
  have hK := (hK.sub (tys' := [(c2, .int), (c4, .int), (c6, .int), (c8, .int), (c10, .int), (c12, .int)]) [0, 1, 2, 3, 4, 5] rfl).app hK1
  generalize H1 = H at hP hS ⊢
  have hP : va_P (dC, dI) vwCl [(h0, .inr (4, [.ref q1, .ref q3, .ref q5, .ref q7, .ref q9, .ref q11, .null, .int 0, .int 0])), (q1, .inl (c2, 60, .inl (fun _ => 0))), (q3, .inl (c4, 60, .inl (fun _ => 0))), (q5, .inl (c6, 60, .inl (fun _ => 0))), (q7, .inl (c8, 60, .inl (fun _ => 0))), (q9, .inl (c10, 60, .inl (fun _ => 0))), (q11, .inl (c12, 32, .inl (fun _ => 0))), (q13, .inr (1, [.int 0, .int 0, .int 0, .int 0, .int 0, .int 0, .int 0, .int 0, .int 0, .int 0, .int 0]))] H := hP
  have hD : va_D A [(h0, .inr (4, [.ref q1, .ref q3, .ref q5, .ref q7, .ref q9, .ref q11, .null, .int 0, .int 0])), (q1, .inl (c2, 60, .inl (fun _ => 0))), (q3, .inl (c4, 60, .inl (fun _ => 0))), (q5, .inl (c6, 60, .inl (fun _ => 0))), (q7, .inl (c8, 60, .inl (fun _ => 0))), (q9, .inl (c10, 60, .inl (fun _ => 0))), (q11, .inl (c12, 32, .inl (fun _ => 0))), (q13, .inr (1, [.int 0, .int 0, .int 0, .int 0, .int 0, .int 0, .int 0, .int 0, .int 0, .int 0, .int 0]))] := hD
  have hK : va_K (dC, dI) vwCl [(c2, .int), (c4, .int), (c6, .int), (c8, .int), (c10, .int), (c12, .int)] s := hK
  refine W.widen (k := 7) (n := 343) (Nat.le_of_ble_eq_true rfl) (Nat.le_of_ble_eq_true rfl) ?_
  refine va_putF (D := (dC, dI)) (ci := 4) (v := .ref q13) (ty := .object "CrystalCuts$Line") (C := RX4) (T := TX4) (N := 9) hx hb hts gin_X4 tyX4 tyX4_ok nmX4 hown hK hP hD hS 0 rfl rfl 6 (by decide) (hts _ mw_245) (fun _ h9 => h9) rfl hin rfl (by decide +kernel) rfl rfl (Nat.le_of_ble_eq_true rfl) dX4_init_60 (fun H locs hP hD hS => ?_)
  have hP : va_P (dC, dI) vwCl [(h0, .inr (4, [.ref q1, .ref q3, .ref q5, .ref q7, .ref q9, .ref q11, .ref q13, .int 0, .int 0])), (q1, .inl (c2, 60, .inl (fun _ => 0))), (q3, .inl (c4, 60, .inl (fun _ => 0))), (q5, .inl (c6, 60, .inl (fun _ => 0))), (q7, .inl (c8, 60, .inl (fun _ => 0))), (q9, .inl (c10, 60, .inl (fun _ => 0))), (q11, .inl (c12, 32, .inl (fun _ => 0))), (q13, .inr (1, [.int 0, .int 0, .int 0, .int 0, .int 0, .int 0, .int 0, .int 0, .int 0, .int 0, .int 0]))] H := hP
  have hD : va_D A [(h0, .inr (4, [.ref q1, .ref q3, .ref q5, .ref q7, .ref q9, .ref q11, .ref q13, .int 0, .int 0])), (q1, .inl (c2, 60, .inl (fun _ => 0))), (q3, .inl (c4, 60, .inl (fun _ => 0))), (q5, .inl (c6, 60, .inl (fun _ => 0))), (q7, .inl (c8, 60, .inl (fun _ => 0))), (q9, .inl (c10, 60, .inl (fun _ => 0))), (q11, .inl (c12, 32, .inl (fun _ => 0))), (q13, .inr (1, [.int 0, .int 0, .int 0, .int 0, .int 0, .int 0, .int 0, .int 0, .int 0, .int 0, .int 0]))] := hD
  exact W.vret hx hb hr (fun t ht hW => ⟨⟨(), rfl, trivial, q1, q3, q5, q7, q9, q11, q13, c2, c4, c6, c8, c10, c12, by rw [ht]; exact hP, va_K.moved hW.alike hK, hD⟩, hS.F ht⟩) hS.2.2 dX4_init_63
set_option maxHeartbeats 4000000 in
set_option maxRecDepth 100000 in
theorem k_X5_init (l : Launch) (dC : Nat → ClassId) (dI : Nat → Nat → Nat) (h0 : Nat) (sz : Nat) : Met l yX5_init (Cond.code yX5_init cX5_init 2 none :: gT) ({ frames := 2, cells := 26, slots := 670, locals := 32 }) (kPc dC dI [.ref h0] sz [(h0, .inr (5, [.null, .int 0, .int 0]))]) (va_Qv (fun _ : Unit => True) (fun _ t => ∃ (q1 q3 q4 q5 q6 q7 q12 q13 q14 q15 q16 q21 q22 q23 q24 q25 q30 q31 q32 q33 q34 q39 q40 q41 q42 q43 : Nat), ∃ (c2 c8 c9 c10 c11 c17 c18 c19 c20 c26 c27 c28 c29 c35 c36 c37 c38 c44 c45 c46 c47 : ClassId), va_P (dC, dI) vwCl [(h0, .inr (5, [.ref q1, .int 0, .int 0])), (q1, .inl (c2, 5, .inr (.inr (.inr (.inr (va_up (va_up (va_up (va_up (va_up (fun _ => none) (Int32.toNatClampNeg 0) (some q3)) (Int32.toNatClampNeg 1) (some q12)) (Int32.toNatClampNeg 2) (some q21)) (Int32.toNatClampNeg 3) (some q30)) (Int32.toNatClampNeg 4) (some q39))))))), (q3, .inr (2, [.ref q4, .ref q5, .ref q6, .ref q7, .int 0])), (q4, .inl (c8, 32, .inl (fun _ => 0))), (q5, .inl (c9, 32, .inl (fun _ => 0))), (q6, .inl (c10, 32, .inl (fun _ => 0))), (q7, .inl (c11, 32, .inl (fun _ => 0))), (q12, .inr (2, [.ref q13, .ref q14, .ref q15, .ref q16, .int 0])), (q13, .inl (c17, 32, .inl (fun _ => 0))), (q14, .inl (c18, 32, .inl (fun _ => 0))), (q15, .inl (c19, 32, .inl (fun _ => 0))), (q16, .inl (c20, 32, .inl (fun _ => 0))), (q21, .inr (2, [.ref q22, .ref q23, .ref q24, .ref q25, .int 0])), (q22, .inl (c26, 32, .inl (fun _ => 0))), (q23, .inl (c27, 32, .inl (fun _ => 0))), (q24, .inl (c28, 32, .inl (fun _ => 0))), (q25, .inl (c29, 32, .inl (fun _ => 0))), (q30, .inr (2, [.ref q31, .ref q32, .ref q33, .ref q34, .int 0])), (q31, .inl (c35, 32, .inl (fun _ => 0))), (q32, .inl (c36, 32, .inl (fun _ => 0))), (q33, .inl (c37, 32, .inl (fun _ => 0))), (q34, .inl (c38, 32, .inl (fun _ => 0))), (q39, .inr (2, [.ref q40, .ref q41, .ref q42, .ref q43, .int 0])), (q40, .inl (c44, 32, .inl (fun _ => 0))), (q41, .inl (c45, 32, .inl (fun _ => 0))), (q42, .inl (c46, 32, .inl (fun _ => 0))), (q43, .inl (c47, 32, .inl (fun _ => 0)))] t.heap ∧ va_K (dC, dI) vwCl [(c2, .object RX2), (c8, .int), (c9, .int), (c10, .int), (c11, .int), (c17, .int), (c18, .int), (c19, .int), (c20, .int), (c26, .int), (c27, .int), (c28, .int), (c29, .int), (c35, .int), (c36, .int), (c37, .int), (c38, .int), (c44, .int), (c45, .int), (c46, .int), (c47, .int)] t ∧ va_D (va_A [(h0, .inr (5, [.null, .int 0, .int 0]))] sz) [(h0, .inr (5, [.ref q1, .int 0, .int 0])), (q1, .inl (c2, 5, .inr (.inr (.inr (.inr (va_up (va_up (va_up (va_up (va_up (fun _ => none) (Int32.toNatClampNeg 0) (some q3)) (Int32.toNatClampNeg 1) (some q12)) (Int32.toNatClampNeg 2) (some q21)) (Int32.toNatClampNeg 3) (some q30)) (Int32.toNatClampNeg 4) (some q39))))))), (q3, .inr (2, [.ref q4, .ref q5, .ref q6, .ref q7, .int 0])), (q4, .inl (c8, 32, .inl (fun _ => 0))), (q5, .inl (c9, 32, .inl (fun _ => 0))), (q6, .inl (c10, 32, .inl (fun _ => 0))), (q7, .inl (c11, 32, .inl (fun _ => 0))), (q12, .inr (2, [.ref q13, .ref q14, .ref q15, .ref q16, .int 0])), (q13, .inl (c17, 32, .inl (fun _ => 0))), (q14, .inl (c18, 32, .inl (fun _ => 0))), (q15, .inl (c19, 32, .inl (fun _ => 0))), (q16, .inl (c20, 32, .inl (fun _ => 0))), (q21, .inr (2, [.ref q22, .ref q23, .ref q24, .ref q25, .int 0])), (q22, .inl (c26, 32, .inl (fun _ => 0))), (q23, .inl (c27, 32, .inl (fun _ => 0))), (q24, .inl (c28, 32, .inl (fun _ => 0))), (q25, .inl (c29, 32, .inl (fun _ => 0))), (q30, .inr (2, [.ref q31, .ref q32, .ref q33, .ref q34, .int 0])), (q31, .inl (c35, 32, .inl (fun _ => 0))), (q32, .inl (c36, 32, .inl (fun _ => 0))), (q33, .inl (c37, 32, .inl (fun _ => 0))), (q34, .inl (c38, 32, .inl (fun _ => 0))), (q39, .inr (2, [.ref q40, .ref q41, .ref q42, .ref q43, .int 0])), (q40, .inl (c44, 32, .inl (fun _ => 0))), (q41, .inl (c45, 32, .inl (fun _ => 0))), (q42, .inl (c46, 32, .inl (fun _ => 0))), (q43, .inl (c47, 32, .inl (fun _ => 0)))]) (va_A [(h0, .inr (5, [.null, .int 0, .int 0]))] sz)) 26 670 (va_A [(h0, .inr (5, [.null, .int 0, .int 0]))] sz) := by
  refine Met.ofW (cc := cX5_init) (maxL := 2) (ret := none) (by decide +kernel) rfl ?_
  intro p e s m args below meth c s₁ B hml hv
  obtain ⟨rfl, hsz, hP, hK, hD0, hN⟩ := hv
  have hx := B.exec
  have hb := B.bytes
  have hr := B.returns
  have hts0 := atoms_spec (ws := Cond.code yX5_init cX5_init 2 none :: gT) B.pre
  have hts : ∀ w ∈ gT, w.before _ s = true := fun w hw => hts0 w (List.mem_cons_of_mem _ hw)
  have hown : s.vm.findClass RX5 = some m.cls := findClass_of_methodNamed B.named
  have hlocks := B.notSynchronized
  have hin : meth.name = "<init>" := (name_of_methodNamed B.named B.method).1
  subst hsz
  have hD := hD0.self (sz := s.heap.size)
  generalize hAe : va_A [(h0, .inr (5, [.null, .int 0, .int 0]))] s.heap.size = A at hD ⊢
  have hA : ∀ q : Nat, s.heap.size ≤ q → A q := fun q h => by rw [← hAe]; exact Or.inr h
  have hS : va_S A s.heap s.heap [] := va_S.rf
  have hP : va_P (dC, dI) vwCl [(h0, .inr (5, [.null, .int 0, .int 0]))] s.heap := hP
  have hl := lv_entry ([.ref h0]) (n := 2) (Nat.le_of_ble_eq_true rfl)
  rw [lg_entry_eq]
  generalize (lg_sl ([.ref h0]) ++ List.replicate (2 - (lg_sl ([.ref h0])).length) Slot.unset).toArray = ls at hl ⊢
  have hl : lv_has ls 2 [(0, .ref h0)] := hl
  refine lv_aload_n hx hb dX5_init_0 rfl (lv_at hl 0 rfl) ?_
  refine W.objInit hx hb hown (hts _ mw_164) (hts _ mw_118) (hts _ mw_119) rfl (by rw [hml]; exact hl.1) rfl dX5_init_1 (Nat.le_of_ble_eq_true rfl) (Nat.le_of_ble_eq_true rfl) ?_
  refine W.eq (g2 := F0 m 4 ls []) rfl ?_
  refine lv_aload_n hx hb dX5_init_4 rfl (lv_at hl 0 rfl) ?_
  refine lv_iconst (v := 5) hx hb dX5_init_5 (by decide) ?_
  refine va_newq (C := RX2) hx hb hown (hts _ mw_165) hN.2 hK hP hD hS hA (by decide) (N' := 5) (by decide) (Nat.le_of_ble_eq_true rfl) (Nat.le_of_ble_eq_true rfl) (Nat.le_of_ble_eq_true rfl) dX5_init_6 (fun q1 c2 H hK hP hD hS => ?_)
  have hP : va_P (dC, dI) vwCl [(h0, .inr (5, [.null, .int 0, .int 0])), (q1, .inl (c2, 5, .inr (.inr (.inr (.inr (fun _ => none))))))] H := hP
  have hD : va_D A [(h0, .inr (5, [.null, .int 0, .int 0])), (q1, .inl (c2, 5, .inr (.inr (.inr (.inr (fun _ => none))))))] := hD
  have hK : va_K (dC, dI) vwCl [(c2, .object RX2)] s := hK
  refine W.widen (k := 1) (n := 5) (Nat.le_of_ble_eq_true rfl) (Nat.le_of_ble_eq_true rfl) ?_
  refine va_putF (D := (dC, dI)) (ci := 5) (v := .ref q1) (ty := .array (.object "CrystalCuts$Planes")) (C := RX5) (T := TX5) (N := 3) hx hb hts gin_X5 tyX5 tyX5_ok nmX5 hown hK hP hD hS 0 rfl rfl 0 (by decide) (hts _ mw_168) (fun _ h9 => h9) rfl hin rfl (by decide +kernel) rfl rfl (Nat.le_of_ble_eq_true rfl) dX5_init_9 (fun H locs hP hD hS => ?_)
  have hP : va_P (dC, dI) vwCl [(h0, .inr (5, [.ref q1, .int 0, .int 0])), (q1, .inl (c2, 5, .inr (.inr (.inr (.inr (fun _ => none))))))] H := hP
  have hD : va_D A [(h0, .inr (5, [.ref q1, .int 0, .int 0])), (q1, .inl (c2, 5, .inr (.inr (.inr (.inr (fun _ => none))))))] := hD
  refine lv_iconst (v := 0) hx hb dX5_init_12 (by decide) ?_
  refine lv_istore_n (lv' := [(1, .int 0), (0, .ref h0)]) hx hb dX5_init_13 rfl hl (by decide) rfl (fun ls hl => ?_)
  refine lv_iload_n hx hb dX5_init_14 rfl (lv_at hl 0 rfl) ?_
  refine lv_iconst (v := 5) hx hb dX5_init_15 (by decide) ?_
  refine lv_icmp_ge (tgt := 38) hx hb dX5_init_16 (by decide) (fun c0 => absurd c0 (by decide)) (fun _ => ?_)
  refine lv_aload_n hx hb dX5_init_19 rfl (lv_at hl 1 rfl) ?_
  refine va_get (D := (dC, dI)) (ci := 5) (v := .ref q1) (C := RX5) (T := TX5) (N := 3) hx hb hts gin_X5 hown hK hP 0 rfl rfl 0 (by decide) (hts _ mw_168) (fun _ h9 => h9) rfl dX5_init_20 ?_
  refine lv_iload_n hx hb dX5_init_23 rfl (lv_at hl 0 rfl) ?_
  refine va_new (ci := 2) (fs := [.null, .null, .null, .null, .int 0]) (C := RX2) (T := TX2) (N := 5) hx hb hts gin_X2 tyX2 tyX2_ok hown (hts _ mw_165) (hts _ mw_121) (hts _ mw_101) hK hP hD hS hA rfl kfs_X2 (Nat.le_of_ble_eq_true rfl) (Nat.le_of_ble_eq_true rfl) dX5_init_24 (fun q3 H hP hD hS => ?_)
  have hP : va_P (dC, dI) vwCl [(h0, .inr (5, [.ref q1, .int 0, .int 0])), (q1, .inl (c2, 5, .inr (.inr (.inr (.inr (fun _ => none)))))), (q3, .inr (2, [.null, .null, .null, .null, .int 0]))] H := hP
  have hD : va_D A [(h0, .inr (5, [.ref q1, .int 0, .int 0])), (q1, .inl (c2, 5, .inr (.inr (.inr (.inr (fun _ => none)))))), (q3, .inr (2, [.null, .null, .null, .null, .int 0]))] := hD
  refine W.widen (k := 2) (n := 10) (Nat.le_of_ble_eq_true rfl) (Nat.le_of_ble_eq_true rfl) ?_
  refine lv_dup hx hb dX5_init_27 rfl ?_
  have hPc := hP.sub (ws' := [(q3, .inr (2, [.null, .null, .null, .null, .int 0]))]) [2] rfl
  have hDc := hD.sub (ws' := [(q3, .inr (2, [.null, .null, .null, .null, .int 0]))]) [2] (by decide) rfl
  have hKc := hK.sub (tys' := []) [] rfl
  have hFc := va_free (wc := [(q3, .inr (2, [.null, .null, .null, .null, .int 0]))]) hD hS hA [2] rfl
  refine va_callv (va_runIN (As := []) (rest := [.ref q3, .int 0, .ref q1]) ⟨hx, hb, hml, hown, hts⟩ (k_X2_init l dC dI q3 H.size) ⟨va_cnB 0 hts (g_good mw_124) rfl rfl rfl (hN.1 _ mw_167 rfl) (hts _ mw_101) (by decide +kernel) ⟨Nat.le_of_ble_eq_true rfl, Nat.le_of_ble_eq_true rfl⟩, rfl, hts _ mw_123⟩ ⟨kPc_blind, fun U hU hW => ⟨rfl, by rw [hU], by rw [hU]; exact hPc, va_K.moved hW.alike hKc, hDc.weaken (fun _ _ _ _ => trivial), kN_moved hW hN⟩⟩ rfl rfl hl.1 rfl (lv_room (Nat.le_of_ble_eq_true rfl)) dX5_init_28 ⟨Nat.le_of_ble_eq_true rfl, Nat.le_of_ble_eq_true rfl⟩) hS (fun q _ h => hFc q h) hFc (fun u t H1 locs ht hvm hw hB hz1 hk1 hS => ?_)
  obtain ⟨q4, q5, q6, q7, c8, c9, c10, c11, hP1, hK1, hD1⟩ := hB
  rw [ht] at hP1
  have hK1 := va_K.moved hvm.symm hK1
  obtain ⟨hP, hD⟩ := va_join (wr := [(h0, .inr (5, [.ref q1, .int 0, .int 0])), (q1, .inl (c2, 5, .inr (.inr (.inr (.inr (fun _ => none))))))]) (w1 := [(q3, .inr (2, [.ref q4, .ref q5, .ref q6, .ref q7, .int 0])), (q4, .inl (c8, 32, .inl (fun _ => 0))), (q5, .inl (c9, 32, .inl (fun _ => 0))), (q6, .inl (c10, 32, .inl (fun _ => 0))), (q7, .inl (c11, 32, .inl (fun _ => 0)))]) hP hD [2] [0, 1] rfl rfl (by decide) (by decide) hk1 hFc hP1 hD1
  have hK := (hK.sub (tys' := [(c2, .object RX2)]) [0] rfl).app hK1
  generalize H1 = H at hP hS ⊢
  have hP : va_P (dC, dI) vwCl [(h0, .inr (5, [.ref q1, .int 0, .int 0])), (q1, .inl (c2, 5, .inr (.inr (.inr (.inr (fun _ => none)))))), (q3, .inr (2, [.ref q4, .ref q5, .ref q6, .ref q7, .int 0])), (q4, .inl (c8, 32, .inl (fun _ => 0))), (q5, .inl (c9, 32, .inl (fun _ => 0))), (q6, .inl (c10, 32, .inl (fun _ => 0))), (q7, .inl (c11, 32, .inl (fun _ => 0)))] H := hP
  have hD : va_D A [(h0, .inr (5, [.ref q1, .int 0, .int 0])), (q1, .inl (c2, 5, .inr (.inr (.inr (.inr (fun _ => none)))))), (q3, .inr (2, [.ref q4, .ref q5, .ref q6, .ref q7, .int 0])), (q4, .inl (c8, 32, .inl (fun _ => 0))), (q5, .inl (c9, 32, .inl (fun _ => 0))), (q6, .inl (c10, 32, .inl (fun _ => 0))), (q7, .inl (c11, 32, .inl (fun _ => 0)))] := hD
  have hK : va_K (dC, dI) vwCl [(c2, .object RX2), (c8, .int), (c9, .int), (c10, .int), (c11, .int)] s := hK
  refine W.widen (k := 6) (n := 138) (Nat.le_of_ble_eq_true rfl) (Nat.le_of_ble_eq_true rfl) ?_
  refine va_astq (D := (dC, dI)) (r := (RX2, TX2, 5)) hx hb hK hP hD hS 1 0 2 2 rfl rfl rfl rfl (by unfold vp_in; decide) dX5_init_31 (fun H locs hP hD hS => ?_)
  have hP : va_P (dC, dI) vwCl [(h0, .inr (5, [.ref q1, .int 0, .int 0])), (q1, .inl (c2, 5, .inr (.inr (.inr (.inr (va_up (fun _ => none) (Int32.toNatClampNeg 0) (some q3))))))), (q3, .inr (2, [.ref q4, .ref q5, .ref q6, .ref q7, .int 0])), (q4, .inl (c8, 32, .inl (fun _ => 0))), (q5, .inl (c9, 32, .inl (fun _ => 0))), (q6, .inl (c10, 32, .inl (fun _ => 0))), (q7, .inl (c11, 32, .inl (fun _ => 0)))] H := hP
  have hD : va_D A [(h0, .inr (5, [.ref q1, .int 0, .int 0])), (q1, .inl (c2, 5, .inr (.inr (.inr (.inr (va_up (fun _ => none) (Int32.toNatClampNeg 0) (some q3))))))), (q3, .inr (2, [.ref q4, .ref q5, .ref q6, .ref q7, .int 0])), (q4, .inl (c8, 32, .inl (fun _ => 0))), (q5, .inl (c9, 32, .inl (fun _ => 0))), (q6, .inl (c10, 32, .inl (fun _ => 0))), (q7, .inl (c11, 32, .inl (fun _ => 0)))] := hD
  refine lv_iinc (v := 1) (lv' := [(1, .int 1), (0, .ref h0)]) hx hb dX5_init_32 hl (k := 0) rfl (by decide) (by decide) rfl (fun ls hl => ?_)
  refine lv_goto (tgt := 14) hx hb dX5_init_35 (by decide) ?_
  refine lv_iload_n hx hb dX5_init_14 rfl (lv_at hl 0 rfl) ?_
  refine lv_iconst (v := 5) hx hb dX5_init_15 (by decide) ?_
  refine lv_icmp_ge (tgt := 38) hx hb dX5_init_16 (by decide) (fun c0 => absurd c0 (by decide)) (fun _ => ?_)
  refine lv_aload_n hx hb dX5_init_19 rfl (lv_at hl 1 rfl) ?_
  refine va_get (D := (dC, dI)) (ci := 5) (v := .ref q1) (C := RX5) (T := TX5) (N := 3) hx hb hts gin_X5 hown hK hP 0 rfl rfl 0 (by decide) (hts _ mw_168) (fun _ h9 => h9) rfl dX5_init_20 ?_
  refine lv_iload_n hx hb dX5_init_23 rfl (lv_at hl 0 rfl) ?_
  refine va_new (ci := 2) (fs := [.null, .null, .null, .null, .int 0]) (C := RX2) (T := TX2) (N := 5) hx hb hts gin_X2 tyX2 tyX2_ok hown (hts _ mw_165) (hts _ mw_121) (hts _ mw_101) hK hP hD hS hA rfl kfs_X2 (Nat.le_of_ble_eq_true rfl) (Nat.le_of_ble_eq_true rfl) dX5_init_24 (fun q12 H hP hD hS => ?_)
  have hP : va_P (dC, dI) vwCl [(h0, .inr (5, [.ref q1, .int 0, .int 0])), (q1, .inl (c2, 5, .inr (.inr (.inr (.inr (va_up (fun _ => none) (Int32.toNatClampNeg 0) (some q3))))))), (q3, .inr (2, [.ref q4, .ref q5, .ref q6, .ref q7, .int 0])), (q4, .inl (c8, 32, .inl (fun _ => 0))), (q5, .inl (c9, 32, .inl (fun _ => 0))), (q6, .inl (c10, 32, .inl (fun _ => 0))), (q7, .inl (c11, 32, .inl (fun _ => 0))), (q12, .inr (2, [.null, .null, .null, .null, .int 0]))] H := hP
  have hD : va_D A [(h0, .inr (5, [.ref q1, .int 0, .int 0])), (q1, .inl (c2, 5, .inr (.inr (.inr (.inr (va_up (fun _ => none) (Int32.toNatClampNeg 0) (some q3))))))), (q3, .inr (2, [.ref q4, .ref q5, .ref q6, .ref q7, .int 0])), (q4, .inl (c8, 32, .inl (fun _ => 0))), (q5, .inl (c9, 32, .inl (fun _ => 0))), (q6, .inl (c10, 32, .inl (fun _ => 0))), (q7, .inl (c11, 32, .inl (fun _ => 0))), (q12, .inr (2, [.null, .null, .null, .null, .int 0]))] := hD
  refine W.widen (k := 7) (n := 143) (Nat.le_of_ble_eq_true rfl) (Nat.le_of_ble_eq_true rfl) ?_
  refine lv_dup hx hb dX5_init_27 rfl ?_
  have hPc := hP.sub (ws' := [(q12, .inr (2, [.null, .null, .null, .null, .int 0]))]) [7] rfl
  have hDc := hD.sub (ws' := [(q12, .inr (2, [.null, .null, .null, .null, .int 0]))]) [7] (by decide) rfl
  have hKc := hK.sub (tys' := []) [] rfl
  have hFc := va_free (wc := [(q12, .inr (2, [.null, .null, .null, .null, .int 0]))]) hD hS hA [7] rfl
  refine va_callv (va_runIN (As := []) (rest := [.ref q12, .int 1, .ref q1]) ⟨hx, hb, hml, hown, hts⟩ (k_X2_init l dC dI q12 H.size) ⟨va_cnB 0 hts (g_good mw_124) rfl rfl rfl (hN.1 _ mw_167 rfl) (hts _ mw_101) (by decide +kernel) ⟨Nat.le_of_ble_eq_true rfl, Nat.le_of_ble_eq_true rfl⟩, rfl, hts _ mw_123⟩ ⟨kPc_blind, fun U hU hW => ⟨rfl, by rw [hU], by rw [hU]; exact hPc, va_K.moved hW.alike hKc, hDc.weaken (fun _ _ _ _ => trivial), kN_moved hW hN⟩⟩ rfl rfl hl.1 rfl (lv_room (Nat.le_of_ble_eq_true rfl)) dX5_init_28 ⟨Nat.le_of_ble_eq_true rfl, Nat.le_of_ble_eq_true rfl⟩) hS (fun q _ h => hFc q h) hFc (fun u t H1 locs ht hvm hw hB hz1 hk1 hS => ?_)
  obtain ⟨q13, q14, q15, q16, c17, c18, c19, c20, hP1, hK1, hD1⟩ := hB
  rw [ht] at hP1
  have hK1 := va_K.moved hvm.symm hK1
  obtain ⟨hP, hD⟩ := va_join (wr := [(h0, .inr (5, [.ref q1, .int 0, .int 0])), (q1, .inl (c2, 5, .inr (.inr (.inr (.inr (va_up (fun _ => none) (Int32.toNatClampNeg 0) (some q3))))))), (q3, .inr (2, [.ref q4, .ref q5, .ref q6, .ref q7, .int 0])), (q4, .inl (c8, 32, .inl (fun _ => 0))), (q5, .inl (c9, 32, .inl (fun _ => 0))), (q6, .inl (c10, 32, .inl (fun _ => 0))), (q7, .inl (c11, 32, .inl (fun _ => 0)))]) (w1 := [(q12, .inr (2, [.ref q13, .ref q14, .ref q15, .ref q16, .int 0])), (q13, .inl (c17, 32, .inl (fun _ => 0))), (q14, .inl (c18, 32, .inl (fun _ => 0))), (q15, .inl (c19, 32, .inl (fun _ => 0))), (q16, .inl (c20, 32, .inl (fun _ => 0)))]) hP hD [7] [0, 1, 2, 3, 4, 5, 6] rfl rfl (by decide) (by decide) hk1 hFc hP1 hD1
  have hK := (hK.sub (tys' := [(c2, .object RX2), (c8, .int), (c9, .int), (c10, .int), (c11, .int)]) [0, 1, 2, 3, 4] rfl).app hK1
  generalize H1 = H at hP hS ⊢
  have hP : va_P (dC, dI) vwCl [(h0, .inr (5, [.ref q1, .int 0, .int 0])), (q1, .inl (c2, 5, .inr (.inr (.inr (.inr (va_up (fun _ => none) (Int32.toNatClampNeg 0) (some q3))))))), (q3, .inr (2, [.ref q4, .ref q5, .ref q6, .ref q7, .int 0])), (q4, .inl (c8, 32, .inl (fun _ => 0))), (q5, .inl (c9, 32, .inl (fun _ => 0))), (q6, .inl (c10, 32, .inl (fun _ => 0))), (q7, .inl (c11, 32, .inl (fun _ => 0))), (q12, .inr (2, [.ref q13, .ref q14, .ref q15, .ref q16, .int 0])), (q13, .inl (c17, 32, .inl (fun _ => 0))), (q14, .inl (c18, 32, .inl (fun _ => 0))), (q15, .inl (c19, 32, .inl (fun _ => 0))), (q16, .inl (c20, 32, .inl (fun _ => 0)))] H := hP
  have hD : va_D A [(h0, .inr (5, [.ref q1, .int 0, .int 0])), (q1, .inl (c2, 5, .inr (.inr (.inr (.inr (va_up (fun _ => none) (Int32.toNatClampNeg 0) (some q3))))))), (q3, .inr (2, [.ref q4, .ref q5, .ref q6, .ref q7, .int 0])), (q4, .inl (c8, 32, .inl (fun _ => 0))), (q5, .inl (c9, 32, .inl (fun _ => 0))), (q6, .inl (c10, 32, .inl (fun _ => 0))), (q7, .inl (c11, 32, .inl (fun _ => 0))), (q12, .inr (2, [.ref q13, .ref q14, .ref q15, .ref q16, .int 0])), (q13, .inl (c17, 32, .inl (fun _ => 0))), (q14, .inl (c18, 32, .inl (fun _ => 0))), (q15, .inl (c19, 32, .inl (fun _ => 0))), (q16, .inl (c20, 32, .inl (fun _ => 0)))] := hD
  have hK : va_K (dC, dI) vwCl [(c2, .object RX2), (c8, .int), (c9, .int), (c10, .int), (c11, .int), (c17, .int), (c18, .int), (c19, .int), (c20, .int)] s := hK
  refine W.widen (k := 11) (n := 271) (Nat.le_of_ble_eq_true rfl) (Nat.le_of_ble_eq_true rfl) ?_
  refine va_astq (D := (dC, dI)) (r := (RX2, TX2, 5)) hx hb hK hP hD hS 1 0 7 2 rfl rfl rfl rfl (by unfold vp_in; decide) dX5_init_31 (fun H locs hP hD hS => ?_)
  have hP : va_P (dC, dI) vwCl [(h0, .inr (5, [.ref q1, .int 0, .int 0])), (q1, .inl (c2, 5, .inr (.inr (.inr (.inr (va_up (va_up (fun _ => none) (Int32.toNatClampNeg 0) (some q3)) (Int32.toNatClampNeg 1) (some q12))))))), (q3, .inr (2, [.ref q4, .ref q5, .ref q6, .ref q7, .int 0])), (q4, .inl (c8, 32, .inl (fun _ => 0))), (q5, .inl (c9, 32, .inl (fun _ => 0))), (q6, .inl (c10, 32, .inl (fun _ => 0))), (q7, .inl (c11, 32, .inl (fun _ => 0))), (q12, .inr (2, [.ref q13, .ref q14, .ref q15, .ref q16, .int 0])), (q13, .inl (c17, 32, .inl (fun _ => 0))), (q14, .inl (c18, 32, .inl (fun _ => 0))), (q15, .inl (c19, 32, .inl (fun _ => 0))), (q16, .inl (c20, 32, .inl (fun _ => 0)))] H := hP
  have hD : va_D A [(h0, .inr (5, [.ref q1, .int 0, .int 0])), (q1, .inl (c2, 5, .inr (.inr (.inr (.inr (va_up (va_up (fun _ => none) (Int32.toNatClampNeg 0) (some q3)) (Int32.toNatClampNeg 1) (some q12))))))), (q3, .inr (2, [.ref q4, .ref q5, .ref q6, .ref q7, .int 0])), (q4, .inl (c8, 32, .inl (fun _ => 0))), (q5, .inl (c9, 32, .inl (fun _ => 0))), (q6, .inl (c10, 32, .inl (fun _ => 0))), (q7, .inl (c11, 32, .inl (fun _ => 0))), (q12, .inr (2, [.ref q13, .ref q14, .ref q15, .ref q16, .int 0])), (q13, .inl (c17, 32, .inl (fun _ => 0))), (q14, .inl (c18, 32, .inl (fun _ => 0))), (q15, .inl (c19, 32, .inl (fun _ => 0))), (q16, .inl (c20, 32, .inl (fun _ => 0)))] := hD
  refine lv_iinc (v := 2) (lv' := [(1, .int 2), (0, .ref h0)]) hx hb dX5_init_32 hl (k := 0) rfl (by decide) (by decide) rfl (fun ls hl => ?_)
  refine lv_goto (tgt := 14) hx hb dX5_init_35 (by decide) ?_
  refine lv_iload_n hx hb dX5_init_14 rfl (lv_at hl 0 rfl) ?_
  refine lv_iconst (v := 5) hx hb dX5_init_15 (by decide) ?_
  refine lv_icmp_ge (tgt := 38) hx hb dX5_init_16 (by decide) (fun c0 => absurd c0 (by decide)) (fun _ => ?_)
  refine lv_aload_n hx hb dX5_init_19 rfl (lv_at hl 1 rfl) ?_
  refine va_get (D := (dC, dI)) (ci := 5) (v := .ref q1) (C := RX5) (T := TX5) (N := 3) hx hb hts gin_X5 hown hK hP 0 rfl rfl 0 (by decide) (hts _ mw_168) (fun _ h9 => h9) rfl dX5_init_20 ?_
  refine lv_iload_n hx hb dX5_init_23 rfl (lv_at hl 0 rfl) ?_
  refine va_new (ci := 2) (fs := [.null, .null, .null, .null, .int 0]) (C := RX2) (T := TX2) (N := 5) hx hb hts gin_X2 tyX2 tyX2_ok hown (hts _ mw_165) (hts _ mw_121) (hts _ mw_101) hK hP hD hS hA rfl kfs_X2 (Nat.le_of_ble_eq_true rfl) (Nat.le_of_ble_eq_true rfl) dX5_init_24 (fun q21 H hP hD hS => ?_)
  have hP : va_P (dC, dI) vwCl [(h0, .inr (5, [.ref q1, .int 0, .int 0])), (q1, .inl (c2, 5, .inr (.inr (.inr (.inr (va_up (va_up (fun _ => none) (Int32.toNatClampNeg 0) (some q3)) (Int32.toNatClampNeg 1) (some q12))))))), (q3, .inr (2, [.ref q4, .ref q5, .ref q6, .ref q7, .int 0])), (q4, .inl (c8, 32, .inl (fun _ => 0))), (q5, .inl (c9, 32, .inl (fun _ => 0))), (q6, .inl (c10, 32, .inl (fun _ => 0))), (q7, .inl (c11, 32, .inl (fun _ => 0))), (q12, .inr (2, [.ref q13, .ref q14, .ref q15, .ref q16, .int 0])), (q13, .inl (c17, 32, .inl (fun _ => 0))), (q14, .inl (c18, 32, .inl (fun _ => 0))), (q15, .inl (c19, 32, .inl (fun _ => 0))), (q16, .inl (c20, 32, .inl (fun _ => 0))), (q21, .inr (2, [.null, .null, .null, .null, .int 0]))] H := hP
  have hD : va_D A [(h0, .inr (5, [.ref q1, .int 0, .int 0])), (q1, .inl (c2, 5, .inr (.inr (.inr (.inr (va_up (va_up (fun _ => none) (Int32.toNatClampNeg 0) (some q3)) (Int32.toNatClampNeg 1) (some q12))))))), (q3, .inr (2, [.ref q4, .ref q5, .ref q6, .ref q7, .int 0])), (q4, .inl (c8, 32, .inl (fun _ => 0))), (q5, .inl (c9, 32, .inl (fun _ => 0))), (q6, .inl (c10, 32, .inl (fun _ => 0))), (q7, .inl (c11, 32, .inl (fun _ => 0))), (q12, .inr (2, [.ref q13, .ref q14, .ref q15, .ref q16, .int 0])), (q13, .inl (c17, 32, .inl (fun _ => 0))), (q14, .inl (c18, 32, .inl (fun _ => 0))), (q15, .inl (c19, 32, .inl (fun _ => 0))), (q16, .inl (c20, 32, .inl (fun _ => 0))), (q21, .inr (2, [.null, .null, .null, .null, .int 0]))] := hD
  refine W.widen (k := 12) (n := 276) (Nat.le_of_ble_eq_true rfl) (Nat.le_of_ble_eq_true rfl) ?_
  refine lv_dup hx hb dX5_init_27 rfl ?_
  have hPc := hP.sub (ws' := [(q21, .inr (2, [.null, .null, .null, .null, .int 0]))]) [12] rfl
  have hDc := hD.sub (ws' := [(q21, .inr (2, [.null, .null, .null, .null, .int 0]))]) [12] (by decide) rfl
  have hKc := hK.sub (tys' := []) [] rfl
  have hFc := va_free (wc := [(q21, .inr (2, [.null, .null, .null, .null, .int 0]))]) hD hS hA [12] rfl
  refine va_callv (va_runIN (As := []) (rest := [.ref q21, .int 2, .ref q1]) ⟨hx, hb, hml, hown, hts⟩ (k_X2_init l dC dI q21 H.size) ⟨va_cnB 0 hts (g_good mw_124) rfl rfl rfl (hN.1 _ mw_167 rfl) (hts _ mw_101) (by decide +kernel) ⟨Nat.le_of_ble_eq_true rfl, Nat.le_of_ble_eq_true rfl⟩, rfl, hts _ mw_123⟩ ⟨kPc_blind, fun U hU hW => ⟨rfl, by rw [hU], by rw [hU]; exact hPc, va_K.moved hW.alike hKc, hDc.weaken (fun _ _ _ _ => trivial), kN_moved hW hN⟩⟩ rfl rfl hl.1 rfl (lv_room (Nat.le_of_ble_eq_true rfl)) dX5_init_28 ⟨Nat.le_of_ble_eq_true rfl, Nat.le_of_ble_eq_true rfl⟩) hS (fun q _ h => hFc q h) hFc (fun u t H1 locs ht hvm hw hB hz1 hk1 hS => ?_)
  obtain ⟨q22, q23, q24, q25, c26, c27, c28, c29, hP1, hK1, hD1⟩ := hB
  rw [ht] at hP1
  have hK1 := va_K.moved hvm.symm hK1
  obtain ⟨hP, hD⟩ := va_join (wr := [(h0, .inr (5, [.ref q1, .int 0, .int 0])), (q1, .inl (c2, 5, .inr (.inr (.inr (.inr (va_up (va_up (fun _ => none) (Int32.toNatClampNeg 0) (some q3)) (Int32.toNatClampNeg 1) (some q12))))))), (q3, .inr (2, [.ref q4, .ref q5, .ref q6, .ref q7, .int 0])), (q4, .inl (c8, 32, .inl (fun _ => 0))), (q5, .inl (c9, 32, .inl (fun _ => 0))), (q6, .inl (c10, 32, .inl (fun _ => 0))), (q7, .inl (c11, 32, .inl (fun _ => 0))), (q12, .inr (2, [.ref q13, .ref q14, .ref q15, .ref q16, .int 0])), (q13, .inl (c17, 32, .inl (fun _ => 0))), (q14, .inl (c18, 32, .inl (fun _ => 0))), (q15, .inl (c19, 32, .inl (fun _ => 0))), (q16, .inl (c20, 32, .inl (fun _ => 0)))]) (w1 := [(q21, .inr (2, [.ref q22, .ref q23, .ref q24, .ref q25, .int 0])), (q22, .inl (c26, 32, .inl (fun _ => 0))), (q23, .inl (c27, 32, .inl (fun _ => 0))), (q24, .inl (c28, 32, .inl (fun _ => 0))), (q25, .inl (c29, 32, .inl (fun _ => 0)))]) hP hD [12] [0, 1, 2, 3, 4, 5, 6, 7, 8, 9, 10, 11] rfl rfl (by decide) (by decide) hk1 hFc hP1 hD1
  have hK := (hK.sub (tys' := [(c2, .object RX2), (c8, .int), (c9, .int), (c10, .int), (c11, .int), (c17, .int), (c18, .int), (c19, .int), (c20, .int)]) [0, 1, 2, 3, 4, 5, 6, 7, 8] rfl).app hK1
  generalize H1 = H at hP hS ⊢
  have hP : va_P (dC, dI) vwCl [(h0, .inr (5, [.ref q1, .int 0, .int 0])), (q1, .inl (c2, 5, .inr (.inr (.inr (.inr (va_up (va_up (fun _ => none) (Int32.toNatClampNeg 0) (some q3)) (Int32.toNatClampNeg 1) (some q12))))))), (q3, .inr (2, [.ref q4, .ref q5, .ref q6, .ref q7, .int 0])), (q4, .inl (c8, 32, .inl (fun _ => 0))), (q5, .inl (c9, 32, .inl (fun _ => 0))), (q6, .inl (c10, 32, .inl (fun _ => 0))), (q7, .inl (c11, 32, .inl (fun _ => 0))), (q12, .inr (2, [.ref q13, .ref q14, .ref q15, .ref q16, .int 0])), (q13, .inl (c17, 32, .inl (fun _ => 0))), (q14, .inl (c18, 32, .inl (fun _ => 0))), (q15, .inl (c19, 32, .inl (fun _ => 0))), (q16, .inl (c20, 32, .inl (fun _ => 0))), (q21, .inr (2, [.ref q22, .ref q23, .ref q24, .ref q25, .int 0])), (q22, .inl (c26, 32, .inl (fun _ => 0))), (q23, .inl (c27, 32, .inl (fun _ => 0))), (q24, .inl (c28, 32, .inl (fun _ => 0))), (q25, .inl (c29, 32, .inl (fun _ => 0)))] H := hP
  have hD : va_D A [(h0, .inr (5, [.ref q1, .int 0, .int 0])), (q1, .inl (c2, 5, .inr (.inr (.inr (.inr (va_up (va_up (fun _ => none) (Int32.toNatClampNeg 0) (some q3)) (Int32.toNatClampNeg 1) (some q12))))))), (q3, .inr (2, [.ref q4, .ref q5, .ref q6, .ref q7, .int 0])), (q4, .inl (c8, 32, .inl (fun _ => 0))), (q5, .inl (c9, 32, .inl (fun _ => 0))), (q6, .inl (c10, 32, .inl (fun _ => 0))), (q7, .inl (c11, 32, .inl (fun _ => 0))), (q12, .inr (2, [.ref q13, .ref q14, .ref q15, .ref q16, .int 0])), (q13, .inl (c17, 32, .inl (fun _ => 0))), (q14, .inl (c18, 32, .inl (fun _ => 0))), (q15, .inl (c19, 32, .inl (fun _ => 0))), (q16, .inl (c20, 32, .inl (fun _ => 0))), (q21, .inr (2, [.ref q22, .ref q23, .ref q24, .ref q25, .int 0])), (q22, .inl (c26, 32, .inl (fun _ => 0))), (q23, .inl (c27, 32, .inl (fun _ => 0))), (q24, .inl (c28, 32, .inl (fun _ => 0))), (q25, .inl (c29, 32, .inl (fun _ => 0)))] := hD
  have hK : va_K (dC, dI) vwCl [(c2, .object RX2), (c8, .int), (c9, .int), (c10, .int), (c11, .int), (c17, .int), (c18, .int), (c19, .int), (c20, .int), (c26, .int), (c27, .int), (c28, .int), (c29, .int)] s := hK
  refine W.widen (k := 16) (n := 404) (Nat.le_of_ble_eq_true rfl) (Nat.le_of_ble_eq_true rfl) ?_
  refine va_astq (D := (dC, dI)) (r := (RX2, TX2, 5)) hx hb hK hP hD hS 1 0 12 2 rfl rfl rfl rfl (by unfold vp_in; decide) dX5_init_31 (fun H locs hP hD hS => ?_)
  have hP : va_P (dC, dI) vwCl [(h0, .inr (5, [.ref q1, .int 0, .int 0])), (q1, .inl (c2, 5, .inr (.inr (.inr (.inr (va_up (va_up (va_up (fun _ => none) (Int32.toNatClampNeg 0) (some q3)) (Int32.toNatClampNeg 1) (some q12)) (Int32.toNatClampNeg 2) (some q21))))))), (q3, .inr (2, [.ref q4, .ref q5, .ref q6, .ref q7, .int 0])), (q4, .inl (c8, 32, .inl (fun _ => 0))), (q5, .inl (c9, 32, .inl (fun _ => 0))), (q6, .inl (c10, 32, .inl (fun _ => 0))), (q7, .inl (c11, 32, .inl (fun _ => 0))), (q12, .inr (2, [.ref q13, .ref q14, .ref q15, .ref q16, .int 0])), (q13, .inl (c17, 32, .inl (fun _ => 0))), (q14, .inl (c18, 32, .inl (fun _ => 0))), (q15, .inl (c19, 32, .inl (fun _ => 0))), (q16, .inl (c20, 32, .inl (fun _ => 0))), (q21, .inr (2, [.ref q22, .ref q23, .ref q24, .ref q25, .int 0])), (q22, .inl (c26, 32, .inl (fun _ => 0))), (q23, .inl (c27, 32, .inl (fun _ => 0))), (q24, .inl (c28, 32, .inl (fun _ => 0))), (q25, .inl (c29, 32, .inl (fun _ => 0)))] H := hP
  have hD : va_D A [(h0, .inr (5, [.ref q1, .int 0, .int 0])), (q1, .inl (c2, 5, .inr (.inr (.inr (.inr (va_up (va_up (va_up (fun _ => none) (Int32.toNatClampNeg 0) (some q3)) (Int32.toNatClampNeg 1) (some q12)) (Int32.toNatClampNeg 2) (some q21))))))), (q3, .inr (2, [.ref q4, .ref q5, .ref q6, .ref q7, .int 0])), (q4, .inl (c8, 32, .inl (fun _ => 0))), (q5, .inl (c9, 32, .inl (fun _ => 0))), (q6, .inl (c10, 32, .inl (fun _ => 0))), (q7, .inl (c11, 32, .inl (fun _ => 0))), (q12, .inr (2, [.ref q13, .ref q14, .ref q15, .ref q16, .int 0])), (q13, .inl (c17, 32, .inl (fun _ => 0))), (q14, .inl (c18, 32, .inl (fun _ => 0))), (q15, .inl (c19, 32, .inl (fun _ => 0))), (q16, .inl (c20, 32, .inl (fun _ => 0))), (q21, .inr (2, [.ref q22, .ref q23, .ref q24, .ref q25, .int 0])), (q22, .inl (c26, 32, .inl (fun _ => 0))), (q23, .inl (c27, 32, .inl (fun _ => 0))), (q24, .inl (c28, 32, .inl (fun _ => 0))), (q25, .inl (c29, 32, .inl (fun _ => 0)))] := hD
  refine lv_iinc (v := 3) (lv' := [(1, .int 3), (0, .ref h0)]) hx hb dX5_init_32 hl (k := 0) rfl (by decide) (by decide) rfl (fun ls hl => ?_)
  refine lv_goto (tgt := 14) hx hb dX5_init_35 (by decide) ?_
  refine lv_iload_n hx hb dX5_init_14 rfl (lv_at hl 0 rfl) ?_
  refine lv_iconst (v := 5) hx hb dX5_init_15 (by decide) ?_
  refine lv_icmp_ge (tgt := 38) hx hb dX5_init_16 (by decide) (fun c0 => absurd c0 (by decide)) (fun _ => ?_)
  refine lv_aload_n hx hb dX5_init_19 rfl (lv_at hl 1 rfl) ?_
  refine va_get (D := (dC, dI)) (ci := 5) (v := .ref q1) (C := RX5) (T := TX5) (N := 3) hx hb hts gin_X5 hown hK hP 0 rfl rfl 0 (by decide) (hts _ mw_168) (fun _ h9 => h9) rfl dX5_init_20 ?_
  refine lv_iload_n hx hb dX5_init_23 rfl (lv_at hl 0 rfl) ?_
  refine va_new (ci := 2) (fs := [.null, .null, .null, .null, .int 0]) (C := RX2) (T := TX2) (N := 5) hx hb hts gin_X2 tyX2 tyX2_ok hown (hts _ mw_165) (hts _ mw_121) (hts _ mw_101) hK hP hD hS hA rfl kfs_X2 (Nat.le_of_ble_eq_true rfl) (Nat.le_of_ble_eq_true rfl) dX5_init_24 (fun q30 H hP hD hS => ?_)
  have hP : va_P (dC, dI) vwCl [(h0, .inr (5, [.ref q1, .int 0, .int 0])), (q1, .inl (c2, 5, .inr (.inr (.inr (.inr (va_up (va_up (va_up (fun _ => none) (Int32.toNatClampNeg 0) (some q3)) (Int32.toNatClampNeg 1) (some q12)) (Int32.toNatClampNeg 2) (some q21))))))), (q3, .inr (2, [.ref q4, .ref q5, .ref q6, .ref q7, .int 0])), (q4, .inl (c8, 32, .inl (fun _ => 0))), (q5, .inl (c9, 32, .inl (fun _ => 0))), (q6, .inl (c10, 32, .inl (fun _ => 0))), (q7, .inl (c11, 32, .inl (fun _ => 0))), (q12, .inr (2, [.ref q13, .ref q14, .ref q15, .ref q16, .int 0])), (q13, .inl (c17, 32, .inl (fun _ => 0))), (q14, .inl (c18, 32, .inl (fun _ => 0))), (q15, .inl (c19, 32, .inl (fun _ => 0))), (q16, .inl (c20, 32, .inl (fun _ => 0))), (q21, .inr (2, [.ref q22, .ref q23, .ref q24, .ref q25, .int 0])), (q22, .inl (c26, 32, .inl (fun _ => 0))), (q23, .inl (c27, 32, .inl (fun _ => 0))), (q24, .inl (c28, 32, .inl (fun _ => 0))), (q25, .inl (c29, 32, .inl (fun _ => 0))), (q30, .inr (2, [.null, .null, .null, .null, .int 0]))] H := hP
  have hD : va_D A [(h0, .inr (5, [.ref q1, .int 0, .int 0])), (q1, .inl (c2, 5, .inr (.inr (.inr (.inr (va_up (va_up (va_up (fun _ => none) (Int32.toNatClampNeg 0) (some q3)) (Int32.toNatClampNeg 1) (some q12)) (Int32.toNatClampNeg 2) (some q21))))))), (q3, .inr (2, [.ref q4, .ref q5, .ref q6, .ref q7, .int 0])), (q4, .inl (c8, 32, .inl (fun _ => 0))), (q5, .inl (c9, 32, .inl (fun _ => 0))), (q6, .inl (c10, 32, .inl (fun _ => 0))), (q7, .inl (c11, 32, .inl (fun _ => 0))), (q12, .inr (2, [.ref q13, .ref q14, .ref q15, .ref q16, .int 0])), (q13, .inl (c17, 32, .inl (fun _ => 0))), (q14, .inl (c18, 32, .inl (fun _ => 0))), (q15, .inl (c19, 32, .inl (fun _ => 0))), (q16, .inl (c20, 32, .inl (fun _ => 0))), (q21, .inr (2, [.ref q22, .ref q23, .ref q24, .ref q25, .int 0])), (q22, .inl (c26, 32, .inl (fun _ => 0))), (q23, .inl (c27, 32, .inl (fun _ => 0))), (q24, .inl (c28, 32, .inl (fun _ => 0))), (q25, .inl (c29, 32, .inl (fun _ => 0))), (q30, .inr (2, [.null, .null, .null, .null, .int 0]))] := hD
  refine W.widen (k := 17) (n := 409) (Nat.le_of_ble_eq_true rfl) (Nat.le_of_ble_eq_true rfl) ?_
  refine lv_dup hx hb dX5_init_27 rfl ?_
  have hPc := hP.sub (ws' := [(q30, .inr (2, [.null, .null, .null, .null, .int 0]))]) [17] rfl
  have hDc := hD.sub (ws' := [(q30, .inr (2, [.null, .null, .null, .null, .int 0]))]) [17] (by decide) rfl
  have hKc := hK.sub (tys' := []) [] rfl
  have hFc := va_free (wc := [(q30, .inr (2, [.null, .null, .null, .null, .int 0]))]) hD hS hA [17] rfl
  refine va_callv (va_runIN (As := []) (rest := [.ref q30, .int 3, .ref q1]) ⟨hx, hb, hml, hown, hts⟩ (k_X2_init l dC dI q30 H.size) ⟨va_cnB 0 hts (g_good mw_124) rfl rfl rfl (hN.1 _ mw_167 rfl) (hts _ mw_101) (by decide +kernel) ⟨Nat.le_of_ble_eq_true rfl, Nat.le_of_ble_eq_true rfl⟩, rfl, hts _ mw_123⟩ ⟨kPc_blind, fun U hU hW => ⟨rfl, by rw [hU], by rw [hU]; exact hPc, va_K.moved hW.alike hKc, hDc.weaken (fun _ _ _ _ => trivial), kN_moved hW hN⟩⟩ rfl rfl hl.1 rfl (lv_room (Nat.le_of_ble_eq_true rfl)) dX5_init_28 ⟨Nat.le_of_ble_eq_true rfl, Nat.le_of_ble_eq_true rfl⟩) hS (fun q _ h => hFc q h) hFc (fun u t H1 locs ht hvm hw hB hz1 hk1 hS => ?_)
  obtain ⟨q31, q32, q33, q34, c35, c36, c37, c38, hP1, hK1, hD1⟩ := hB
  rw [ht] at hP1
  have hK1 := va_K.moved hvm.symm hK1
  obtain ⟨hP, hD⟩ := va_join (wr := [(h0, .inr (5, [.ref q1, .int 0, .int 0])), (q1, .inl (c2, 5, .inr (.inr (.inr (.inr (va_up (va_up (va_up (fun _ => none) (Int32.toNatClampNeg 0) (some q3)) (Int32.toNatClampNeg 1) (some q12)) (Int32.toNatClampNeg 2) (some q21))))))), (q3, .inr (2, [.ref q4, .ref q5, .ref q6, .ref q7, .int 0])), (q4, .inl (c8, 32, .inl (fun _ => 0))), (q5, .inl (c9, 32, .inl (fun _ => 0))), (q6, .inl (c10, 32, .inl (fun _ => 0))), (q7, .inl (c11, 32, .inl (fun _ => 0))), (q12, .inr (2, [.ref q13, .ref q14, .ref q15, .ref q16, .int 0])), (q13, .inl (c17, 32, .inl (fun _ => 0))), (q14, .inl (c18, 32, .inl (fun _ => 0))), (q15, .inl (c19, 32, .inl (fun _ => 0))), (q16, .inl (c20, 32, .inl (fun _ => 0))), (q21, .inr (2, [.ref q22, .ref q23, .ref q24, .ref q25, .int 0])), (q22, .inl (c26, 32, .inl (fun _ => 0))), (q23, .inl (c27, 32, .inl (fun _ => 0))), (q24, .inl (c28, 32, .inl (fun _ => 0))), (q25, .inl (c29, 32, .inl (fun _ => 0)))]) (w1 := [(q30, .inr (2, [.ref q31, .ref q32, .ref q33, .ref q34, .int 0])), (q31, .inl (c35, 32, .inl (fun _ => 0))), (q32, .inl (c36, 32, .inl (fun _ => 0))), (q33, .inl (c37, 32, .inl (fun _ => 0))), (q34, .inl (c38, 32, .inl (fun _ => 0)))]) hP hD [17] [0, 1, 2, 3, 4, 5, 6, 7, 8, 9, 10, 11, 12, 13, 14, 15, 16] rfl rfl (by decide) (by decide) hk1 hFc hP1 hD1
  have hK := (hK.sub (tys' := [(c2, .object RX2), (c8, .int), (c9, .int), (c10, .int), (c11, .int), (c17, .int), (c18, .int), (c19, .int), (c20, .int), (c26, .int), (c27, .int), (c28, .int), (c29, .int)]) [0, 1, 2, 3, 4, 5, 6, 7, 8, 9, 10, 11, 12] rfl).app hK1
  generalize H1 = H at hP hS ⊢
  have hP : va_P (dC, dI) vwCl [(h0, .inr (5, [.ref q1, .int 0, .int 0])), (q1, .inl (c2, 5, .inr (.inr (.inr (.inr (va_up (va_up (va_up (fun _ => none) (Int32.toNatClampNeg 0) (some q3)) (Int32.toNatClampNeg 1) (some q12)) (Int32.toNatClampNeg 2) (some q21))))))), (q3, .inr (2, [.ref q4, .ref q5, .ref q6, .ref q7, .int 0])), (q4, .inl (c8, 32, .inl (fun _ => 0))), (q5, .inl (c9, 32, .inl (fun _ => 0))), (q6, .inl (c10, 32, .inl (fun _ => 0))), (q7, .inl (c11, 32, .inl (fun _ => 0))), (q12, .inr (2, [.ref q13, .ref q14, .ref q15, .ref q16, .int 0])), (q13, .inl (c17, 32, .inl (fun _ => 0))), (q14, .inl (c18, 32, .inl (fun _ => 0))), (q15, .inl (c19, 32, .inl (fun _ => 0))), (q16, .inl (c20, 32, .inl (fun _ => 0))), (q21, .inr (2, [.ref q22, .ref q23, .ref q24, .ref q25, .int 0])), (q22, .inl (c26, 32, .inl (fun _ => 0))), (q23, .inl (c27, 32, .inl (fun _ => 0))), (q24, .inl (c28, 32, .inl (fun _ => 0))), (q25, .inl (c29, 32, .inl (fun _ => 0))), (q30, .inr (2, [.ref q31, .ref q32, .ref q33, .ref q34, .int 0])), (q31, .inl (c35, 32, .inl (fun _ => 0))), (q32, .inl (c36, 32, .inl (fun _ => 0))), (q33, .inl (c37, 32, .inl (fun _ => 0))), (q34, .inl (c38, 32, .inl (fun _ => 0)))] H := hP
  have hD : va_D A [(h0, .inr (5, [.ref q1, .int 0, .int 0])), (q1, .inl (c2, 5, .inr (.inr (.inr (.inr (va_up (va_up (va_up (fun _ => none) (Int32.toNatClampNeg 0) (some q3)) (Int32.toNatClampNeg 1) (some q12)) (Int32.toNatClampNeg 2) (some q21))))))), (q3, .inr (2, [.ref q4, .ref q5, .ref q6, .ref q7, .int 0])), (q4, .inl (c8, 32, .inl (fun _ => 0))), (q5, .inl (c9, 32, .inl (fun _ => 0))), (q6, .inl (c10, 32, .inl (fun _ => 0))), (q7, .inl (c11, 32, .inl (fun _ => 0))), (q12, .inr (2, [.ref q13, .ref q14, .ref q15, .ref q16, .int 0])), (q13, .inl (c17, 32, .inl (fun _ => 0))), (q14, .inl (c18, 32, .inl (fun _ => 0))), (q15, .inl (c19, 32, .inl (fun _ => 0))), (q16, .inl (c20, 32, .inl (fun _ => 0))), (q21, .inr (2, [.ref q22, .ref q23, .ref q24, .ref q25, .int 0])), (q22, .inl (c26, 32, .inl (fun _ => 0))), (q23, .inl (c27, 32, .inl (fun _ => 0))), (q24, .inl (c28, 32, .inl (fun _ => 0))), (q25, .inl (c29, 32, .inl (fun _ => 0))), (q30, .inr (2, [.ref q31, .ref q32, .ref q33, .ref q34, .int 0])), (q31, .inl (c35, 32, .inl (fun _ => 0))), (q32, .inl (c36, 32, .inl (fun _ => 0))), (q33, .inl (c37, 32, .inl (fun _ => 0))), (q34, .inl (c38, 32, .inl (fun _ => 0)))] := hD
  have hK : va_K (dC, dI) vwCl [(c2, .object RX2), (c8, .int), (c9, .int), (c10, .int), (c11, .int), (c17, .int), (c18, .int), (c19, .int), (c20, .int), (c26, .int), (c27, .int), (c28, .int), (c29, .int), (c35, .int), (c36, .int), (c37, .int), (c38, .int)] s := hK
  refine W.widen (k := 21) (n := 537) (Nat.le_of_ble_eq_true rfl) (Nat.le_of_ble_eq_true rfl) ?_
  refine va_astq (D := (dC, dI)) (r := (RX2, TX2, 5)) hx hb hK hP hD hS 1 0 17 2 rfl rfl rfl rfl (by unfold vp_in; decide) dX5_init_31 (fun H locs hP hD hS => ?_)
  have hP : va_P (dC, dI) vwCl [(h0, .inr (5, [.ref q1, .int 0, .int 0])), (q1, .inl (c2, 5, .inr (.inr (.inr (.inr (va_up (va_up (va_up (va_up (fun _ => none) (Int32.toNatClampNeg 0) (some q3)) (Int32.toNatClampNeg 1) (some q12)) (Int32.toNatClampNeg 2) (some q21)) (Int32.toNatClampNeg 3) (some q30))))))), (q3, .inr (2, [.ref q4, .ref q5, .ref q6, .ref q7, .int 0])), (q4, .inl (c8, 32, .inl (fun _ => 0))), (q5, .inl (c9, 32, .inl (fun _ => 0))), (q6, .inl (c10, 32, .inl (fun _ => 0))), (q7, .inl (c11, 32, .inl (fun _ => 0))), (q12, .inr (2, [.ref q13, .ref q14, .ref q15, .ref q16, .int 0])), (q13, .inl (c17, 32, .inl (fun _ => 0))), (q14, .inl (c18, 32, .inl (fun _ => 0))), (q15, .inl (c19, 32, .inl (fun _ => 0))), (q16, .inl (c20, 32, .inl (fun _ => 0))), (q21, .inr (2, [.ref q22, .ref q23, .ref q24, .ref q25, .int 0])), (q22, .inl (c26, 32, .inl (fun _ => 0))), (q23, .inl (c27, 32, .inl (fun _ => 0))), (q24, .inl (c28, 32, .inl (fun _ => 0))), (q25, .inl (c29, 32, .inl (fun _ => 0))), (q30, .inr (2, [.ref q31, .ref q32, .ref q33, .ref q34, .int 0])), (q31, .inl (c35, 32, .inl (fun _ => 0))), (q32, .inl (c36, 32, .inl (fun _ => 0))), (q33, .inl (c37, 32, .inl (fun _ => 0))), (q34, .inl (c38, 32, .inl (fun _ => 0)))] H := hP
  have hD : va_D A [(h0, .inr (5, [.ref q1, .int 0, .int 0])), (q1, .inl (c2, 5, .inr (.inr (.inr (.inr (va_up (va_up (va_up (va_up (fun _ => none) (Int32.toNatClampNeg 0) (some q3)) (Int32.toNatClampNeg 1) (some q12)) (Int32.toNatClampNeg 2) (some q21)) (Int32.toNatClampNeg 3) (some q30))))))), (q3, .inr (2, [.ref q4, .ref q5, .ref q6, .ref q7, .int 0])), (q4, .inl (c8, 32, .inl (fun _ => 0))), (q5, .inl (c9, 32, .inl (fun _ => 0))), (q6, .inl (c10, 32, .inl (fun _ => 0))), (q7, .inl (c11, 32, .inl (fun _ => 0))), (q12, .inr (2, [.ref q13, .ref q14, .ref q15, .ref q16, .int 0])), (q13, .inl (c17, 32, .inl (fun _ => 0))), (q14, .inl (c18, 32, .inl (fun _ => 0))), (q15, .inl (c19, 32, .inl (fun _ => 0))), (q16, .inl (c20, 32, .inl (fun _ => 0))), (q21, .inr (2, [.ref q22, .ref q23, .ref q24, .ref q25, .int 0])), (q22, .inl (c26, 32, .inl (fun _ => 0))), (q23, .inl (c27, 32, .inl (fun _ => 0))), (q24, .inl (c28, 32, .inl (fun _ => 0))), (q25, .inl (c29, 32, .inl (fun _ => 0))), (q30, .inr (2, [.ref q31, .ref q32, .ref q33, .ref q34, .int 0])), (q31, .inl (c35, 32, .inl (fun _ => 0))), (q32, .inl (c36, 32, .inl (fun _ => 0))), (q33, .inl (c37, 32, .inl (fun _ => 0))), (q34, .inl (c38, 32, .inl (fun _ => 0)))] := hD
  refine lv_iinc (v := 4) (lv' := [(1, .int 4), (0, .ref h0)]) hx hb dX5_init_32 hl (k := 0) rfl (by decide) (by decide) rfl (fun ls hl => ?_)
  refine lv_goto (tgt := 14) hx hb dX5_init_35 (by decide) ?_
  refine lv_iload_n hx hb dX5_init_14 rfl (lv_at hl 0 rfl) ?_
  refine lv_iconst (v := 5) hx hb dX5_init_15 (by decide) ?_
  refine lv_icmp_ge (tgt := 38) hx hb dX5_init_16 (by decide) (fun c0 => absurd c0 (by decide)) (fun _ => ?_)
  refine lv_aload_n hx hb dX5_init_19 rfl (lv_at hl 1 rfl) ?_
  refine va_get (D := (dC, dI)) (ci := 5) (v := .ref q1) (C := RX5) (T := TX5) (N := 3) hx hb hts gin_X5 hown hK hP 0 rfl rfl 0 (by decide) (hts _ mw_168) (fun _ h9 => h9) rfl dX5_init_20 ?_
  refine lv_iload_n hx hb dX5_init_23 rfl (lv_at hl 0 rfl) ?_
  refine va_new (ci := 2) (fs := [.null, .null, .null, .null, .int 0]) (C := RX2) (T := TX2) (N := 5) hx hb hts gin_X2 tyX2 tyX2_ok hown (hts _ mw_165) (hts _ mw_121) (hts _ mw_101) hK hP hD hS hA rfl kfs_X2 (Nat.le_of_ble_eq_true rfl) (Nat.le_of_ble_eq_true rfl) dX5_init_24 (fun q39 H hP hD hS => ?_)
  have hP : va_P (dC, dI) vwCl [(h0, .inr (5, [.ref q1, .int 0, .int 0])), (q1, .inl (c2, 5, .inr (.inr (.inr (.inr (va_up (va_up (va_up (va_up (fun _ => none) (Int32.toNatClampNeg 0) (some q3)) (Int32.toNatClampNeg 1) (some q12)) (Int32.toNatClampNeg 2) (some q21)) (Int32.toNatClampNeg 3) (some q30))))))), (q3, .inr (2, [.ref q4, .ref q5, .ref q6, .ref q7, .int 0])), (q4, .inl (c8, 32, .inl (fun _ => 0))), (q5, .inl (c9, 32, .inl (fun _ => 0))), (q6, .inl (c10, 32, .inl (fun _ => 0))), (q7, .inl (c11, 32, .inl (fun _ => 0))), (q12, .inr (2, [.ref q13, .ref q14, .ref q15, .ref q16, .int 0])), (q13, .inl (c17, 32, .inl (fun _ => 0))), (q14, .inl (c18, 32, .inl (fun _ => 0))), (q15, .inl (c19, 32, .inl (fun _ => 0))), (q16, .inl (c20, 32, .inl (fun _ => 0))), (q21, .inr (2, [.ref q22, .ref q23, .ref q24, .ref q25, .int 0])), (q22, .inl (c26, 32, .inl (fun _ => 0))), (q23, .inl (c27, 32, .inl (fun _ => 0))), (q24, .inl (c28, 32, .inl (fun _ => 0))), (q25, .inl (c29, 32, .inl (fun _ => 0))), (q30, .inr (2, [.ref q31, .ref q32, .ref q33, .ref q34, .int 0])), (q31, .inl (c35, 32, .inl (fun _ => 0))), (q32, .inl (c36, 32, .inl (fun _ => 0))), (q33, .inl (c37, 32, .inl (fun _ => 0))), (q34, .inl (c38, 32, .inl (fun _ => 0))), (q39, .inr (2, [.null, .null, .null, .null, .int 0]))] H := hP
  have hD : va_D A [(h0, .inr (5, [.ref q1, .int 0, .int 0])), (q1, .inl (c2, 5, .inr (.inr (.inr (.inr (va_up (va_up (va_up (va_up (fun _ => none) (Int32.toNatClampNeg 0) (some q3)) (Int32.toNatClampNeg 1) (some q12)) (Int32.toNatClampNeg 2) (some q21)) (Int32.toNatClampNeg 3) (some q30))))))), (q3, .inr (2, [.ref q4, .ref q5, .ref q6, .ref q7, .int 0])), (q4, .inl (c8, 32, .inl (fun _ => 0))), (q5, .inl (c9, 32, .inl (fun _ => 0))), (q6, .inl (c10, 32, .inl (fun _ => 0))), (q7, .inl (c11, 32, .inl (fun _ => 0))), (q12, .inr (2, [.ref q13, .ref q14, .ref q15, .ref q16, .int 0])), (q13, .inl (c17, 32, .inl (fun _ => 0))), (q14, .inl (c18, 32, .inl (fun _ => 0))), (q15, .inl (c19, 32, .inl (fun _ => 0))), (q16, .inl (c20, 32, .inl (fun _ => 0))), (q21, .inr (2, [.ref q22, .ref q23, .ref q24, .ref q25, .int 0])), (q22, .inl (c26, 32, .inl (fun _ => 0))), (q23, .inl (c27, 32, .inl (fun _ => 0))), (q24, .inl (c28, 32, .inl (fun _ => 0))), (q25, .inl (c29, 32, .inl (fun _ => 0))), (q30, .inr (2, [.ref q31, .ref q32, .ref q33, .ref q34, .int 0])), (q31, .inl (c35, 32, .inl (fun _ => 0))), (q32, .inl (c36, 32, .inl (fun _ => 0))), (q33, .inl (c37, 32, .inl (fun _ => 0))), (q34, .inl (c38, 32, .inl (fun _ => 0))), (q39, .inr (2, [.null, .null, .null, .null, .int 0]))] := hD
  refine W.widen (k := 22) (n := 542) (Nat.le_of_ble_eq_true rfl) (Nat.le_of_ble_eq_true rfl) ?_
  refine lv_dup hx hb dX5_init_27 rfl ?_
  have hPc := hP.sub (ws' := [(q39, .inr (2, [.null, .null, .null, .null, .int 0]))]) [22] rfl
  have hDc := hD.sub (ws' := [(q39, .inr (2, [.null, .null, .null, .null, .int 0]))]) [22] (by decide) rfl
  have hKc := hK.sub (tys' := []) [] rfl
  have hFc := va_free (wc := [(q39, .inr (2, [.null, .null, .null, .null, .int 0]))]) hD hS hA [22] rfl
  refine va_callv (va_runIN (As := []) (rest := [.ref q39, .int 4, .ref q1]) ⟨hx, hb, hml, hown, hts⟩ (k_X2_init l dC dI q39 H.size) ⟨va_cnB 0 hts (g_good mw_124) rfl rfl rfl (hN.1 _ mw_167 rfl) (hts _ mw_101) (by decide +kernel) ⟨Nat.le_of_ble_eq_true rfl, Nat.le_of_ble_eq_true rfl⟩, rfl, hts _ mw_123⟩ ⟨kPc_blind, fun U hU hW => ⟨rfl, by rw [hU], by rw [hU]; exact hPc, va_K.moved hW.alike hKc, hDc.weaken (fun _ _ _ _ => trivial), kN_moved hW hN⟩⟩ rfl rfl hl.1 rfl (lv_room (Nat.le_of_ble_eq_true rfl)) dX5_init_28 ⟨Nat.le_of_ble_eq_true rfl, Nat.le_of_ble_eq_true rfl⟩) hS (fun q _ h => hFc q h) hFc (fun u t H1 locs ht hvm hw hB hz1 hk1 hS => ?_)
  obtain ⟨q40, q41, q42, q43, c44, c45, c46, c47, hP1, hK1, hD1⟩ := hB
  rw [ht] at hP1
  have hK1 := va_K.moved hvm.symm hK1
  obtain ⟨hP, hD⟩ := va_join (wr := [(h0, .inr (5, [.ref q1, .int 0, .int 0])), (q1, .inl (c2, 5, .inr (.inr (.inr (.inr (va_up (va_up (va_up (va_up (fun _ => none) (Int32.toNatClampNeg 0) (some q3)) (Int32.toNatClampNeg 1) (some q12)) (Int32.toNatClampNeg 2) (some q21)) (Int32.toNatClampNeg 3) (some q30))))))), (q3, .inr (2, [.ref q4, .ref q5, .ref q6, .ref q7, .int 0])), (q4, .inl (c8, 32, .inl (fun _ => 0))), (q5, .inl (c9, 32, .inl (fun _ => 0))), (q6, .inl (c10, 32, .inl (fun _ => 0))), (q7, .inl (c11, 32, .inl (fun _ => 0))), (q12, .inr (2, [.ref q13, .ref q14, .ref q15, .ref q16, .int 0])), (q13, .inl (c17, 32, .inl (fun _ => 0))), (q14, .inl (c18, 32, .inl (fun _ => 0))), (q15, .inl (c19, 32, .inl (fun _ => 0))), (q16, .inl (c20, 32, .inl (fun _ => 0))), (q21, .inr (2, [.ref q22, .ref q23, .ref q24, .ref q25, .int 0])), (q22, .inl (c26, 32, .inl (fun _ => 0))), (q23, .inl (c27, 32, .inl (fun _ => 0))), (q24, .inl (c28, 32, .inl (fun _ => 0))), (q25, .inl (c29, 32, .inl (fun _ => 0))), (q30, .inr (2, [.ref q31, .ref q32, .ref q33, .ref q34, .int 0])), (q31, .inl (c35, 32, .inl (fun _ => 0))), (q32, .inl (c36, 32, .inl (fun _ => 0))), (q33, .inl (c37, 32, .inl (fun _ => 0))), (q34, .inl (c38, 32, .inl (fun _ => 0)))]) (w1 := [(q39, .inr (2, [.ref q40, .ref q41, .ref q42, .ref q43, .int 0])), (q40, .inl (c44, 32, .inl (fun _ => 0))), (q41, .inl (c45, 32, .inl (fun _ => 0))), (q42, .inl (c46, 32, .inl (fun _ => 0))), (q43, .inl (c47, 32, .inl (fun _ => 0)))]) hP hD [22] [0, 1, 2, 3, 4, 5, 6, 7, 8, 9, 10, 11, 12, 13, 14, 15, 16, 17, 18, 19, 20, 21] rfl rfl (by decide) (by decide) hk1 hFc hP1 hD1
  have hK := (hK.sub (tys' := [(c2, .object RX2), (c8, .int), (c9, .int), (c10, .int), (c11, .int), (c17, .int), (c18, .int), (c19, .int), (c20, .int), (c26, .int), (c27, .int), (c28, .int), (c29, .int), (c35, .int), (c36, .int), (c37, .int), (c38, .int)]) [0, 1, 2, 3, 4, 5, 6, 7, 8, 9, 10, 11, 12, 13, 14, 15, 16] rfl).app hK1
  generalize H1 = H at hP hS ⊢
  have hP : va_P (dC, dI) vwCl [(h0, .inr (5, [.ref q1, .int 0, .int 0])), (q1, .inl (c2, 5, .inr (.inr (.inr (.inr (va_up (va_up (va_up (va_up (fun _ => none) (Int32.toNatClampNeg 0) (some q3)) (Int32.toNatClampNeg 1) (some q12)) (Int32.toNatClampNeg 2) (some q21)) (Int32.toNatClampNeg 3) (some q30))))))), (q3, .inr (2, [.ref q4, .ref q5, .ref q6, .ref q7, .int 0])), (q4, .inl (c8, 32, .inl (fun _ => 0))), (q5, .inl (c9, 32, .inl (fun _ => 0))), (q6, .inl (c10, 32, .inl (fun _ => 0))), (q7, .inl (c11, 32, .inl (fun _ => 0))), (q12, .inr (2, [.ref q13, .ref q14, .ref q15, .ref q16, .int 0])), (q13, .inl (c17, 32, .inl (fun _ => 0))), (q14, .inl (c18, 32, .inl (fun _ => 0))), (q15, .inl (c19, 32, .inl (fun _ => 0))), (q16, .inl (c20, 32, .inl (fun _ => 0))), (q21, .inr (2, [.ref q22, .ref q23, .ref q24, .ref q25, .int 0])), (q22, .inl (c26, 32, .inl (fun _ => 0))), (q23, .inl (c27, 32, .inl (fun _ => 0))), (q24, .inl (c28, 32, .inl (fun _ => 0))), (q25, .inl (c29, 32, .inl (fun _ => 0))), (q30, .inr (2, [.ref q31, .ref q32, .ref q33, .ref q34, .int 0])), (q31, .inl (c35, 32, .inl (fun _ => 0))), (q32, .inl (c36, 32, .inl (fun _ => 0))), (q33, .inl (c37, 32, .inl (fun _ => 0))), (q34, .inl (c38, 32, .inl (fun _ => 0))), (q39, .inr (2, [.ref q40, .ref q41, .ref q42, .ref q43, .int 0])), (q40, .inl (c44, 32, .inl (fun _ => 0))), (q41, .inl (c45, 32, .inl (fun _ => 0))), (q42, .inl (c46, 32, .inl (fun _ => 0))), (q43, .inl (c47, 32, .inl (fun _ => 0)))] H := hP
  have hD : va_D A [(h0, .inr (5, [.ref q1, .int 0, .int 0])), (q1, .inl (c2, 5, .inr (.inr (.inr (.inr (va_up (va_up (va_up (va_up (fun _ => none) (Int32.toNatClampNeg 0) (some q3)) (Int32.toNatClampNeg 1) (some q12)) (Int32.toNatClampNeg 2) (some q21)) (Int32.toNatClampNeg 3) (some q30))))))), (q3, .inr (2, [.ref q4, .ref q5, .ref q6, .ref q7, .int 0])), (q4, .inl (c8, 32, .inl (fun _ => 0))), (q5, .inl (c9, 32, .inl (fun _ => 0))), (q6, .inl (c10, 32, .inl (fun _ => 0))), (q7, .inl (c11, 32, .inl (fun _ => 0))), (q12, .inr (2, [.ref q13, .ref q14, .ref q15, .ref q16, .int 0])), (q13, .inl (c17, 32, .inl (fun _ => 0))), (q14, .inl (c18, 32, .inl (fun _ => 0))), (q15, .inl (c19, 32, .inl (fun _ => 0))), (q16, .inl (c20, 32, .inl (fun _ => 0))), (q21, .inr (2, [.ref q22, .ref q23, .ref q24, .ref q25, .int 0])), (q22, .inl (c26, 32, .inl (fun _ => 0))), (q23, .inl (c27, 32, .inl (fun _ => 0))), (q24, .inl (c28, 32, .inl (fun _ => 0))), (q25, .inl (c29, 32, .inl (fun _ => 0))), (q30, .inr (2, [.ref q31, .ref q32, .ref q33, .ref q34, .int 0])), (q31, .inl (c35, 32, .inl (fun _ => 0))), (q32, .inl (c36, 32, .inl (fun _ => 0))), (q33, .inl (c37, 32, .inl (fun _ => 0))), (q34, .inl (c38, 32, .inl (fun _ => 0))), (q39, .inr (2, [.ref q40, .ref q41, .ref q42, .ref q43, .int 0])), (q40, .inl (c44, 32, .inl (fun _ => 0))), (q41, .inl (c45, 32, .inl (fun _ => 0))), (q42, .inl (c46, 32, .inl (fun _ => 0))), (q43, .inl (c47, 32, .inl (fun _ => 0)))] := hD
  have hK : va_K (dC, dI) vwCl [(c2, .object RX2), (c8, .int), (c9, .int), (c10, .int), (c11, .int), (c17, .int), (c18, .int), (c19, .int), (c20, .int), (c26, .int), (c27, .int), (c28, .int), (c29, .int), (c35, .int), (c36, .int), (c37, .int), (c38, .int), (c44, .int), (c45, .int), (c46, .int), (c47, .int)] s := hK
  refine W.widen (k := 26) (n := 670) (Nat.le_of_ble_eq_true rfl) (Nat.le_of_ble_eq_true rfl) ?_
  refine va_astq (D := (dC, dI)) (r := (RX2, TX2, 5)) hx hb hK hP hD hS 1 0 22 2 rfl rfl rfl rfl (by unfold vp_in; decide) dX5_init_31 (fun H locs hP hD hS => ?_)
  have hP : va_P (dC, dI) vwCl [(h0, .inr (5, [.ref q1, .int 0, .int 0])), (q1, .inl (c2, 5, .inr (.inr (.inr (.inr (va_up (va_up (va_up (va_up (va_up (fun _ => none) (Int32.toNatClampNeg 0) (some q3)) (Int32.toNatClampNeg 1) (some q12)) (Int32.toNatClampNeg 2) (some q21)) (Int32.toNatClampNeg 3) (some q30)) (Int32.toNatClampNeg 4) (some q39))))))), (q3, .inr (2, [.ref q4, .ref q5, .ref q6, .ref q7, .int 0])), (q4, .inl (c8, 32, .inl (fun _ => 0))), (q5, .inl (c9, 32, .inl (fun _ => 0))), (q6, .inl (c10, 32, .inl (fun _ => 0))), (q7, .inl (c11, 32, .inl (fun _ => 0))), (q12, .inr (2, [.ref q13, .ref q14, .ref q15, .ref q16, .int 0])), (q13, .inl (c17, 32, .inl (fun _ => 0))), (q14, .inl (c18, 32, .inl (fun _ => 0))), (q15, .inl (c19, 32, .inl (fun _ => 0))), (q16, .inl (c20, 32, .inl (fun _ => 0))), (q21, .inr (2, [.ref q22, .ref q23, .ref q24, .ref q25, .int 0])), (q22, .inl (c26, 32, .inl (fun _ => 0))), (q23, .inl (c27, 32, .inl (fun _ => 0))), (q24, .inl (c28, 32, .inl (fun _ => 0))), (q25, .inl (c29, 32, .inl (fun _ => 0))), (q30, .inr (2, [.ref q31, .ref q32, .ref q33, .ref q34, .int 0])), (q31, .inl (c35, 32, .inl (fun _ => 0))), (q32, .inl (c36, 32, .inl (fun _ => 0))), (q33, .inl (c37, 32, .inl (fun _ => 0))), (q34, .inl (c38, 32, .inl (fun _ => 0))), (q39, .inr (2, [.ref q40, .ref q41, .ref q42, .ref q43, .int 0])), (q40, .inl (c44, 32, .inl (fun _ => 0))), (q41, .inl (c45, 32, .inl (fun _ => 0))), (q42, .inl (c46, 32, .inl (fun _ => 0))), (q43, .inl (c47, 32, .inl (fun _ => 0)))] H := hP
  have hD : va_D A [(h0, .inr (5, [.ref q1, .int 0, .int 0])), (q1, .inl (c2, 5, .inr (.inr (.inr (.inr (va_up (va_up (va_up (va_up (va_up (fun _ => none) (Int32.toNatClampNeg 0) (some q3)) (Int32.toNatClampNeg 1) (some q12)) (Int32.toNatClampNeg 2) (some q21)) (Int32.toNatClampNeg 3) (some q30)) (Int32.toNatClampNeg 4) (some q39))))))), (q3, .inr (2, [.ref q4, .ref q5, .ref q6, .ref q7, .int 0])), (q4, .inl (c8, 32, .inl (fun _ => 0))), (q5, .inl (c9, 32, .inl (fun _ => 0))), (q6, .inl (c10, 32, .inl (fun _ => 0))), (q7, .inl (c11, 32, .inl (fun _ => 0))), (q12, .inr (2, [.ref q13, .ref q14, .ref q15, .ref q16, .int 0])), (q13, .inl (c17, 32, .inl (fun _ => 0))), (q14, .inl (c18, 32, .inl (fun _ => 0))), (q15, .inl (c19, 32, .inl (fun _ => 0))), (q16, .inl (c20, 32, .inl (fun _ => 0))), (q21, .inr (2, [.ref q22, .ref q23, .ref q24, .ref q25, .int 0])), (q22, .inl (c26, 32, .inl (fun _ => 0))), (q23, .inl (c27, 32, .inl (fun _ => 0))), (q24, .inl (c28, 32, .inl (fun _ => 0))), (q25, .inl (c29, 32, .inl (fun _ => 0))), (q30, .inr (2, [.ref q31, .ref q32, .ref q33, .ref q34, .int 0])), (q31, .inl (c35, 32, .inl (fun _ => 0))), (q32, .inl (c36, 32, .inl (fun _ => 0))), (q33, .inl (c37, 32, .inl (fun _ => 0))), (q34, .inl (c38, 32, .inl (fun _ => 0))), (q39, .inr (2, [.ref q40, .ref q41, .ref q42, .ref q43, .int 0])), (q40, .inl (c44, 32, .inl (fun _ => 0))), (q41, .inl (c45, 32, .inl (fun _ => 0))), (q42, .inl (c46, 32, .inl (fun _ => 0))), (q43, .inl (c47, 32, .inl (fun _ => 0)))] := hD
  refine lv_iinc (v := 5) (lv' := [(1, .int 5), (0, .ref h0)]) hx hb dX5_init_32 hl (k := 0) rfl (by decide) (by decide) rfl (fun ls hl => ?_)
  refine lv_goto (tgt := 14) hx hb dX5_init_35 (by decide) ?_
  refine lv_iload_n hx hb dX5_init_14 rfl (lv_at hl 0 rfl) ?_
  refine lv_iconst (v := 5) hx hb dX5_init_15 (by decide) ?_
  refine lv_icmp_ge (tgt := 38) hx hb dX5_init_16 (by decide) (fun _ => ?_) (fun c0 => absurd (by decide) c0)
  exact W.vret hx hb hr (fun t ht hW => ⟨⟨(), rfl, trivial, q1, q3, q4, q5, q6, q7, q12, q13, q14, q15, q16, q21, q22, q23, q24, q25, q30, q31, q32, q33, q34, q39, q40, q41, q42, q43, c2, c8, c9, c10, c11, c17, c18, c19, c20, c26, c27, c28, c29, c35, c36, c37, c38, c44, c45, c46, c47, by rw [ht]; exact hP, va_K.moved hW.alike hK, hD⟩, hS.F ht⟩) hS.2.2 dX5_init_38
set_option maxHeartbeats 4000000 in
set_option maxRecDepth 100000 in
theorem k_X7_init (l : Launch) (dC : Nat → ClassId) (dI : Nat → Nat → Nat) (h0 : Nat) (sz : Nat) : Met l yX7_init (Cond.code yX7_init cX7_init 3 none :: gT) ({ frames := 1, cells := 10, slots := 1727, locals := 12 }) (kPc dC dI [.ref h0] sz [(h0, .inr (7, [.null, .null, .int 0, .null, .null, .null, .int 0, .int 0, .long 0, .long 0, .null, .int 0, .null, .null, .null, .null]))]) (va_Qv (fun _ : Unit => True) (fun _ t => ∃ (q1 q3 q5 q7 q9 q11 q13 q15 q17 q19 : Nat), ∃ (c2 c4 c6 c8 c10 c12 c14 c16 c18 c20 : ClassId), va_P (dC, dI) vwCl [(h0, .inr (7, [.ref q1, .ref q3, .int 0, .ref q5, .ref q7, .ref q9, .int 0, .int 0, .long 0, .long 1, .ref q11, .int 0, .ref q13, .ref q15, .ref q17, .ref q19])), (q1, .inl (c2, 129, .inl (upd (upd (upd (upd (upd (upd (upd (upd (upd (upd (upd (upd (upd (upd (upd (upd (upd (upd (upd (upd (upd (upd (upd (upd (upd (fun _ => 0) (Int32.toNatClampNeg 0) 6) (Int32.toNatClampNeg 1) 1) (Int32.toNatClampNeg 2) 0) (Int32.toNatClampNeg 3) 0) (Int32.toNatClampNeg 4) 20) (Int32.toNatClampNeg 5) (-1)) (Int32.toNatClampNeg 6) 0) (Int32.toNatClampNeg 7) 0) (Int32.toNatClampNeg 8) 20) (Int32.toNatClampNeg 9) 0) (Int32.toNatClampNeg 10) 1) (Int32.toNatClampNeg 11) 0) (Int32.toNatClampNeg 12) 20) (Int32.toNatClampNeg 13) 0) (Int32.toNatClampNeg 14) (-1)) (Int32.toNatClampNeg 15) 0) (Int32.toNatClampNeg 16) 20) (Int32.toNatClampNeg 17) 0) (Int32.toNatClampNeg 18) 0) (Int32.toNatClampNeg 19) 1) (Int32.toNatClampNeg 20) 20) (Int32.toNatClampNeg 21) 0) (Int32.toNatClampNeg 22) 0) (Int32.toNatClampNeg 23) (-1)) (Int32.toNatClampNeg 24) 20))), (q3, .inl (c4, 645, .inl (fun _ => 0))), (q5, .inl (c6, 129, .inl (fun _ => 0))), (q7, .inl (c8, 3, .inl (fun _ => 0))), (q9, .inl (c10, 120, .inl (fun _ => 0))), (q11, .inl (c12, 320, .inl (fun _ => 0))), (q13, .inl (c14, 32, .inl (fun _ => 0))), (q15, .inl (c16, 343, .inl (fun _ => 0))), (q17, .inl (c18, 3, .inl (fun _ => 0))), (q19, .inl (c20, 3, .inl (fun _ => 0)))] t.heap ∧ va_K (dC, dI) vwCl [(c2, .int), (c4, .int), (c6, .int), (c8, .int), (c10, .int), (c12, .int), (c14, .boolean), (c16, .boolean), (c18, .int), (c20, .int)] t ∧ va_D (va_A [(h0, .inr (7, [.null, .null, .int 0, .null, .null, .null, .int 0, .int 0, .long 0, .long 0, .null, .int 0, .null, .null, .null, .null]))] sz) [(h0, .inr (7, [.ref q1, .ref q3, .int 0, .ref q5, .ref q7, .ref q9, .int 0, .int 0, .long 0, .long 1, .ref q11, .int 0, .ref q13, .ref q15, .ref q17, .ref q19])), (q1, .inl (c2, 129, .inl (upd (upd (upd (upd (upd (upd (upd (upd (upd (upd (upd (upd (upd (upd (upd (upd (upd (upd (upd (upd (upd (upd (upd (upd (upd (fun _ => 0) (Int32.toNatClampNeg 0) 6) (Int32.toNatClampNeg 1) 1) (Int32.toNatClampNeg 2) 0) (Int32.toNatClampNeg 3) 0) (Int32.toNatClampNeg 4) 20) (Int32.toNatClampNeg 5) (-1)) (Int32.toNatClampNeg 6) 0) (Int32.toNatClampNeg 7) 0) (Int32.toNatClampNeg 8) 20) (Int32.toNatClampNeg 9) 0) (Int32.toNatClampNeg 10) 1) (Int32.toNatClampNeg 11) 0) (Int32.toNatClampNeg 12) 20) (Int32.toNatClampNeg 13) 0) (Int32.toNatClampNeg 14) (-1)) (Int32.toNatClampNeg 15) 0) (Int32.toNatClampNeg 16) 20) (Int32.toNatClampNeg 17) 0) (Int32.toNatClampNeg 18) 0) (Int32.toNatClampNeg 19) 1) (Int32.toNatClampNeg 20) 20) (Int32.toNatClampNeg 21) 0) (Int32.toNatClampNeg 22) 0) (Int32.toNatClampNeg 23) (-1)) (Int32.toNatClampNeg 24) 20))), (q3, .inl (c4, 645, .inl (fun _ => 0))), (q5, .inl (c6, 129, .inl (fun _ => 0))), (q7, .inl (c8, 3, .inl (fun _ => 0))), (q9, .inl (c10, 120, .inl (fun _ => 0))), (q11, .inl (c12, 320, .inl (fun _ => 0))), (q13, .inl (c14, 32, .inl (fun _ => 0))), (q15, .inl (c16, 343, .inl (fun _ => 0))), (q17, .inl (c18, 3, .inl (fun _ => 0))), (q19, .inl (c20, 3, .inl (fun _ => 0)))]) (va_A [(h0, .inr (7, [.null, .null, .int 0, .null, .null, .null, .int 0, .int 0, .long 0, .long 0, .null, .int 0, .null, .null, .null, .null]))] sz)) 10 1727 (va_A [(h0, .inr (7, [.null, .null, .int 0, .null, .null, .null, .int 0, .int 0, .long 0, .long 0, .null, .int 0, .null, .null, .null, .null]))] sz) := by
  refine Met.ofW (cc := cX7_init) (maxL := 3) (ret := none) (by decide +kernel) rfl ?_
  intro p e s m args below meth c s₁ B hml hv
  obtain ⟨rfl, hsz, hP, hK, hD0, hN⟩ := hv
  have hx := B.exec
  have hb := B.bytes
  have hr := B.returns
  have hts0 := atoms_spec (ws := Cond.code yX7_init cX7_init 3 none :: gT) B.pre
  have hts : ∀ w ∈ gT, w.before _ s = true := fun w hw => hts0 w (List.mem_cons_of_mem _ hw)
  have hown : s.vm.findClass RX7 = some m.cls := findClass_of_methodNamed B.named
  have hlocks := B.notSynchronized
  have hin : meth.name = "<init>" := (name_of_methodNamed B.named B.method).1
  subst hsz
  have hD := hD0.self (sz := s.heap.size)
  generalize hAe : va_A [(h0, .inr (7, [.null, .null, .int 0, .null, .null, .null, .int 0, .int 0, .long 0, .long 0, .null, .int 0, .null, .null, .null, .null]))] s.heap.size = A at hD ⊢
  have hA : ∀ q : Nat, s.heap.size ≤ q → A q := fun q h => by rw [← hAe]; exact Or.inr h
  have hS : va_S A s.heap s.heap [] := va_S.rf
  have hP : va_P (dC, dI) vwCl [(h0, .inr (7, [.null, .null, .int 0, .null, .null, .null, .int 0, .int 0, .long 0, .long 0, .null, .int 0, .null, .null, .null, .null]))] s.heap := hP
  have hl := lv_entry ([.ref h0]) (n := 3) (Nat.le_of_ble_eq_true rfl)
  rw [lg_entry_eq]
  generalize (lg_sl ([.ref h0]) ++ List.replicate (3 - (lg_sl ([.ref h0])).length) Slot.unset).toArray = ls at hl ⊢
  have hl : lv_has ls 3 [(0, .ref h0)] := hl
  refine lv_aload_n hx hb dX7_init_0 rfl (lv_at hl 0 rfl) ?_
  refine W.objInit hx hb hown (hts _ mw_793) (hts _ mw_118) (hts _ mw_119) rfl (by rw [hml]; exact hl.1) rfl dX7_init_1 (Nat.le_of_ble_eq_true rfl) (Nat.le_of_ble_eq_true rfl) ?_
  refine W.eq (g2 := F0 m 4 ls []) rfl ?_
  refine lv_aload_n hx hb dX7_init_4 rfl (lv_at hl 0 rfl) ?_
  refine lv_sipush (v := 129) hx hb dX7_init_5 (by decide) ?_
  refine va_newa (atype := .int) (a0 := (129, .inl (fun _ => 0))) hx hb (hts _ mw_158) (ty := .int) rfl hK hP hD hS hA (fun _ => rfl) (by decide) (by decide) (Nat.le_of_ble_eq_true rfl) (Nat.le_of_ble_eq_true rfl) (Nat.le_of_ble_eq_true rfl) dX7_init_8 (fun q1 c2 H hK hP hD hS => ?_)
  have hP : va_P (dC, dI) vwCl [(h0, .inr (7, [.null, .null, .int 0, .null, .null, .null, .int 0, .int 0, .long 0, .long 0, .null, .int 0, .null, .null, .null, .null])), (q1, .inl (c2, 129, .inl (fun _ => 0)))] H := hP
  have hD : va_D A [(h0, .inr (7, [.null, .null, .int 0, .null, .null, .null, .int 0, .int 0, .long 0, .long 0, .null, .int 0, .null, .null, .null, .null])), (q1, .inl (c2, 129, .inl (fun _ => 0)))] := hD
  have hK : va_K (dC, dI) vwCl [(c2, .int)] s := hK
  refine W.widen (k := 1) (n := 129) (Nat.le_of_ble_eq_true rfl) (Nat.le_of_ble_eq_true rfl) ?_
  refine va_putF (D := (dC, dI)) (ci := 7) (v := .ref q1) (ty := .array .int) (C := RX7) (T := TX7) (N := 16) hx hb hts gin_X7 tyX7 tyX7_ok nmX7 hown hK hP hD hS 0 rfl rfl 0 (by decide) (hts _ mw_794) (fun _ h9 => h9) rfl hin rfl (by decide +kernel) rfl rfl (Nat.le_of_ble_eq_true rfl) dX7_init_10 (fun H locs hP hD hS => ?_)
  have hP : va_P (dC, dI) vwCl [(h0, .inr (7, [.ref q1, .null, .int 0, .null, .null, .null, .int 0, .int 0, .long 0, .long 0, .null, .int 0, .null, .null, .null, .null])), (q1, .inl (c2, 129, .inl (fun _ => 0)))] H := hP
  have hD : va_D A [(h0, .inr (7, [.ref q1, .null, .int 0, .null, .null, .null, .int 0, .int 0, .long 0, .long 0, .null, .int 0, .null, .null, .null, .null])), (q1, .inl (c2, 129, .inl (fun _ => 0)))] := hD
  refine lv_aload_n hx hb dX7_init_13 rfl (lv_at hl 0 rfl) ?_
  refine lv_sipush (v := 645) hx hb dX7_init_14 (by decide) ?_
  refine va_newa (atype := .int) (a0 := (645, .inl (fun _ => 0))) hx hb (hts _ mw_158) (ty := .int) rfl hK hP hD hS hA (fun _ => rfl) (by decide) (by decide) (Nat.le_of_ble_eq_true rfl) (Nat.le_of_ble_eq_true rfl) (Nat.le_of_ble_eq_true rfl) dX7_init_17 (fun q3 c4 H hK hP hD hS => ?_)
  have hP : va_P (dC, dI) vwCl [(h0, .inr (7, [.ref q1, .null, .int 0, .null, .null, .null, .int 0, .int 0, .long 0, .long 0, .null, .int 0, .null, .null, .null, .null])), (q1, .inl (c2, 129, .inl (fun _ => 0))), (q3, .inl (c4, 645, .inl (fun _ => 0)))] H := hP
  have hD : va_D A [(h0, .inr (7, [.ref q1, .null, .int 0, .null, .null, .null, .int 0, .int 0, .long 0, .long 0, .null, .int 0, .null, .null, .null, .null])), (q1, .inl (c2, 129, .inl (fun _ => 0))), (q3, .inl (c4, 645, .inl (fun _ => 0)))] := hD
  have hK : va_K (dC, dI) vwCl [(c2, .int), (c4, .int)] s := hK
  refine W.widen (k := 2) (n := 774) (Nat.le_of_ble_eq_true rfl) (Nat.le_of_ble_eq_true rfl) ?_
  refine va_putF (D := (dC, dI)) (ci := 7) (v := .ref q3) (ty := .array .int) (C := RX7) (T := TX7) (N := 16) hx hb hts gin_X7 tyX7 tyX7_ok nmX7 hown hK hP hD hS 0 rfl rfl 1 (by decide) (hts _ mw_795) (fun _ h9 => h9) rfl hin rfl (by decide +kernel) rfl rfl (Nat.le_of_ble_eq_true rfl) dX7_init_19 (fun H locs hP hD hS => ?_)
  have hP : va_P (dC, dI) vwCl [(h0, .inr (7, [.ref q1, .ref q3, .int 0, .null, .null, .null, .int 0, .int 0, .long 0, .long 0, .null, .int 0, .null, .null, .null, .null])), (q1, .inl (c2, 129, .inl (fun _ => 0))), (q3, .inl (c4, 645, .inl (fun _ => 0)))] H := hP
  have hD : va_D A [(h0, .inr (7, [.ref q1, .ref q3, .int 0, .null, .null, .null, .int 0, .int 0, .long 0, .long 0, .null, .int 0, .null, .null, .null, .null])), (q1, .inl (c2, 129, .inl (fun _ => 0))), (q3, .inl (c4, 645, .inl (fun _ => 0)))] := hD
  refine lv_aload_n hx hb dX7_init_22 rfl (lv_at hl 0 rfl) ?_
  refine lv_sipush (v := 129) hx hb dX7_init_23 (by decide) ?_
  refine va_newa (atype := .int) (a0 := (129, .inl (fun _ => 0))) hx hb (hts _ mw_158) (ty := .int) rfl hK hP hD hS hA (fun _ => rfl) (by decide) (by decide) (Nat.le_of_ble_eq_true rfl) (Nat.le_of_ble_eq_true rfl) (Nat.le_of_ble_eq_true rfl) dX7_init_26 (fun q5 c6 H hK hP hD hS => ?_)
  have hP : va_P (dC, dI) vwCl [(h0, .inr (7, [.ref q1, .ref q3, .int 0, .null, .null, .null, .int 0, .int 0, .long 0, .long 0, .null, .int 0, .null, .null, .null, .null])), (q1, .inl (c2, 129, .inl (fun _ => 0))), (q3, .inl (c4, 645, .inl (fun _ => 0))), (q5, .inl (c6, 129, .inl (fun _ => 0)))] H := hP
  have hD : va_D A [(h0, .inr (7, [.ref q1, .ref q3, .int 0, .null, .null, .null, .int 0, .int 0, .long 0, .long 0, .null, .int 0, .null, .null, .null, .null])), (q1, .inl (c2, 129, .inl (fun _ => 0))), (q3, .inl (c4, 645, .inl (fun _ => 0))), (q5, .inl (c6, 129, .inl (fun _ => 0)))] := hD
  have hK : va_K (dC, dI) vwCl [(c2, .int), (c4, .int), (c6, .int)] s := hK
  refine W.widen (k := 3) (n := 903) (Nat.le_of_ble_eq_true rfl) (Nat.le_of_ble_eq_true rfl) ?_
  refine va_putF (D := (dC, dI)) (ci := 7) (v := .ref q5) (ty := .array .int) (C := RX7) (T := TX7) (N := 16) hx hb hts gin_X7 tyX7 tyX7_ok nmX7 hown hK hP hD hS 0 rfl rfl 3 (by decide) (hts _ mw_797) (fun _ h9 => h9) rfl hin rfl (by decide +kernel) rfl rfl (Nat.le_of_ble_eq_true rfl) dX7_init_28 (fun H locs hP hD hS => ?_)
  have hP : va_P (dC, dI) vwCl [(h0, .inr (7, [.ref q1, .ref q3, .int 0, .ref q5, .null, .null, .int 0, .int 0, .long 0, .long 0, .null, .int 0, .null, .null, .null, .null])), (q1, .inl (c2, 129, .inl (fun _ => 0))), (q3, .inl (c4, 645, .inl (fun _ => 0))), (q5, .inl (c6, 129, .inl (fun _ => 0)))] H := hP
  have hD : va_D A [(h0, .inr (7, [.ref q1, .ref q3, .int 0, .ref q5, .null, .null, .int 0, .int 0, .long 0, .long 0, .null, .int 0, .null, .null, .null, .null])), (q1, .inl (c2, 129, .inl (fun _ => 0))), (q3, .inl (c4, 645, .inl (fun _ => 0))), (q5, .inl (c6, 129, .inl (fun _ => 0)))] := hD
  refine lv_aload_n hx hb dX7_init_31 rfl (lv_at hl 0 rfl) ?_
  refine lv_iconst (v := 3) hx hb dX7_init_32 (by decide) ?_
  refine va_newa (atype := .int) (a0 := (3, .inl (fun _ => 0))) hx hb (hts _ mw_158) (ty := .int) rfl hK hP hD hS hA (fun _ => rfl) (by decide) (by decide) (Nat.le_of_ble_eq_true rfl) (Nat.le_of_ble_eq_true rfl) (Nat.le_of_ble_eq_true rfl) dX7_init_33 (fun q7 c8 H hK hP hD hS => ?_)
  have hP : va_P (dC, dI) vwCl [(h0, .inr (7, [.ref q1, .ref q3, .int 0, .ref q5, .null, .null, .int 0, .int 0, .long 0, .long 0, .null, .int 0, .null, .null, .null, .null])), (q1, .inl (c2, 129, .inl (fun _ => 0))), (q3, .inl (c4, 645, .inl (fun _ => 0))), (q5, .inl (c6, 129, .inl (fun _ => 0))), (q7, .inl (c8, 3, .inl (fun _ => 0)))] H := hP
  have hD : va_D A [(h0, .inr (7, [.ref q1, .ref q3, .int 0, .ref q5, .null, .null, .int 0, .int 0, .long 0, .long 0, .null, .int 0, .null, .null, .null, .null])), (q1, .inl (c2, 129, .inl (fun _ => 0))), (q3, .inl (c4, 645, .inl (fun _ => 0))), (q5, .inl (c6, 129, .inl (fun _ => 0))), (q7, .inl (c8, 3, .inl (fun _ => 0)))] := hD
  have hK : va_K (dC, dI) vwCl [(c2, .int), (c4, .int), (c6, .int), (c8, .int)] s := hK
  refine W.widen (k := 4) (n := 906) (Nat.le_of_ble_eq_true rfl) (Nat.le_of_ble_eq_true rfl) ?_
  refine va_putF (D := (dC, dI)) (ci := 7) (v := .ref q7) (ty := .array .int) (C := RX7) (T := TX7) (N := 16) hx hb hts gin_X7 tyX7 tyX7_ok nmX7 hown hK hP hD hS 0 rfl rfl 4 (by decide) (hts _ mw_798) (fun _ h9 => h9) rfl hin rfl (by decide +kernel) rfl rfl (Nat.le_of_ble_eq_true rfl) dX7_init_35 (fun H locs hP hD hS => ?_)
  have hP : va_P (dC, dI) vwCl [(h0, .inr (7, [.ref q1, .ref q3, .int 0, .ref q5, .ref q7, .null, .int 0, .int 0, .long 0, .long 0, .null, .int 0, .null, .null, .null, .null])), (q1, .inl (c2, 129, .inl (fun _ => 0))), (q3, .inl (c4, 645, .inl (fun _ => 0))), (q5, .inl (c6, 129, .inl (fun _ => 0))), (q7, .inl (c8, 3, .inl (fun _ => 0)))] H := hP
  have hD : va_D A [(h0, .inr (7, [.ref q1, .ref q3, .int 0, .ref q5, .ref q7, .null, .int 0, .int 0, .long 0, .long 0, .null, .int 0, .null, .null, .null, .null])), (q1, .inl (c2, 129, .inl (fun _ => 0))), (q3, .inl (c4, 645, .inl (fun _ => 0))), (q5, .inl (c6, 129, .inl (fun _ => 0))), (q7, .inl (c8, 3, .inl (fun _ => 0)))] := hD
  refine lv_aload_n hx hb dX7_init_38 rfl (lv_at hl 0 rfl) ?_
  refine lv_bipush (v := 120) hx hb dX7_init_39 (by decide) ?_
  refine va_newa (atype := .int) (a0 := (120, .inl (fun _ => 0))) hx hb (hts _ mw_158) (ty := .int) rfl hK hP hD hS hA (fun _ => rfl) (by decide) (by decide) (Nat.le_of_ble_eq_true rfl) (Nat.le_of_ble_eq_true rfl) (Nat.le_of_ble_eq_true rfl) dX7_init_41 (fun q9 c10 H hK hP hD hS => ?_)
  have hP : va_P (dC, dI) vwCl [(h0, .inr (7, [.ref q1, .ref q3, .int 0, .ref q5, .ref q7, .null, .int 0, .int 0, .long 0, .long 0, .null, .int 0, .null, .null, .null, .null])), (q1, .inl (c2, 129, .inl (fun _ => 0))), (q3, .inl (c4, 645, .inl (fun _ => 0))), (q5, .inl (c6, 129, .inl (fun _ => 0))), (q7, .inl (c8, 3, .inl (fun _ => 0))), (q9, .inl (c10, 120, .inl (fun _ => 0)))] H := hP
  have hD : va_D A [(h0, .inr (7, [.ref q1, .ref q3, .int 0, .ref q5, .ref q7, .null, .int 0, .int 0, .long 0, .long 0, .null, .int 0, .null, .null, .null, .null])), (q1, .inl (c2, 129, .inl (fun _ => 0))), (q3, .inl (c4, 645, .inl (fun _ => 0))), (q5, .inl (c6, 129, .inl (fun _ => 0))), (q7, .inl (c8, 3, .inl (fun _ => 0))), (q9, .inl (c10, 120, .inl (fun _ => 0)))] := hD
  have hK : va_K (dC, dI) vwCl [(c2, .int), (c4, .int), (c6, .int), (c8, .int), (c10, .int)] s := hK
  refine W.widen (k := 5) (n := 1026) (Nat.le_of_ble_eq_true rfl) (Nat.le_of_ble_eq_true rfl) ?_
  refine va_putF (D := (dC, dI)) (ci := 7) (v := .ref q9) (ty := .array .int) (C := RX7) (T := TX7) (N := 16) hx hb hts gin_X7 tyX7 tyX7_ok nmX7 hown hK hP hD hS 0 rfl rfl 5 (by decide) (hts _ mw_799) (fun _ h9 => h9) rfl hin rfl (by decide +kernel) rfl rfl (Nat.le_of_ble_eq_true rfl) dX7_init_43 (fun H locs hP hD hS => ?_)
  have hP : va_P (dC, dI) vwCl [(h0, .inr (7, [.ref q1, .ref q3, .int 0, .ref q5, .ref q7, .ref q9, .int 0, .int 0, .long 0, .long 0, .null, .int 0, .null, .null, .null, .null])), (q1, .inl (c2, 129, .inl (fun _ => 0))), (q3, .inl (c4, 645, .inl (fun _ => 0))), (q5, .inl (c6, 129, .inl (fun _ => 0))), (q7, .inl (c8, 3, .inl (fun _ => 0))), (q9, .inl (c10, 120, .inl (fun _ => 0)))] H := hP
  have hD : va_D A [(h0, .inr (7, [.ref q1, .ref q3, .int 0, .ref q5, .ref q7, .ref q9, .int 0, .int 0, .long 0, .long 0, .null, .int 0, .null, .null, .null, .null])), (q1, .inl (c2, 129, .inl (fun _ => 0))), (q3, .inl (c4, 645, .inl (fun _ => 0))), (q5, .inl (c6, 129, .inl (fun _ => 0))), (q7, .inl (c8, 3, .inl (fun _ => 0))), (q9, .inl (c10, 120, .inl (fun _ => 0)))] := hD
  refine lv_aload_n hx hb dX7_init_46 rfl (lv_at hl 0 rfl) ?_
  refine lv_lconst (v := 1) hx hb dX7_init_47 (by decide) ?_
  refine va_put (D := (dC, dI)) (ci := 7) (v := .long 1) (ty := .long) (C := RX7) (T := TX7) (N := 16) hx hb hts gin_X7 tyX7 tyX7_ok nmX7 hown hK hP hD hS 0 rfl rfl 9 (by decide) (hts _ mw_803) (fun _ h9 => h9) rfl (by decide +kernel) rfl rfl (Nat.le_of_ble_eq_true rfl) dX7_init_48 (fun H locs hP hD hS => ?_)
  have hP : va_P (dC, dI) vwCl [(h0, .inr (7, [.ref q1, .ref q3, .int 0, .ref q5, .ref q7, .ref q9, .int 0, .int 0, .long 0, .long 1, .null, .int 0, .null, .null, .null, .null])), (q1, .inl (c2, 129, .inl (fun _ => 0))), (q3, .inl (c4, 645, .inl (fun _ => 0))), (q5, .inl (c6, 129, .inl (fun _ => 0))), (q7, .inl (c8, 3, .inl (fun _ => 0))), (q9, .inl (c10, 120, .inl (fun _ => 0)))] H := hP
  have hD : va_D A [(h0, .inr (7, [.ref q1, .ref q3, .int 0, .ref q5, .ref q7, .ref q9, .int 0, .int 0, .long 0, .long 1, .null, .int 0, .null, .null, .null, .null])), (q1, .inl (c2, 129, .inl (fun _ => 0))), (q3, .inl (c4, 645, .inl (fun _ => 0))), (q5, .inl (c6, 129, .inl (fun _ => 0))), (q7, .inl (c8, 3, .inl (fun _ => 0))), (q9, .inl (c10, 120, .inl (fun _ => 0)))] := hD
  refine lv_aload_n hx hb dX7_init_51 rfl (lv_at hl 0 rfl) ?_
  refine lv_sipush (v := 320) hx hb dX7_init_52 (by decide) ?_
  refine va_newa (atype := .int) (a0 := (320, .inl (fun _ => 0))) hx hb (hts _ mw_158) (ty := .int) rfl hK hP hD hS hA (fun _ => rfl) (by decide) (by decide) (Nat.le_of_ble_eq_true rfl) (Nat.le_of_ble_eq_true rfl) (Nat.le_of_ble_eq_true rfl) dX7_init_55 (fun q11 c12 H hK hP hD hS => ?_)
  have hP : va_P (dC, dI) vwCl [(h0, .inr (7, [.ref q1, .ref q3, .int 0, .ref q5, .ref q7, .ref q9, .int 0, .int 0, .long 0, .long 1, .null, .int 0, .null, .null, .null, .null])), (q1, .inl (c2, 129, .inl (fun _ => 0))), (q3, .inl (c4, 645, .inl (fun _ => 0))), (q5, .inl (c6, 129, .inl (fun _ => 0))), (q7, .inl (c8, 3, .inl (fun _ => 0))), (q9, .inl (c10, 120, .inl (fun _ => 0))), (q11, .inl (c12, 320, .inl (fun _ => 0)))] H := hP
  have hD : va_D A [(h0, .inr (7, [.ref q1, .ref q3, .int 0, .ref q5, .ref q7, .ref q9, .int 0, .int 0, .long 0, .long 1, .null, .int 0, .null, .null, .null, .null])), (q1, .inl (c2, 129, .inl (fun _ => 0))), (q3, .inl (c4, 645, .inl (fun _ => 0))), (q5, .inl (c6, 129, .inl (fun _ => 0))), (q7, .inl (c8, 3, .inl (fun _ => 0))), (q9, .inl (c10, 120, .inl (fun _ => 0))), (q11, .inl (c12, 320, .inl (fun _ => 0)))] := hD
  have hK : va_K (dC, dI) vwCl [(c2, .int), (c4, .int), (c6, .int), (c8, .int), (c10, .int), (c12, .int)] s := hK
  refine W.widen (k := 6) (n := 1346) (Nat.le_of_ble_eq_true rfl) (Nat.le_of_ble_eq_true rfl) ?_
  refine va_putF (D := (dC, dI)) (ci := 7) (v := .ref q11) (ty := .array .int) (C := RX7) (T := TX7) (N := 16) hx hb hts gin_X7 tyX7 tyX7_ok nmX7 hown hK hP hD hS 0 rfl rfl 10 (by decide) (hts _ mw_804) (fun _ h9 => h9) rfl hin rfl (by decide +kernel) rfl rfl (Nat.le_of_ble_eq_true rfl) dX7_init_57 (fun H locs hP hD hS => ?_)
  have hP : va_P (dC, dI) vwCl [(h0, .inr (7, [.ref q1, .ref q3, .int 0, .ref q5, .ref q7, .ref q9, .int 0, .int 0, .long 0, .long 1, .ref q11, .int 0, .null, .null, .null, .null])), (q1, .inl (c2, 129, .inl (fun _ => 0))), (q3, .inl (c4, 645, .inl (fun _ => 0))), (q5, .inl (c6, 129, .inl (fun _ => 0))), (q7, .inl (c8, 3, .inl (fun _ => 0))), (q9, .inl (c10, 120, .inl (fun _ => 0))), (q11, .inl (c12, 320, .inl (fun _ => 0)))] H := hP
  have hD : va_D A [(h0, .inr (7, [.ref q1, .ref q3, .int 0, .ref q5, .ref q7, .ref q9, .int 0, .int 0, .long 0, .long 1, .ref q11, .int 0, .null, .null, .null, .null])), (q1, .inl (c2, 129, .inl (fun _ => 0))), (q3, .inl (c4, 645, .inl (fun _ => 0))), (q5, .inl (c6, 129, .inl (fun _ => 0))), (q7, .inl (c8, 3, .inl (fun _ => 0))), (q9, .inl (c10, 120, .inl (fun _ => 0))), (q11, .inl (c12, 320, .inl (fun _ => 0)))] := hD
  refine lv_aload_n hx hb dX7_init_60 rfl (lv_at hl 0 rfl) ?_
  refine lv_bipush (v := 32) hx hb dX7_init_61 (by decide) ?_
  refine va_newa (atype := .boolean) (a0 := (32, .inl (fun _ => 0))) hx hb (hts _ mw_843) (ty := .boolean) rfl hK hP hD hS hA (fun _ => rfl) (by decide) (by decide) (Nat.le_of_ble_eq_true rfl) (Nat.le_of_ble_eq_true rfl) (Nat.le_of_ble_eq_true rfl) dX7_init_63 (fun q13 c14 H hK hP hD hS => ?_)
  have hP : va_P (dC, dI) vwCl [(h0, .inr (7, [.ref q1, .ref q3, .int 0, .ref q5, .ref q7, .ref q9, .int 0, .int 0, .long 0, .long 1, .ref q11, .int 0, .null, .null, .null, .null])), (q1, .inl (c2, 129, .inl (fun _ => 0))), (q3, .inl (c4, 645, .inl (fun _ => 0))), (q5, .inl (c6, 129, .inl (fun _ => 0))), (q7, .inl (c8, 3, .inl (fun _ => 0))), (q9, .inl (c10, 120, .inl (fun _ => 0))), (q11, .inl (c12, 320, .inl (fun _ => 0))), (q13, .inl (c14, 32, .inl (fun _ => 0)))] H := hP
  have hD : va_D A [(h0, .inr (7, [.ref q1, .ref q3, .int 0, .ref q5, .ref q7, .ref q9, .int 0, .int 0, .long 0, .long 1, .ref q11, .int 0, .null, .null, .null, .null])), (q1, .inl (c2, 129, .inl (fun _ => 0))), (q3, .inl (c4, 645, .inl (fun _ => 0))), (q5, .inl (c6, 129, .inl (fun _ => 0))), (q7, .inl (c8, 3, .inl (fun _ => 0))), (q9, .inl (c10, 120, .inl (fun _ => 0))), (q11, .inl (c12, 320, .inl (fun _ => 0))), (q13, .inl (c14, 32, .inl (fun _ => 0)))] := hD
  have hK : va_K (dC, dI) vwCl [(c2, .int), (c4, .int), (c6, .int), (c8, .int), (c10, .int), (c12, .int), (c14, .boolean)] s := hK
  refine W.widen (k := 7) (n := 1378) (Nat.le_of_ble_eq_true rfl) (Nat.le_of_ble_eq_true rfl) ?_
  refine va_putF (D := (dC, dI)) (ci := 7) (v := .ref q13) (ty := .array .boolean) (C := RX7) (T := TX7) (N := 16) hx hb hts gin_X7 tyX7 tyX7_ok nmX7 hown hK hP hD hS 0 rfl rfl 12 (by decide) (hts _ mw_806) (fun _ h9 => h9) rfl hin rfl (by decide +kernel) rfl rfl (Nat.le_of_ble_eq_true rfl) dX7_init_65 (fun H locs hP hD hS => ?_)
  have hP : va_P (dC, dI) vwCl [(h0, .inr (7, [.ref q1, .ref q3, .int 0, .ref q5, .ref q7, .ref q9, .int 0, .int 0, .long 0, .long 1, .ref q11, .int 0, .ref q13, .null, .null, .null])), (q1, .inl (c2, 129, .inl (fun _ => 0))), (q3, .inl (c4, 645, .inl (fun _ => 0))), (q5, .inl (c6, 129, .inl (fun _ => 0))), (q7, .inl (c8, 3, .inl (fun _ => 0))), (q9, .inl (c10, 120, .inl (fun _ => 0))), (q11, .inl (c12, 320, .inl (fun _ => 0))), (q13, .inl (c14, 32, .inl (fun _ => 0)))] H := hP
  have hD : va_D A [(h0, .inr (7, [.ref q1, .ref q3, .int 0, .ref q5, .ref q7, .ref q9, .int 0, .int 0, .long 0, .long 1, .ref q11, .int 0, .ref q13, .null, .null, .null])), (q1, .inl (c2, 129, .inl (fun _ => 0))), (q3, .inl (c4, 645, .inl (fun _ => 0))), (q5, .inl (c6, 129, .inl (fun _ => 0))), (q7, .inl (c8, 3, .inl (fun _ => 0))), (q9, .inl (c10, 120, .inl (fun _ => 0))), (q11, .inl (c12, 320, .inl (fun _ => 0))), (q13, .inl (c14, 32, .inl (fun _ => 0)))] := hD
  refine lv_aload_n hx hb dX7_init_68 rfl (lv_at hl 0 rfl) ?_
  refine lv_sipush (v := 343) hx hb dX7_init_69 (by decide) ?_
  refine va_newa (atype := .boolean) (a0 := (343, .inl (fun _ => 0))) hx hb (hts _ mw_843) (ty := .boolean) rfl hK hP hD hS hA (fun _ => rfl) (by decide) (by decide) (Nat.le_of_ble_eq_true rfl) (Nat.le_of_ble_eq_true rfl) (Nat.le_of_ble_eq_true rfl) dX7_init_72 (fun q15 c16 H hK hP hD hS => ?_)
  have hP : va_P (dC, dI) vwCl [(h0, .inr (7, [.ref q1, .ref q3, .int 0, .ref q5, .ref q7, .ref q9, .int 0, .int 0, .long 0, .long 1, .ref q11, .int 0, .ref q13, .null, .null, .null])), (q1, .inl (c2, 129, .inl (fun _ => 0))), (q3, .inl (c4, 645, .inl (fun _ => 0))), (q5, .inl (c6, 129, .inl (fun _ => 0))), (q7, .inl (c8, 3, .inl (fun _ => 0))), (q9, .inl (c10, 120, .inl (fun _ => 0))), (q11, .inl (c12, 320, .inl (fun _ => 0))), (q13, .inl (c14, 32, .inl (fun _ => 0))), (q15, .inl (c16, 343, .inl (fun _ => 0)))] H := hP
  have hD : va_D A [(h0, .inr (7, [.ref q1, .ref q3, .int 0, .ref q5, .ref q7, .ref q9, .int 0, .int 0, .long 0, .long 1, .ref q11, .int 0, .ref q13, .null, .null, .null])), (q1, .inl (c2, 129, .inl (fun _ => 0))), (q3, .inl (c4, 645, .inl (fun _ => 0))), (q5, .inl (c6, 129, .inl (fun _ => 0))), (q7, .inl (c8, 3, .inl (fun _ => 0))), (q9, .inl (c10, 120, .inl (fun _ => 0))), (q11, .inl (c12, 320, .inl (fun _ => 0))), (q13, .inl (c14, 32, .inl (fun _ => 0))), (q15, .inl (c16, 343, .inl (fun _ => 0)))] := hD
  have hK : va_K (dC, dI) vwCl [(c2, .int), (c4, .int), (c6, .int), (c8, .int), (c10, .int), (c12, .int), (c14, .boolean), (c16, .boolean)] s := hK
  refine W.widen (k := 8) (n := 1721) (Nat.le_of_ble_eq_true rfl) (Nat.le_of_ble_eq_true rfl) ?_
  refine va_putF (D := (dC, dI)) (ci := 7) (v := .ref q15) (ty := .array .boolean) (C := RX7) (T := TX7) (N := 16) hx hb hts gin_X7 tyX7 tyX7_ok nmX7 hown hK hP hD hS 0 rfl rfl 13 (by decide) (hts _ mw_807) (fun _ h9 => h9) rfl hin rfl (by decide +kernel) rfl rfl (Nat.le_of_ble_eq_true rfl) dX7_init_74 (fun H locs hP hD hS => ?_)
  have hP : va_P (dC, dI) vwCl [(h0, .inr (7, [.ref q1, .ref q3, .int 0, .ref q5, .ref q7, .ref q9, .int 0, .int 0, .long 0, .long 1, .ref q11, .int 0, .ref q13, .ref q15, .null, .null])), (q1, .inl (c2, 129, .inl (fun _ => 0))), (q3, .inl (c4, 645, .inl (fun _ => 0))), (q5, .inl (c6, 129, .inl (fun _ => 0))), (q7, .inl (c8, 3, .inl (fun _ => 0))), (q9, .inl (c10, 120, .inl (fun _ => 0))), (q11, .inl (c12, 320, .inl (fun _ => 0))), (q13, .inl (c14, 32, .inl (fun _ => 0))), (q15, .inl (c16, 343, .inl (fun _ => 0)))] H := hP
  have hD : va_D A [(h0, .inr (7, [.ref q1, .ref q3, .int 0, .ref q5, .ref q7, .ref q9, .int 0, .int 0, .long 0, .long 1, .ref q11, .int 0, .ref q13, .ref q15, .null, .null])), (q1, .inl (c2, 129, .inl (fun _ => 0))), (q3, .inl (c4, 645, .inl (fun _ => 0))), (q5, .inl (c6, 129, .inl (fun _ => 0))), (q7, .inl (c8, 3, .inl (fun _ => 0))), (q9, .inl (c10, 120, .inl (fun _ => 0))), (q11, .inl (c12, 320, .inl (fun _ => 0))), (q13, .inl (c14, 32, .inl (fun _ => 0))), (q15, .inl (c16, 343, .inl (fun _ => 0)))] := hD
  refine lv_aload_n hx hb dX7_init_77 rfl (lv_at hl 0 rfl) ?_
  refine lv_iconst (v := 3) hx hb dX7_init_78 (by decide) ?_
  refine va_newa (atype := .int) (a0 := (3, .inl (fun _ => 0))) hx hb (hts _ mw_158) (ty := .int) rfl hK hP hD hS hA (fun _ => rfl) (by decide) (by decide) (Nat.le_of_ble_eq_true rfl) (Nat.le_of_ble_eq_true rfl) (Nat.le_of_ble_eq_true rfl) dX7_init_79 (fun q17 c18 H hK hP hD hS => ?_)
  have hP : va_P (dC, dI) vwCl [(h0, .inr (7, [.ref q1, .ref q3, .int 0, .ref q5, .ref q7, .ref q9, .int 0, .int 0, .long 0, .long 1, .ref q11, .int 0, .ref q13, .ref q15, .null, .null])), (q1, .inl (c2, 129, .inl (fun _ => 0))), (q3, .inl (c4, 645, .inl (fun _ => 0))), (q5, .inl (c6, 129, .inl (fun _ => 0))), (q7, .inl (c8, 3, .inl (fun _ => 0))), (q9, .inl (c10, 120, .inl (fun _ => 0))), (q11, .inl (c12, 320, .inl (fun _ => 0))), (q13, .inl (c14, 32, .inl (fun _ => 0))), (q15, .inl (c16, 343, .inl (fun _ => 0))), (q17, .inl (c18, 3, .inl (fun _ => 0)))] H := hP
  have hD : va_D A [(h0, .inr (7, [.ref q1, .ref q3, .int 0, .ref q5, .ref q7, .ref q9, .int 0, .int 0, .long 0, .long 1, .ref q11, .int 0, .ref q13, .ref q15, .null, .null])), (q1, .inl (c2, 129, .inl (fun _ => 0))), (q3, .inl (c4, 645, .inl (fun _ => 0))), (q5, .inl (c6, 129, .inl (fun _ => 0))), (q7, .inl (c8, 3, .inl (fun _ => 0))), (q9, .inl (c10, 120, .inl (fun _ => 0))), (q11, .inl (c12, 320, .inl (fun _ => 0))), (q13, .inl (c14, 32, .inl (fun _ => 0))), (q15, .inl (c16, 343, .inl (fun _ => 0))), (q17, .inl (c18, 3, .inl (fun _ => 0)))] := hD
  have hK : va_K (dC, dI) vwCl [(c2, .int), (c4, .int), (c6, .int), (c8, .int), (c10, .int), (c12, .int), (c14, .boolean), (c16, .boolean), (c18, .int)] s := hK
  refine W.widen (k := 9) (n := 1724) (Nat.le_of_ble_eq_true rfl) (Nat.le_of_ble_eq_true rfl) ?_
  refine va_putF (D := (dC, dI)) (ci := 7) (v := .ref q17) (ty := .array .int) (C := RX7) (T := TX7) (N := 16) hx hb hts gin_X7 tyX7 tyX7_ok nmX7 hown hK hP hD hS 0 rfl rfl 14 (by decide) (hts _ mw_808) (fun _ h9 => h9) rfl hin rfl (by decide +kernel) rfl rfl (Nat.le_of_ble_eq_true rfl) dX7_init_81 (fun H locs hP hD hS => ?_)
  have hP : va_P (dC, dI) vwCl [(h0, .inr (7, [.ref q1, .ref q3, .int 0, .ref q5, .ref q7, .ref q9, .int 0, .int 0, .long 0, .long 1, .ref q11, .int 0, .ref q13, .ref q15, .ref q17, .null])), (q1, .inl (c2, 129, .inl (fun _ => 0))), (q3, .inl (c4, 645, .inl (fun _ => 0))), (q5, .inl (c6, 129, .inl (fun _ => 0))), (q7, .inl (c8, 3, .inl (fun _ => 0))), (q9, .inl (c10, 120, .inl (fun _ => 0))), (q11, .inl (c12, 320, .inl (fun _ => 0))), (q13, .inl (c14, 32, .inl (fun _ => 0))), (q15, .inl (c16, 343, .inl (fun _ => 0))), (q17, .inl (c18, 3, .inl (fun _ => 0)))] H := hP
  have hD : va_D A [(h0, .inr (7, [.ref q1, .ref q3, .int 0, .ref q5, .ref q7, .ref q9, .int 0, .int 0, .long 0, .long 1, .ref q11, .int 0, .ref q13, .ref q15, .ref q17, .null])), (q1, .inl (c2, 129, .inl (fun _ => 0))), (q3, .inl (c4, 645, .inl (fun _ => 0))), (q5, .inl (c6, 129, .inl (fun _ => 0))), (q7, .inl (c8, 3, .inl (fun _ => 0))), (q9, .inl (c10, 120, .inl (fun _ => 0))), (q11, .inl (c12, 320, .inl (fun _ => 0))), (q13, .inl (c14, 32, .inl (fun _ => 0))), (q15, .inl (c16, 343, .inl (fun _ => 0))), (q17, .inl (c18, 3, .inl (fun _ => 0)))] := hD
  refine lv_aload_n hx hb dX7_init_84 rfl (lv_at hl 0 rfl) ?_
  refine lv_iconst (v := 3) hx hb dX7_init_85 (by decide) ?_
  refine va_newa (atype := .int) (a0 := (3, .inl (fun _ => 0))) hx hb (hts _ mw_158) (ty := .int) rfl hK hP hD hS hA (fun _ => rfl) (by decide) (by decide) (Nat.le_of_ble_eq_true rfl) (Nat.le_of_ble_eq_true rfl) (Nat.le_of_ble_eq_true rfl) dX7_init_86 (fun q19 c20 H hK hP hD hS => ?_)
  have hP : va_P (dC, dI) vwCl [(h0, .inr (7, [.ref q1, .ref q3, .int 0, .ref q5, .ref q7, .ref q9, .int 0, .int 0, .long 0, .long 1, .ref q11, .int 0, .ref q13, .ref q15, .ref q17, .null])), (q1, .inl (c2, 129, .inl (fun _ => 0))), (q3, .inl (c4, 645, .inl (fun _ => 0))), (q5, .inl (c6, 129, .inl (fun _ => 0))), (q7, .inl (c8, 3, .inl (fun _ => 0))), (q9, .inl (c10, 120, .inl (fun _ => 0))), (q11, .inl (c12, 320, .inl (fun _ => 0))), (q13, .inl (c14, 32, .inl (fun _ => 0))), (q15, .inl (c16, 343, .inl (fun _ => 0))), (q17, .inl (c18, 3, .inl (fun _ => 0))), (q19, .inl (c20, 3, .inl (fun _ => 0)))] H := hP
  have hD : va_D A [(h0, .inr (7, [.ref q1, .ref q3, .int 0, .ref q5, .ref q7, .ref q9, .int 0, .int 0, .long 0, .long 1, .ref q11, .int 0, .ref q13, .ref q15, .ref q17, .null])), (q1, .inl (c2, 129, .inl (fun _ => 0))), (q3, .inl (c4, 645, .inl (fun _ => 0))), (q5, .inl (c6, 129, .inl (fun _ => 0))), (q7, .inl (c8, 3, .inl (fun _ => 0))), (q9, .inl (c10, 120, .inl (fun _ => 0))), (q11, .inl (c12, 320, .inl (fun _ => 0))), (q13, .inl (c14, 32, .inl (fun _ => 0))), (q15, .inl (c16, 343, .inl (fun _ => 0))), (q17, .inl (c18, 3, .inl (fun _ => 0))), (q19, .inl (c20, 3, .inl (fun _ => 0)))] := hD
  have hK : va_K (dC, dI) vwCl [(c2, .int), (c4, .int), (c6, .int), (c8, .int), (c10, .int), (c12, .int), (c14, .boolean), (c16, .boolean), (c18, .int), (c20, .int)] s := hK
  refine W.widen (k := 10) (n := 1727) (Nat.le_of_ble_eq_true rfl) (Nat.le_of_ble_eq_true rfl) ?_
  refine va_putF (D := (dC, dI)) (ci := 7) (v := .ref q19) (ty := .array .int) (C := RX7) (T := TX7) (N := 16) hx hb hts gin_X7 tyX7 tyX7_ok nmX7 hown hK hP hD hS 0 rfl rfl 15 (by decide) (hts _ mw_809) (fun _ h9 => h9) rfl hin rfl (by decide +kernel) rfl rfl (Nat.le_of_ble_eq_true rfl) dX7_init_88 (fun H locs hP hD hS => ?_)
  have hP : va_P (dC, dI) vwCl [(h0, .inr (7, [.ref q1, .ref q3, .int 0, .ref q5, .ref q7, .ref q9, .int 0, .int 0, .long 0, .long 1, .ref q11, .int 0, .ref q13, .ref q15, .ref q17, .ref q19])), (q1, .inl (c2, 129, .inl (fun _ => 0))), (q3, .inl (c4, 645, .inl (fun _ => 0))), (q5, .inl (c6, 129, .inl (fun _ => 0))), (q7, .inl (c8, 3, .inl (fun _ => 0))), (q9, .inl (c10, 120, .inl (fun _ => 0))), (q11, .inl (c12, 320, .inl (fun _ => 0))), (q13, .inl (c14, 32, .inl (fun _ => 0))), (q15, .inl (c16, 343, .inl (fun _ => 0))), (q17, .inl (c18, 3, .inl (fun _ => 0))), (q19, .inl (c20, 3, .inl (fun _ => 0)))] H := hP
  have hD : va_D A [(h0, .inr (7, [.ref q1, .ref q3, .int 0, .ref q5, .ref q7, .ref q9, .int 0, .int 0, .long 0, .long 1, .ref q11, .int 0, .ref q13, .ref q15, .ref q17, .ref q19])), (q1, .inl (c2, 129, .inl (fun _ => 0))), (q3, .inl (c4, 645, .inl (fun _ => 0))), (q5, .inl (c6, 129, .inl (fun _ => 0))), (q7, .inl (c8, 3, .inl (fun _ => 0))), (q9, .inl (c10, 120, .inl (fun _ => 0))), (q11, .inl (c12, 320, .inl (fun _ => 0))), (q13, .inl (c14, 32, .inl (fun _ => 0))), (q15, .inl (c16, 343, .inl (fun _ => 0))), (q17, .inl (c18, 3, .inl (fun _ => 0))), (q19, .inl (c20, 3, .inl (fun _ => 0)))] := hD
  refine lv_aload_n hx hb dX7_init_91 rfl (lv_at hl 0 rfl) ?_
  refine va_get (D := (dC, dI)) (ci := 7) (v := .ref q1) (C := RX7) (T := TX7) (N := 16) hx hb hts gin_X7 hown hK hP 0 rfl rfl 0 (by decide) (hts _ mw_794) (fun _ h9 => h9) rfl dX7_init_92 ?_
  refine lv_iconst (v := 0) hx hb dX7_init_95 (by decide) ?_
  refine lv_bipush (v := 6) hx hb dX7_init_96 (by decide) ?_
  refine va_iast (D := (dC, dI)) hx hb hK hP hD hS 1 0 rfl rfl (by unfold vp_in; decide) dX7_init_98 (fun H locs hP hD hS => ?_)
  have hP : va_P (dC, dI) vwCl [(h0, .inr (7, [.ref q1, .ref q3, .int 0, .ref q5, .ref q7, .ref q9, .int 0, .int 0, .long 0, .long 1, .ref q11, .int 0, .ref q13, .ref q15, .ref q17, .ref q19])), (q1, .inl (c2, 129, .inl (upd (fun _ => 0) (Int32.toNatClampNeg 0) 6))), (q3, .inl (c4, 645, .inl (fun _ => 0))), (q5, .inl (c6, 129, .inl (fun _ => 0))), (q7, .inl (c8, 3, .inl (fun _ => 0))), (q9, .inl (c10, 120, .inl (fun _ => 0))), (q11, .inl (c12, 320, .inl (fun _ => 0))), (q13, .inl (c14, 32, .inl (fun _ => 0))), (q15, .inl (c16, 343, .inl (fun _ => 0))), (q17, .inl (c18, 3, .inl (fun _ => 0))), (q19, .inl (c20, 3, .inl (fun _ => 0)))] H := hP
  have hD : va_D A [(h0, .inr (7, [.ref q1, .ref q3, .int 0, .ref q5, .ref q7, .ref q9, .int 0, .int 0, .long 0, .long 1, .ref q11, .int 0, .ref q13, .ref q15, .ref q17, .ref q19])), (q1, .inl (c2, 129, .inl (upd (fun _ => 0) (Int32.toNatClampNeg 0) 6))), (q3, .inl (c4, 645, .inl (fun _ => 0))), (q5, .inl (c6, 129, .inl (fun _ => 0))), (q7, .inl (c8, 3, .inl (fun _ => 0))), (q9, .inl (c10, 120, .inl (fun _ => 0))), (q11, .inl (c12, 320, .inl (fun _ => 0))), (q13, .inl (c14, 32, .inl (fun _ => 0))), (q15, .inl (c16, 343, .inl (fun _ => 0))), (q17, .inl (c18, 3, .inl (fun _ => 0))), (q19, .inl (c20, 3, .inl (fun _ => 0)))] := hD
  refine lv_iconst (v := 0) hx hb dX7_init_99 (by decide) ?_
  refine lv_istore_n (lv' := [(1, .int 0), (0, .ref h0)]) hx hb dX7_init_100 rfl hl (by decide) rfl (fun ls hl => ?_)
  refine lv_iload_n hx hb dX7_init_101 rfl (lv_at hl 0 rfl) ?_
  refine lv_bipush (v := 6) hx hb dX7_init_102 (by decide) ?_
  refine lv_icmp_ge (tgt := 172) hx hb dX7_init_104 (by decide) (fun c0 => absurd c0 (by decide)) (fun _ => ?_)
  refine lv_iconst (v := 0) hx hb dX7_init_107 (by decide) ?_
  refine lv_istore_n (lv' := [(2, .int 0), (1, .int 0), (0, .ref h0)]) hx hb dX7_init_108 rfl hl (by decide) rfl (fun ls hl => ?_)
  refine lv_iload_n hx hb dX7_init_109 rfl (lv_at hl 0 rfl) ?_
  refine lv_iconst (v := 3) hx hb dX7_init_110 (by decide) ?_
  refine lv_icmp_ge (tgt := 154) hx hb dX7_init_111 (by decide) (fun c0 => absurd c0 (by decide)) (fun _ => ?_)
  refine lv_aload_n hx hb dX7_init_114 rfl (lv_at hl 2 rfl) ?_
  refine va_get (D := (dC, dI)) (ci := 7) (v := .ref q1) (C := RX7) (T := TX7) (N := 16) hx hb hts gin_X7 hown hK hP 0 rfl rfl 0 (by decide) (hts _ mw_794) (fun _ h9 => h9) rfl dX7_init_115 ?_
  refine lv_iconst (v := 1) hx hb dX7_init_118 (by decide) ?_
  refine lv_iconst (v := 4) hx hb dX7_init_119 (by decide) ?_
  refine lv_iload_n hx hb dX7_init_120 rfl (lv_at hl 1 rfl) ?_
  refine lv_imul hx hb dX7_init_121 ?_
  refine lv_topi (fun z22 ez22 => ?_)
  obtain rfl : z22 = 0 := by rw [ez22]; decide
  refine lv_iadd hx hb dX7_init_122 ?_
  refine lv_topi (fun z23 ez23 => ?_)
  obtain rfl : z23 = 1 := by rw [ez23]; decide
  refine lv_iload_n hx hb dX7_init_123 rfl (lv_at hl 0 rfl) ?_
  refine lv_iadd hx hb dX7_init_124 ?_
  refine lv_topi (fun z24 ez24 => ?_)
  obtain rfl : z24 = 1 := by rw [ez24]; decide
  refine lv_iload_n hx hb dX7_init_125 rfl (lv_at hl 1 rfl) ?_
  refine lv_iconst (v := 2) hx hb dX7_init_126 (by decide) ?_
  refine lv_idiv hx hb dX7_init_127 (by decide) ?_
  refine lv_topi (fun z25 ez25 => ?_)
  obtain rfl : z25 = 0 := by rw [ez25]; decide
  refine lv_iload_n hx hb dX7_init_128 rfl (lv_at hl 0 rfl) ?_
  refine lv_icmp_ne (tgt := 146) hx hb dX7_init_129 (by decide) (fun c0 => absurd c0 (by decide)) (fun _ => ?_)
  refine lv_iload_n hx hb dX7_init_132 rfl (lv_at hl 1 rfl) ?_
  refine lv_iconst (v := 2) hx hb dX7_init_133 (by decide) ?_
  refine lv_irem hx hb dX7_init_134 (by decide) ?_
  refine lv_topi (fun z26 ez26 => ?_)
  obtain rfl : z26 = 0 := by rw [ez26]; decide
  refine lv_if_ne (tgt := 142) hx hb dX7_init_135 (by decide) (fun c0 => absurd c0 (by decide)) (fun _ => ?_)
  refine lv_iconst (v := 1) hx hb dX7_init_138 (by decide) ?_
  refine lv_goto (tgt := 147) hx hb dX7_init_139 (by decide) ?_
  refine va_iast (D := (dC, dI)) hx hb hK hP hD hS 1 0 rfl rfl (by unfold vp_in; decide) dX7_init_147 (fun H locs hP hD hS => ?_)
  have hP : va_P (dC, dI) vwCl [(h0, .inr (7, [.ref q1, .ref q3, .int 0, .ref q5, .ref q7, .ref q9, .int 0, .int 0, .long 0, .long 1, .ref q11, .int 0, .ref q13, .ref q15, .ref q17, .ref q19])), (q1, .inl (c2, 129, .inl (upd (upd (fun _ => 0) (Int32.toNatClampNeg 0) 6) (Int32.toNatClampNeg 1) 1))), (q3, .inl (c4, 645, .inl (fun _ => 0))), (q5, .inl (c6, 129, .inl (fun _ => 0))), (q7, .inl (c8, 3, .inl (fun _ => 0))), (q9, .inl (c10, 120, .inl (fun _ => 0))), (q11, .inl (c12, 320, .inl (fun _ => 0))), (q13, .inl (c14, 32, .inl (fun _ => 0))), (q15, .inl (c16, 343, .inl (fun _ => 0))), (q17, .inl (c18, 3, .inl (fun _ => 0))), (q19, .inl (c20, 3, .inl (fun _ => 0)))] H := hP
  have hD : va_D A [(h0, .inr (7, [.ref q1, .ref q3, .int 0, .ref q5, .ref q7, .ref q9, .int 0, .int 0, .long 0, .long 1, .ref q11, .int 0, .ref q13, .ref q15, .ref q17, .ref q19])), (q1, .inl (c2, 129, .inl (upd (upd (fun _ => 0) (Int32.toNatClampNeg 0) 6) (Int32.toNatClampNeg 1) 1))), (q3, .inl (c4, 645, .inl (fun _ => 0))), (q5, .inl (c6, 129, .inl (fun _ => 0))), (q7, .inl (c8, 3, .inl (fun _ => 0))), (q9, .inl (c10, 120, .inl (fun _ => 0))), (q11, .inl (c12, 320, .inl (fun _ => 0))), (q13, .inl (c14, 32, .inl (fun _ => 0))), (q15, .inl (c16, 343, .inl (fun _ => 0))), (q17, .inl (c18, 3, .inl (fun _ => 0))), (q19, .inl (c20, 3, .inl (fun _ => 0)))] := hD
  refine lv_iinc (v := 1) (lv' := [(2, .int 1), (1, .int 0), (0, .ref h0)]) hx hb dX7_init_148 hl (k := 0) rfl (by decide) (by decide) rfl (fun ls hl => ?_)
  refine lv_goto (tgt := 109) hx hb dX7_init_151 (by decide) ?_
  refine lv_iload_n hx hb dX7_init_109 rfl (lv_at hl 0 rfl) ?_
  refine lv_iconst (v := 3) hx hb dX7_init_110 (by decide) ?_
  refine lv_icmp_ge (tgt := 154) hx hb dX7_init_111 (by decide) (fun c0 => absurd c0 (by decide)) (fun _ => ?_)
  refine lv_aload_n hx hb dX7_init_114 rfl (lv_at hl 2 rfl) ?_
  refine va_get (D := (dC, dI)) (ci := 7) (v := .ref q1) (C := RX7) (T := TX7) (N := 16) hx hb hts gin_X7 hown hK hP 0 rfl rfl 0 (by decide) (hts _ mw_794) (fun _ h9 => h9) rfl dX7_init_115 ?_
  refine lv_iconst (v := 1) hx hb dX7_init_118 (by decide) ?_
  refine lv_iconst (v := 4) hx hb dX7_init_119 (by decide) ?_
  refine lv_iload_n hx hb dX7_init_120 rfl (lv_at hl 1 rfl) ?_
  refine lv_imul hx hb dX7_init_121 ?_
  refine lv_topi (fun z28 ez28 => ?_)
  obtain rfl : z28 = 0 := by rw [ez28]; decide
  refine lv_iadd hx hb dX7_init_122 ?_
  refine lv_topi (fun z29 ez29 => ?_)
  obtain rfl : z29 = 1 := by rw [ez29]; decide
  refine lv_iload_n hx hb dX7_init_123 rfl (lv_at hl 0 rfl) ?_
  refine lv_iadd hx hb dX7_init_124 ?_
  refine lv_topi (fun z30 ez30 => ?_)
  obtain rfl : z30 = 2 := by rw [ez30]; decide
  refine lv_iload_n hx hb dX7_init_125 rfl (lv_at hl 1 rfl) ?_
  refine lv_iconst (v := 2) hx hb dX7_init_126 (by decide) ?_
  refine lv_idiv hx hb dX7_init_127 (by decide) ?_
  refine lv_topi (fun z31 ez31 => ?_)
  obtain rfl : z31 = 0 := by rw [ez31]; decide
  refine lv_iload_n hx hb dX7_init_128 rfl (lv_at hl 0 rfl) ?_
  refine lv_icmp_ne (tgt := 146) hx hb dX7_init_129 (by decide) (fun _ => ?_) (fun c0 => absurd c0 (by decide))
  refine lv_iconst (v := 0) hx hb dX7_init_146 (by decide) ?_
  refine va_iast (D := (dC, dI)) hx hb hK hP hD hS 1 0 rfl rfl (by unfold vp_in; decide) dX7_init_147 (fun H locs hP hD hS => ?_)
  have hP : va_P (dC, dI) vwCl [(h0, .inr (7, [.ref q1, .ref q3, .int 0, .ref q5, .ref q7, .ref q9, .int 0, .int 0, .long 0, .long 1, .ref q11, .int 0, .ref q13, .ref q15, .ref q17, .ref q19])), (q1, .inl (c2, 129, .inl (upd (upd (upd (fun _ => 0) (Int32.toNatClampNeg 0) 6) (Int32.toNatClampNeg 1) 1) (Int32.toNatClampNeg 2) 0))), (q3, .inl (c4, 645, .inl (fun _ => 0))), (q5, .inl (c6, 129, .inl (fun _ => 0))), (q7, .inl (c8, 3, .inl (fun _ => 0))), (q9, .inl (c10, 120, .inl (fun _ => 0))), (q11, .inl (c12, 320, .inl (fun _ => 0))), (q13, .inl (c14, 32, .inl (fun _ => 0))), (q15, .inl (c16, 343, .inl (fun _ => 0))), (q17, .inl (c18, 3, .inl (fun _ => 0))), (q19, .inl (c20, 3, .inl (fun _ => 0)))] H := hP
  have hD : va_D A [(h0, .inr (7, [.ref q1, .ref q3, .int 0, .ref q5, .ref q7, .ref q9, .int 0, .int 0, .long 0, .long 1, .ref q11, .int 0, .ref q13, .ref q15, .ref q17, .ref q19])), (q1, .inl (c2, 129, .inl (upd (upd (upd (fun _ => 0) (Int32.toNatClampNeg 0) 6) (Int32.toNatClampNeg 1) 1) (Int32.toNatClampNeg 2) 0))), (q3, .inl (c4, 645, .inl (fun _ => 0))), (q5, .inl (c6, 129, .inl (fun _ => 0))), (q7, .inl (c8, 3, .inl (fun _ => 0))), (q9, .inl (c10, 120, .inl (fun _ => 0))), (q11, .inl (c12, 320, .inl (fun _ => 0))), (q13, .inl (c14, 32, .inl (fun _ => 0))), (q15, .inl (c16, 343, .inl (fun _ => 0))), (q17, .inl (c18, 3, .inl (fun _ => 0))), (q19, .inl (c20, 3, .inl (fun _ => 0)))] := hD
  refine lv_iinc (v := 2) (lv' := [(2, .int 2), (1, .int 0), (0, .ref h0)]) hx hb dX7_init_148 hl (k := 0) rfl (by decide) (by decide) rfl (fun ls hl => ?_)
  refine lv_goto (tgt := 109) hx hb dX7_init_151 (by decide) ?_
  refine lv_iload_n hx hb dX7_init_109 rfl (lv_at hl 0 rfl) ?_
  refine lv_iconst (v := 3) hx hb dX7_init_110 (by decide) ?_
  refine lv_icmp_ge (tgt := 154) hx hb dX7_init_111 (by decide) (fun c0 => absurd c0 (by decide)) (fun _ => ?_)
  refine lv_aload_n hx hb dX7_init_114 rfl (lv_at hl 2 rfl) ?_
  refine va_get (D := (dC, dI)) (ci := 7) (v := .ref q1) (C := RX7) (T := TX7) (N := 16) hx hb hts gin_X7 hown hK hP 0 rfl rfl 0 (by decide) (hts _ mw_794) (fun _ h9 => h9) rfl dX7_init_115 ?_
  refine lv_iconst (v := 1) hx hb dX7_init_118 (by decide) ?_
  refine lv_iconst (v := 4) hx hb dX7_init_119 (by decide) ?_
  refine lv_iload_n hx hb dX7_init_120 rfl (lv_at hl 1 rfl) ?_
  refine lv_imul hx hb dX7_init_121 ?_
  refine lv_topi (fun z33 ez33 => ?_)
  obtain rfl : z33 = 0 := by rw [ez33]; decide
  refine lv_iadd hx hb dX7_init_122 ?_
  refine lv_topi (fun z34 ez34 => ?_)
  obtain rfl : z34 = 1 := by rw [ez34]; decide
  refine lv_iload_n hx hb dX7_init_123 rfl (lv_at hl 0 rfl) ?_
  refine lv_iadd hx hb dX7_init_124 ?_
  refine lv_topi (fun z35 ez35 => ?_)
  obtain rfl : z35 = 3 := by rw [ez35]; decide
  refine lv_iload_n hx hb dX7_init_125 rfl (lv_at hl 1 rfl) ?_
  refine lv_iconst (v := 2) hx hb dX7_init_126 (by decide) ?_
  refine lv_idiv hx hb dX7_init_127 (by decide) ?_
  refine lv_topi (fun z36 ez36 => ?_)
  obtain rfl : z36 = 0 := by rw [ez36]; decide
  refine lv_iload_n hx hb dX7_init_128 rfl (lv_at hl 0 rfl) ?_
  refine lv_icmp_ne (tgt := 146) hx hb dX7_init_129 (by decide) (fun _ => ?_) (fun c0 => absurd c0 (by decide))
  refine lv_iconst (v := 0) hx hb dX7_init_146 (by decide) ?_
  refine va_iast (D := (dC, dI)) hx hb hK hP hD hS 1 0 rfl rfl (by unfold vp_in; decide) dX7_init_147 (fun H locs hP hD hS => ?_)
  have hP : va_P (dC, dI) vwCl [(h0, .inr (7, [.ref q1, .ref q3, .int 0, .ref q5, .ref q7, .ref q9, .int 0, .int 0, .long 0, .long 1, .ref q11, .int 0, .ref q13, .ref q15, .ref q17, .ref q19])), (q1, .inl (c2, 129, .inl (upd (upd (upd (upd (fun _ => 0) (Int32.toNatClampNeg 0) 6) (Int32.toNatClampNeg 1) 1) (Int32.toNatClampNeg 2) 0) (Int32.toNatClampNeg 3) 0))), (q3, .inl (c4, 645, .inl (fun _ => 0))), (q5, .inl (c6, 129, .inl (fun _ => 0))), (q7, .inl (c8, 3, .inl (fun _ => 0))), (q9, .inl (c10, 120, .inl (fun _ => 0))), (q11, .inl (c12, 320, .inl (fun _ => 0))), (q13, .inl (c14, 32, .inl (fun _ => 0))), (q15, .inl (c16, 343, .inl (fun _ => 0))), (q17, .inl (c18, 3, .inl (fun _ => 0))), (q19, .inl (c20, 3, .inl (fun _ => 0)))] H := hP
  have hD : va_D A [(h0, .inr (7, [.ref q1, .ref q3, .int 0, .ref q5, .ref q7, .ref q9, .int 0, .int 0, .long 0, .long 1, .ref q11, .int 0, .ref q13, .ref q15, .ref q17, .ref q19])), (q1, .inl (c2, 129, .inl (upd (upd (upd (upd (fun _ => 0) (Int32.toNatClampNeg 0) 6) (Int32.toNatClampNeg 1) 1) (Int32.toNatClampNeg 2) 0) (Int32.toNatClampNeg 3) 0))), (q3, .inl (c4, 645, .inl (fun _ => 0))), (q5, .inl (c6, 129, .inl (fun _ => 0))), (q7, .inl (c8, 3, .inl (fun _ => 0))), (q9, .inl (c10, 120, .inl (fun _ => 0))), (q11, .inl (c12, 320, .inl (fun _ => 0))), (q13, .inl (c14, 32, .inl (fun _ => 0))), (q15, .inl (c16, 343, .inl (fun _ => 0))), (q17, .inl (c18, 3, .inl (fun _ => 0))), (q19, .inl (c20, 3, .inl (fun _ => 0)))] := hD
  refine lv_iinc (v := 3) (lv' := [(2, .int 3), (1, .int 0), (0, .ref h0)]) hx hb dX7_init_148 hl (k := 0) rfl (by decide) (by decide) rfl (fun ls hl => ?_)
  refine lv_goto (tgt := 109) hx hb dX7_init_151 (by decide) ?_
  refine lv_iload_n hx hb dX7_init_109 rfl (lv_at hl 0 rfl) ?_
  refine lv_iconst (v := 3) hx hb dX7_init_110 (by decide) ?_
  refine lv_icmp_ge (tgt := 154) hx hb dX7_init_111 (by decide) (fun _ => ?_) (fun c0 => absurd (by decide) c0)
  refine lv_aload_n hx hb dX7_init_154 rfl (lv_at hl 2 rfl) ?_
  refine va_get (D := (dC, dI)) (ci := 7) (v := .ref q1) (C := RX7) (T := TX7) (N := 16) hx hb hts gin_X7 hown hK hP 0 rfl rfl 0 (by decide) (hts _ mw_794) (fun _ h9 => h9) rfl dX7_init_155 ?_
  refine lv_iconst (v := 4) hx hb dX7_init_158 (by decide) ?_
  refine lv_iconst (v := 4) hx hb dX7_init_159 (by decide) ?_
  refine lv_iload_n hx hb dX7_init_160 rfl (lv_at hl 1 rfl) ?_
  refine lv_imul hx hb dX7_init_161 ?_
  refine lv_topi (fun z38 ez38 => ?_)
  obtain rfl : z38 = 0 := by rw [ez38]; decide
  refine lv_iadd hx hb dX7_init_162 ?_
  refine lv_topi (fun z39 ez39 => ?_)
  obtain rfl : z39 = 4 := by rw [ez39]; decide
  refine lv_bipush (v := 20) hx hb dX7_init_163 (by decide) ?_
  refine va_iast (D := (dC, dI)) hx hb hK hP hD hS 1 0 rfl rfl (by unfold vp_in; decide) dX7_init_165 (fun H locs hP hD hS => ?_)
  have hP : va_P (dC, dI) vwCl [(h0, .inr (7, [.ref q1, .ref q3, .int 0, .ref q5, .ref q7, .ref q9, .int 0, .int 0, .long 0, .long 1, .ref q11, .int 0, .ref q13, .ref q15, .ref q17, .ref q19])), (q1, .inl (c2, 129, .inl (upd (upd (upd (upd (upd (fun _ => 0) (Int32.toNatClampNeg 0) 6) (Int32.toNatClampNeg 1) 1) (Int32.toNatClampNeg 2) 0) (Int32.toNatClampNeg 3) 0) (Int32.toNatClampNeg 4) 20))), (q3, .inl (c4, 645, .inl (fun _ => 0))), (q5, .inl (c6, 129, .inl (fun _ => 0))), (q7, .inl (c8, 3, .inl (fun _ => 0))), (q9, .inl (c10, 120, .inl (fun _ => 0))), (q11, .inl (c12, 320, .inl (fun _ => 0))), (q13, .inl (c14, 32, .inl (fun _ => 0))), (q15, .inl (c16, 343, .inl (fun _ => 0))), (q17, .inl (c18, 3, .inl (fun _ => 0))), (q19, .inl (c20, 3, .inl (fun _ => 0)))] H := hP
  have hD : va_D A [(h0, .inr (7, [.ref q1, .ref q3, .int 0, .ref q5, .ref q7, .ref q9, .int 0, .int 0, .long 0, .long 1, .ref q11, .int 0, .ref q13, .ref q15, .ref q17, .ref q19])), (q1, .inl (c2, 129, .inl (upd (upd (upd (upd (upd (fun _ => 0) (Int32.toNatClampNeg 0) 6) (Int32.toNatClampNeg 1) 1) (Int32.toNatClampNeg 2) 0) (Int32.toNatClampNeg 3) 0) (Int32.toNatClampNeg 4) 20))), (q3, .inl (c4, 645, .inl (fun _ => 0))), (q5, .inl (c6, 129, .inl (fun _ => 0))), (q7, .inl (c8, 3, .inl (fun _ => 0))), (q9, .inl (c10, 120, .inl (fun _ => 0))), (q11, .inl (c12, 320, .inl (fun _ => 0))), (q13, .inl (c14, 32, .inl (fun _ => 0))), (q15, .inl (c16, 343, .inl (fun _ => 0))), (q17, .inl (c18, 3, .inl (fun _ => 0))), (q19, .inl (c20, 3, .inl (fun _ => 0)))] := hD
  refine lv_iinc (v := 1) (lv' := [(1, .int 1), (2, .int 3), (0, .ref h0)]) hx hb dX7_init_166 hl (k := 1) rfl (by decide) (by decide) rfl (fun ls hl => ?_)
  refine lv_goto (tgt := 101) hx hb dX7_init_169 (by decide) ?_
  refine lv_iload_n hx hb dX7_init_101 rfl (lv_at hl 0 rfl) ?_
  refine lv_bipush (v := 6) hx hb dX7_init_102 (by decide) ?_
  refine lv_icmp_ge (tgt := 172) hx hb dX7_init_104 (by decide) (fun c0 => absurd c0 (by decide)) (fun _ => ?_)
  refine lv_iconst (v := 0) hx hb dX7_init_107 (by decide) ?_
  refine lv_istore_n (lv' := [(2, .int 0), (1, .int 1), (0, .ref h0)]) hx hb dX7_init_108 rfl hl (by decide) rfl (fun ls hl => ?_)
  refine lv_iload_n hx hb dX7_init_109 rfl (lv_at hl 0 rfl) ?_
  refine lv_iconst (v := 3) hx hb dX7_init_110 (by decide) ?_
  refine lv_icmp_ge (tgt := 154) hx hb dX7_init_111 (by decide) (fun c0 => absurd c0 (by decide)) (fun _ => ?_)
  refine lv_aload_n hx hb dX7_init_114 rfl (lv_at hl 2 rfl) ?_
  refine va_get (D := (dC, dI)) (ci := 7) (v := .ref q1) (C := RX7) (T := TX7) (N := 16) hx hb hts gin_X7 hown hK hP 0 rfl rfl 0 (by decide) (hts _ mw_794) (fun _ h9 => h9) rfl dX7_init_115 ?_
  refine lv_iconst (v := 1) hx hb dX7_init_118 (by decide) ?_
  refine lv_iconst (v := 4) hx hb dX7_init_119 (by decide) ?_
  refine lv_iload_n hx hb dX7_init_120 rfl (lv_at hl 1 rfl) ?_
  refine lv_imul hx hb dX7_init_121 ?_
  refine lv_topi (fun z41 ez41 => ?_)
  obtain rfl : z41 = 4 := by rw [ez41]; decide
  refine lv_iadd hx hb dX7_init_122 ?_
  refine lv_topi (fun z42 ez42 => ?_)
  obtain rfl : z42 = 5 := by rw [ez42]; decide
  refine lv_iload_n hx hb dX7_init_123 rfl (lv_at hl 0 rfl) ?_
  refine lv_iadd hx hb dX7_init_124 ?_
  refine lv_topi (fun z43 ez43 => ?_)
  obtain rfl : z43 = 5 := by rw [ez43]; decide
  refine lv_iload_n hx hb dX7_init_125 rfl (lv_at hl 1 rfl) ?_
  refine lv_iconst (v := 2) hx hb dX7_init_126 (by decide) ?_
  refine lv_idiv hx hb dX7_init_127 (by decide) ?_
  refine lv_topi (fun z44 ez44 => ?_)
  obtain rfl : z44 = 0 := by rw [ez44]; decide
  refine lv_iload_n hx hb dX7_init_128 rfl (lv_at hl 0 rfl) ?_
  refine lv_icmp_ne (tgt := 146) hx hb dX7_init_129 (by decide) (fun c0 => absurd c0 (by decide)) (fun _ => ?_)
  refine lv_iload_n hx hb dX7_init_132 rfl (lv_at hl 1 rfl) ?_
  refine lv_iconst (v := 2) hx hb dX7_init_133 (by decide) ?_
  refine lv_irem hx hb dX7_init_134 (by decide) ?_
  refine lv_topi (fun z45 ez45 => ?_)
  obtain rfl : z45 = 1 := by rw [ez45]; decide
  refine lv_if_ne (tgt := 142) hx hb dX7_init_135 (by decide) (fun _ => ?_) (fun c0 => absurd c0 (by decide))
  refine lv_iconst (v := (-1)) hx hb dX7_init_142 (by decide) ?_
  refine lv_goto (tgt := 147) hx hb dX7_init_143 (by decide) ?_
  refine va_iast (D := (dC, dI)) hx hb hK hP hD hS 1 0 rfl rfl (by unfold vp_in; decide) dX7_init_147 (fun H locs hP hD hS => ?_)
  have hP : va_P (dC, dI) vwCl [(h0, .inr (7, [.ref q1, .ref q3, .int 0, .ref q5, .ref q7, .ref q9, .int 0, .int 0, .long 0, .long 1, .ref q11, .int 0, .ref q13, .ref q15, .ref q17, .ref q19])), (q1, .inl (c2, 129, .inl (upd (upd (upd (upd (upd (upd (fun _ => 0) (Int32.toNatClampNeg 0) 6) (Int32.toNatClampNeg 1) 1) (Int32.toNatClampNeg 2) 0) (Int32.toNatClampNeg 3) 0) (Int32.toNatClampNeg 4) 20) (Int32.toNatClampNeg 5) (-1)))), (q3, .inl (c4, 645, .inl (fun _ => 0))), (q5, .inl (c6, 129, .inl (fun _ => 0))), (q7, .inl (c8, 3, .inl (fun _ => 0))), (q9, .inl (c10, 120, .inl (fun _ => 0))), (q11, .inl (c12, 320, .inl (fun _ => 0))), (q13, .inl (c14, 32, .inl (fun _ => 0))), (q15, .inl (c16, 343, .inl (fun _ => 0))), (q17, .inl (c18, 3, .inl (fun _ => 0))), (q19, .inl (c20, 3, .inl (fun _ => 0)))] H := hP
  have hD : va_D A [(h0, .inr (7, [.ref q1, .ref q3, .int 0, .ref q5, .ref q7, .ref q9, .int 0, .int 0, .long 0, .long 1, .ref q11, .int 0, .ref q13, .ref q15, .ref q17, .ref q19])), (q1, .inl (c2, 129, .inl (upd (upd (upd (upd (upd (upd (fun _ => 0) (Int32.toNatClampNeg 0) 6) (Int32.toNatClampNeg 1) 1) (Int32.toNatClampNeg 2) 0) (Int32.toNatClampNeg 3) 0) (Int32.toNatClampNeg 4) 20) (Int32.toNatClampNeg 5) (-1)))), (q3, .inl (c4, 645, .inl (fun _ => 0))), (q5, .inl (c6, 129, .inl (fun _ => 0))), (q7, .inl (c8, 3, .inl (fun _ => 0))), (q9, .inl (c10, 120, .inl (fun _ => 0))), (q11, .inl (c12, 320, .inl (fun _ => 0))), (q13, .inl (c14, 32, .inl (fun _ => 0))), (q15, .inl (c16, 343, .inl (fun _ => 0))), (q17, .inl (c18, 3, .inl (fun _ => 0))), (q19, .inl (c20, 3, .inl (fun _ => 0)))] := hD
  refine lv_iinc (v := 1) (lv' := [(2, .int 1), (1, .int 1), (0, .ref h0)]) hx hb dX7_init_148 hl (k := 0) rfl (by decide) (by decide) rfl (fun ls hl => ?_)
  refine lv_goto (tgt := 109) hx hb dX7_init_151 (by decide) ?_
  refine lv_iload_n hx hb dX7_init_109 rfl (lv_at hl 0 rfl) ?_
  refine lv_iconst (v := 3) hx hb dX7_init_110 (by decide) ?_
  refine lv_icmp_ge (tgt := 154) hx hb dX7_init_111 (by decide) (fun c0 => absurd c0 (by decide)) (fun _ => ?_)
  refine lv_aload_n hx hb dX7_init_114 rfl (lv_at hl 2 rfl) ?_
  refine va_get (D := (dC, dI)) (ci := 7) (v := .ref q1) (C := RX7) (T := TX7) (N := 16) hx hb hts gin_X7 hown hK hP 0 rfl rfl 0 (by decide) (hts _ mw_794) (fun _ h9 => h9) rfl dX7_init_115 ?_
  refine lv_iconst (v := 1) hx hb dX7_init_118 (by decide) ?_
  refine lv_iconst (v := 4) hx hb dX7_init_119 (by decide) ?_
  refine lv_iload_n hx hb dX7_init_120 rfl (lv_at hl 1 rfl) ?_
  refine lv_imul hx hb dX7_init_121 ?_
  refine lv_topi (fun z47 ez47 => ?_)
  obtain rfl : z47 = 4 := by rw [ez47]; decide
  refine lv_iadd hx hb dX7_init_122 ?_
  refine lv_topi (fun z48 ez48 => ?_)
  obtain rfl : z48 = 5 := by rw [ez48]; decide
  refine lv_iload_n hx hb dX7_init_123 rfl (lv_at hl 0 rfl) ?_
  refine lv_iadd hx hb dX7_init_124 ?_
  refine lv_topi (fun z49 ez49 => ?_)
  obtain rfl : z49 = 6 := by rw [ez49]; decide
  refine lv_iload_n hx hb dX7_init_125 rfl (lv_at hl 1 rfl) ?_
  refine lv_iconst (v := 2) hx hb dX7_init_126 (by decide) ?_
  refine lv_idiv hx hb dX7_init_127 (by decide) ?_
  refine lv_topi (fun z50 ez50 => ?_)
  obtain rfl : z50 = 0 := by rw [ez50]; decide
  refine lv_iload_n hx hb dX7_init_128 rfl (lv_at hl 0 rfl) ?_
  refine lv_icmp_ne (tgt := 146) hx hb dX7_init_129 (by decide) (fun _ => ?_) (fun c0 => absurd c0 (by decide))
  refine lv_iconst (v := 0) hx hb dX7_init_146 (by decide) ?_
  refine va_iast (D := (dC, dI)) hx hb hK hP hD hS 1 0 rfl rfl (by unfold vp_in; decide) dX7_init_147 (fun H locs hP hD hS => ?_)
  have hP : va_P (dC, dI) vwCl [(h0, .inr (7, [.ref q1, .ref q3, .int 0, .ref q5, .ref q7, .ref q9, .int 0, .int 0, .long 0, .long 1, .ref q11, .int 0, .ref q13, .ref q15, .ref q17, .ref q19])), (q1, .inl (c2, 129, .inl (upd (upd (upd (upd (upd (upd (upd (fun _ => 0) (Int32.toNatClampNeg 0) 6) (Int32.toNatClampNeg 1) 1) (Int32.toNatClampNeg 2) 0) (Int32.toNatClampNeg 3) 0) (Int32.toNatClampNeg 4) 20) (Int32.toNatClampNeg 5) (-1)) (Int32.toNatClampNeg 6) 0))), (q3, .inl (c4, 645, .inl (fun _ => 0))), (q5, .inl (c6, 129, .inl (fun _ => 0))), (q7, .inl (c8, 3, .inl (fun _ => 0))), (q9, .inl (c10, 120, .inl (fun _ => 0))), (q11, .inl (c12, 320, .inl (fun _ => 0))), (q13, .inl (c14, 32, .inl (fun _ => 0))), (q15, .inl (c16, 343, .inl (fun _ => 0))), (q17, .inl (c18, 3, .inl (fun _ => 0))), (q19, .inl (c20, 3, .inl (fun _ => 0)))] H := hP
  have hD : va_D A [(h0, .inr (7, [.ref q1, .ref q3, .int 0, .ref q5, .ref q7, .ref q9, .int 0, .int 0, .long 0, .long 1, .ref q11, .int 0, .ref q13, .ref q15, .ref q17, .ref q19])), (q1, .inl (c2, 129, .inl (upd (upd (upd (upd (upd (upd (upd (fun _ => 0) (Int32.toNatClampNeg 0) 6) (Int32.toNatClampNeg 1) 1) (Int32.toNatClampNeg 2) 0) (Int32.toNatClampNeg 3) 0) (Int32.toNatClampNeg 4) 20) (Int32.toNatClampNeg 5) (-1)) (Int32.toNatClampNeg 6) 0))), (q3, .inl (c4, 645, .inl (fun _ => 0))), (q5, .inl (c6, 129, .inl (fun _ => 0))), (q7, .inl (c8, 3, .inl (fun _ => 0))), (q9, .inl (c10, 120, .inl (fun _ => 0))), (q11, .inl (c12, 320, .inl (fun _ => 0))), (q13, .inl (c14, 32, .inl (fun _ => 0))), (q15, .inl (c16, 343, .inl (fun _ => 0))), (q17, .inl (c18, 3, .inl (fun _ => 0))), (q19, .inl (c20, 3, .inl (fun _ => 0)))] := hD
  refine lv_iinc (v := 2) (lv' := [(2, .int 2), (1, .int 1), (0, .ref h0)]) hx hb dX7_init_148 hl (k := 0) rfl (by decide) (by decide) rfl (fun ls hl => ?_)
  refine lv_goto (tgt := 109) hx hb dX7_init_151 (by decide) ?_
  refine lv_iload_n hx hb dX7_init_109 rfl (lv_at hl 0 rfl) ?_
  refine lv_iconst (v := 3) hx hb dX7_init_110 (by decide) ?_
  refine lv_icmp_ge (tgt := 154) hx hb dX7_init_111 (by decide) (fun c0 => absurd c0 (by decide)) (fun _ => ?_)
  refine lv_aload_n hx hb dX7_init_114 rfl (lv_at hl 2 rfl) ?_
  refine va_get (D := (dC, dI)) (ci := 7) (v := .ref q1) (C := RX7) (T := TX7) (N := 16) hx hb hts gin_X7 hown hK hP 0 rfl rfl 0 (by decide) (hts _ mw_794) (fun _ h9 => h9) rfl dX7_init_115 ?_
  refine lv_iconst (v := 1) hx hb dX7_init_118 (by decide) ?_
  refine lv_iconst (v := 4) hx hb dX7_init_119 (by decide) ?_
  refine lv_iload_n hx hb dX7_init_120 rfl (lv_at hl 1 rfl) ?_
  refine lv_imul hx hb dX7_init_121 ?_
  refine lv_topi (fun z52 ez52 => ?_)
  obtain rfl : z52 = 4 := by rw [ez52]; decide
  refine lv_iadd hx hb dX7_init_122 ?_
  refine lv_topi (fun z53 ez53 => ?_)
  obtain rfl : z53 = 5 := by rw [ez53]; decide
  refine lv_iload_n hx hb dX7_init_123 rfl (lv_at hl 0 rfl) ?_
  refine lv_iadd hx hb dX7_init_124 ?_
  refine lv_topi (fun z54 ez54 => ?_)
  obtain rfl : z54 = 7 := by rw [ez54]; decide
  refine lv_iload_n hx hb dX7_init_125 rfl (lv_at hl 1 rfl) ?_
  refine lv_iconst (v := 2) hx hb dX7_init_126 (by decide) ?_
  refine lv_idiv hx hb dX7_init_127 (by decide) ?_
  refine lv_topi (fun z55 ez55 => ?_)
  obtain rfl : z55 = 0 := by rw [ez55]; decide
  refine lv_iload_n hx hb dX7_init_128 rfl (lv_at hl 0 rfl) ?_
  refine lv_icmp_ne (tgt := 146) hx hb dX7_init_129 (by decide) (fun _ => ?_) (fun c0 => absurd c0 (by decide))
  refine lv_iconst (v := 0) hx hb dX7_init_146 (by decide) ?_
  refine va_iast (D := (dC, dI)) hx hb hK hP hD hS 1 0 rfl rfl (by unfold vp_in; decide) dX7_init_147 (fun H locs hP hD hS => ?_)
  have hP : va_P (dC, dI) vwCl [(h0, .inr (7, [.ref q1, .ref q3, .int 0, .ref q5, .ref q7, .ref q9, .int 0, .int 0, .long 0, .long 1, .ref q11, .int 0, .ref q13, .ref q15, .ref q17, .ref q19])), (q1, .inl (c2, 129, .inl (upd (upd (upd (upd (upd (upd (upd (upd (fun _ => 0) (Int32.toNatClampNeg 0) 6) (Int32.toNatClampNeg 1) 1) (Int32.toNatClampNeg 2) 0) (Int32.toNatClampNeg 3) 0) (Int32.toNatClampNeg 4) 20) (Int32.toNatClampNeg 5) (-1)) (Int32.toNatClampNeg 6) 0) (Int32.toNatClampNeg 7) 0))), (q3, .inl (c4, 645, .inl (fun _ => 0))), (q5, .inl (c6, 129, .inl (fun _ => 0))), (q7, .inl (c8, 3, .inl (fun _ => 0))), (q9, .inl (c10, 120, .inl (fun _ => 0))), (q11, .inl (c12, 320, .inl (fun _ => 0))), (q13, .inl (c14, 32, .inl (fun _ => 0))), (q15, .inl (c16, 343, .inl (fun _ => 0))), (q17, .inl (c18, 3, .inl (fun _ => 0))), (q19, .inl (c20, 3, .inl (fun _ => 0)))] H := hP
  have hD : va_D A [(h0, .inr (7, [.ref q1, .ref q3, .int 0, .ref q5, .ref q7, .ref q9, .int 0, .int 0, .long 0, .long 1, .ref q11, .int 0, .ref q13, .ref q15, .ref q17, .ref q19])), (q1, .inl (c2, 129, .inl (upd (upd (upd (upd (upd (upd (upd (upd (fun _ => 0) (Int32.toNatClampNeg 0) 6) (Int32.toNatClampNeg 1) 1) (Int32.toNatClampNeg 2) 0) (Int32.toNatClampNeg 3) 0) (Int32.toNatClampNeg 4) 20) (Int32.toNatClampNeg 5) (-1)) (Int32.toNatClampNeg 6) 0) (Int32.toNatClampNeg 7) 0))), (q3, .inl (c4, 645, .inl (fun _ => 0))), (q5, .inl (c6, 129, .inl (fun _ => 0))), (q7, .inl (c8, 3, .inl (fun _ => 0))), (q9, .inl (c10, 120, .inl (fun _ => 0))), (q11, .inl (c12, 320, .inl (fun _ => 0))), (q13, .inl (c14, 32, .inl (fun _ => 0))), (q15, .inl (c16, 343, .inl (fun _ => 0))), (q17, .inl (c18, 3, .inl (fun _ => 0))), (q19, .inl (c20, 3, .inl (fun _ => 0)))] := hD
  refine lv_iinc (v := 3) (lv' := [(2, .int 3), (1, .int 1), (0, .ref h0)]) hx hb dX7_init_148 hl (k := 0) rfl (by decide) (by decide) rfl (fun ls hl => ?_)
  refine lv_goto (tgt := 109) hx hb dX7_init_151 (by decide) ?_
  refine lv_iload_n hx hb dX7_init_109 rfl (lv_at hl 0 rfl) ?_
  refine lv_iconst (v := 3) hx hb dX7_init_110 (by decide) ?_
  refine lv_icmp_ge (tgt := 154) hx hb dX7_init_111 (by decide) (fun _ => ?_) (fun c0 => absurd (by decide) c0)
  refine lv_aload_n hx hb dX7_init_154 rfl (lv_at hl 2 rfl) ?_
  refine va_get (D := (dC, dI)) (ci := 7) (v := .ref q1) (C := RX7) (T := TX7) (N := 16) hx hb hts gin_X7 hown hK hP 0 rfl rfl 0 (by decide) (hts _ mw_794) (fun _ h9 => h9) rfl dX7_init_155 ?_
  refine lv_iconst (v := 4) hx hb dX7_init_158 (by decide) ?_
  refine lv_iconst (v := 4) hx hb dX7_init_159 (by decide) ?_
  refine lv_iload_n hx hb dX7_init_160 rfl (lv_at hl 1 rfl) ?_
  refine lv_imul hx hb dX7_init_161 ?_
  refine lv_topi (fun z57 ez57 => ?_)
  obtain rfl : z57 = 4 := by rw [ez57]; decide
  refine lv_iadd hx hb dX7_init_162 ?_
  refine lv_topi (fun z58 ez58 => ?_)
  obtain rfl : z58 = 8 := by rw [ez58]; decide
  refine lv_bipush (v := 20) hx hb dX7_init_163 (by decide) ?_
  refine va_iast (D := (dC, dI)) hx hb hK hP hD hS 1 0 rfl rfl (by unfold vp_in; decide) dX7_init_165 (fun H locs hP hD hS => ?_)
  have hP : va_P (dC, dI) vwCl [(h0, .inr (7, [.ref q1, .ref q3, .int 0, .ref q5, .ref q7, .ref q9, .int 0, .int 0, .long 0, .long 1, .ref q11, .int 0, .ref q13, .ref q15, .ref q17, .ref q19])), (q1, .inl (c2, 129, .inl (upd (upd (upd (upd (upd (upd (upd (upd (upd (fun _ => 0) (Int32.toNatClampNeg 0) 6) (Int32.toNatClampNeg 1) 1) (Int32.toNatClampNeg 2) 0) (Int32.toNatClampNeg 3) 0) (Int32.toNatClampNeg 4) 20) (Int32.toNatClampNeg 5) (-1)) (Int32.toNatClampNeg 6) 0) (Int32.toNatClampNeg 7) 0) (Int32.toNatClampNeg 8) 20))), (q3, .inl (c4, 645, .inl (fun _ => 0))), (q5, .inl (c6, 129, .inl (fun _ => 0))), (q7, .inl (c8, 3, .inl (fun _ => 0))), (q9, .inl (c10, 120, .inl (fun _ => 0))), (q11, .inl (c12, 320, .inl (fun _ => 0))), (q13, .inl (c14, 32, .inl (fun _ => 0))), (q15, .inl (c16, 343, .inl (fun _ => 0))), (q17, .inl (c18, 3, .inl (fun _ => 0))), (q19, .inl (c20, 3, .inl (fun _ => 0)))] H := hP
  have hD : va_D A [(h0, .inr (7, [.ref q1, .ref q3, .int 0, .ref q5, .ref q7, .ref q9, .int 0, .int 0, .long 0, .long 1, .ref q11, .int 0, .ref q13, .ref q15, .ref q17, .ref q19])), (q1, .inl (c2, 129, .inl (upd (upd (upd (upd (upd (upd (upd (upd (upd (fun _ => 0) (Int32.toNatClampNeg 0) 6) (Int32.toNatClampNeg 1) 1) (Int32.toNatClampNeg 2) 0) (Int32.toNatClampNeg 3) 0) (Int32.toNatClampNeg 4) 20) (Int32.toNatClampNeg 5) (-1)) (Int32.toNatClampNeg 6) 0) (Int32.toNatClampNeg 7) 0) (Int32.toNatClampNeg 8) 20))), (q3, .inl (c4, 645, .inl (fun _ => 0))), (q5, .inl (c6, 129, .inl (fun _ => 0))), (q7, .inl (c8, 3, .inl (fun _ => 0))), (q9, .inl (c10, 120, .inl (fun _ => 0))), (q11, .inl (c12, 320, .inl (fun _ => 0))), (q13, .inl (c14, 32, .inl (fun _ => 0))), (q15, .inl (c16, 343, .inl (fun _ => 0))), (q17, .inl (c18, 3, .inl (fun _ => 0))), (q19, .inl (c20, 3, .inl (fun _ => 0)))] := hD
  refine lv_iinc (v := 2) (lv' := [(1, .int 2), (2, .int 3), (0, .ref h0)]) hx hb dX7_init_166 hl (k := 1) rfl (by decide) (by decide) rfl (fun ls hl => ?_)
  refine lv_goto (tgt := 101) hx hb dX7_init_169 (by decide) ?_
  refine lv_iload_n hx hb dX7_init_101 rfl (lv_at hl 0 rfl) ?_
  refine lv_bipush (v := 6) hx hb dX7_init_102 (by decide) ?_
  refine lv_icmp_ge (tgt := 172) hx hb dX7_init_104 (by decide) (fun c0 => absurd c0 (by decide)) (fun _ => ?_)
  refine lv_iconst (v := 0) hx hb dX7_init_107 (by decide) ?_
  refine lv_istore_n (lv' := [(2, .int 0), (1, .int 2), (0, .ref h0)]) hx hb dX7_init_108 rfl hl (by decide) rfl (fun ls hl => ?_)
  refine lv_iload_n hx hb dX7_init_109 rfl (lv_at hl 0 rfl) ?_
  refine lv_iconst (v := 3) hx hb dX7_init_110 (by decide) ?_
  refine lv_icmp_ge (tgt := 154) hx hb dX7_init_111 (by decide) (fun c0 => absurd c0 (by decide)) (fun _ => ?_)
  refine lv_aload_n hx hb dX7_init_114 rfl (lv_at hl 2 rfl) ?_
  refine va_get (D := (dC, dI)) (ci := 7) (v := .ref q1) (C := RX7) (T := TX7) (N := 16) hx hb hts gin_X7 hown hK hP 0 rfl rfl 0 (by decide) (hts _ mw_794) (fun _ h9 => h9) rfl dX7_init_115 ?_
  refine lv_iconst (v := 1) hx hb dX7_init_118 (by decide) ?_
  refine lv_iconst (v := 4) hx hb dX7_init_119 (by decide) ?_
  refine lv_iload_n hx hb dX7_init_120 rfl (lv_at hl 1 rfl) ?_
  refine lv_imul hx hb dX7_init_121 ?_
  refine lv_topi (fun z60 ez60 => ?_)
  obtain rfl : z60 = 8 := by rw [ez60]; decide
  refine lv_iadd hx hb dX7_init_122 ?_
  refine lv_topi (fun z61 ez61 => ?_)
  obtain rfl : z61 = 9 := by rw [ez61]; decide
  refine lv_iload_n hx hb dX7_init_123 rfl (lv_at hl 0 rfl) ?_
  refine lv_iadd hx hb dX7_init_124 ?_
  refine lv_topi (fun z62 ez62 => ?_)
  obtain rfl : z62 = 9 := by rw [ez62]; decide
  refine lv_iload_n hx hb dX7_init_125 rfl (lv_at hl 1 rfl) ?_
  refine lv_iconst (v := 2) hx hb dX7_init_126 (by decide) ?_
  refine lv_idiv hx hb dX7_init_127 (by decide) ?_
  refine lv_topi (fun z63 ez63 => ?_)
  obtain rfl : z63 = 1 := by rw [ez63]; decide
  refine lv_iload_n hx hb dX7_init_128 rfl (lv_at hl 0 rfl) ?_
  refine lv_icmp_ne (tgt := 146) hx hb dX7_init_129 (by decide) (fun _ => ?_) (fun c0 => absurd c0 (by decide))
  refine lv_iconst (v := 0) hx hb dX7_init_146 (by decide) ?_
  refine va_iast (D := (dC, dI)) hx hb hK hP hD hS 1 0 rfl rfl (by unfold vp_in; decide) dX7_init_147 (fun H locs hP hD hS => ?_)
  have hP : va_P (dC, dI) vwCl [(h0, .inr (7, [.ref q1, .ref q3, .int 0, .ref q5, .ref q7, .ref q9, .int 0, .int 0, .long 0, .long 1, .ref q11, .int 0, .ref q13, .ref q15, .ref q17, .ref q19])), (q1, .inl (c2, 129, .inl (upd (upd (upd (upd (upd (upd (upd (upd (upd (upd (fun _ => 0) (Int32.toNatClampNeg 0) 6) (Int32.toNatClampNeg 1) 1) (Int32.toNatClampNeg 2) 0) (Int32.toNatClampNeg 3) 0) (Int32.toNatClampNeg 4) 20) (Int32.toNatClampNeg 5) (-1)) (Int32.toNatClampNeg 6) 0) (Int32.toNatClampNeg 7) 0) (Int32.toNatClampNeg 8) 20) (Int32.toNatClampNeg 9) 0))), (q3, .inl (c4, 645, .inl (fun _ => 0))), (q5, .inl (c6, 129, .inl (fun _ => 0))), (q7, .inl (c8, 3, .inl (fun _ => 0))), (q9, .inl (c10, 120, .inl (fun _ => 0))), (q11, .inl (c12, 320, .inl (fun _ => 0))), (q13, .inl (c14, 32, .inl (fun _ => 0))), (q15, .inl (c16, 343, .inl (fun _ => 0))), (q17, .inl (c18, 3, .inl (fun _ => 0))), (q19, .inl (c20, 3, .inl (fun _ => 0)))] H := hP
  have hD : va_D A [(h0, .inr (7, [.ref q1, .ref q3, .int 0, .ref q5, .ref q7, .ref q9, .int 0, .int 0, .long 0, .long 1, .ref q11, .int 0, .ref q13, .ref q15, .ref q17, .ref q19])), (q1, .inl (c2, 129, .inl (upd (upd (upd (upd (upd (upd (upd (upd (upd (upd (fun _ => 0) (Int32.toNatClampNeg 0) 6) (Int32.toNatClampNeg 1) 1) (Int32.toNatClampNeg 2) 0) (Int32.toNatClampNeg 3) 0) (Int32.toNatClampNeg 4) 20) (Int32.toNatClampNeg 5) (-1)) (Int32.toNatClampNeg 6) 0) (Int32.toNatClampNeg 7) 0) (Int32.toNatClampNeg 8) 20) (Int32.toNatClampNeg 9) 0))), (q3, .inl (c4, 645, .inl (fun _ => 0))), (q5, .inl (c6, 129, .inl (fun _ => 0))), (q7, .inl (c8, 3, .inl (fun _ => 0))), (q9, .inl (c10, 120, .inl (fun _ => 0))), (q11, .inl (c12, 320, .inl (fun _ => 0))), (q13, .inl (c14, 32, .inl (fun _ => 0))), (q15, .inl (c16, 343, .inl (fun _ => 0))), (q17, .inl (c18, 3, .inl (fun _ => 0))), (q19, .inl (c20, 3, .inl (fun _ => 0)))] := hD
  refine lv_iinc (v := 1) (lv' := [(2, .int 1), (1, .int 2), (0, .ref h0)]) hx hb dX7_init_148 hl (k := 0) rfl (by decide) (by decide) rfl (fun ls hl => ?_)
  refine lv_goto (tgt := 109) hx hb dX7_init_151 (by decide) ?_
  refine lv_iload_n hx hb dX7_init_109 rfl (lv_at hl 0 rfl) ?_
  refine lv_iconst (v := 3) hx hb dX7_init_110 (by decide) ?_
  refine lv_icmp_ge (tgt := 154) hx hb dX7_init_111 (by decide) (fun c0 => absurd c0 (by decide)) (fun _ => ?_)
  refine lv_aload_n hx hb dX7_init_114 rfl (lv_at hl 2 rfl) ?_
  refine va_get (D := (dC, dI)) (ci := 7) (v := .ref q1) (C := RX7) (T := TX7) (N := 16) hx hb hts gin_X7 hown hK hP 0 rfl rfl 0 (by decide) (hts _ mw_794) (fun _ h9 => h9) rfl dX7_init_115 ?_
  refine lv_iconst (v := 1) hx hb dX7_init_118 (by decide) ?_
  refine lv_iconst (v := 4) hx hb dX7_init_119 (by decide) ?_
  refine lv_iload_n hx hb dX7_init_120 rfl (lv_at hl 1 rfl) ?_
  refine lv_imul hx hb dX7_init_121 ?_
  refine lv_topi (fun z65 ez65 => ?_)
  obtain rfl : z65 = 8 := by rw [ez65]; decide
  refine lv_iadd hx hb dX7_init_122 ?_
  refine lv_topi (fun z66 ez66 => ?_)
  obtain rfl : z66 = 9 := by rw [ez66]; decide
  refine lv_iload_n hx hb dX7_init_123 rfl (lv_at hl 0 rfl) ?_
  refine lv_iadd hx hb dX7_init_124 ?_
  refine lv_topi (fun z67 ez67 => ?_)
  obtain rfl : z67 = 10 := by rw [ez67]; decide
  refine lv_iload_n hx hb dX7_init_125 rfl (lv_at hl 1 rfl) ?_
  refine lv_iconst (v := 2) hx hb dX7_init_126 (by decide) ?_
  refine lv_idiv hx hb dX7_init_127 (by decide) ?_
  refine lv_topi (fun z68 ez68 => ?_)
  obtain rfl : z68 = 1 := by rw [ez68]; decide
  refine lv_iload_n hx hb dX7_init_128 rfl (lv_at hl 0 rfl) ?_
  refine lv_icmp_ne (tgt := 146) hx hb dX7_init_129 (by decide) (fun c0 => absurd c0 (by decide)) (fun _ => ?_)
  refine lv_iload_n hx hb dX7_init_132 rfl (lv_at hl 1 rfl) ?_
  refine lv_iconst (v := 2) hx hb dX7_init_133 (by decide) ?_
  refine lv_irem hx hb dX7_init_134 (by decide) ?_
  refine lv_topi (fun z69 ez69 => ?_)
  obtain rfl : z69 = 0 := by rw [ez69]; decide
  refine lv_if_ne (tgt := 142) hx hb dX7_init_135 (by decide) (fun c0 => absurd c0 (by decide)) (fun _ => ?_)
  refine lv_iconst (v := 1) hx hb dX7_init_138 (by decide) ?_
  refine lv_goto (tgt := 147) hx hb dX7_init_139 (by decide) ?_
  refine va_iast (D := (dC, dI)) hx hb hK hP hD hS 1 0 rfl rfl (by unfold vp_in; decide) dX7_init_147 (fun H locs hP hD hS => ?_)
  have hP : va_P (dC, dI) vwCl [(h0, .inr (7, [.ref q1, .ref q3, .int 0, .ref q5, .ref q7, .ref q9, .int 0, .int 0, .long 0, .long 1, .ref q11, .int 0, .ref q13, .ref q15, .ref q17, .ref q19])), (q1, .inl (c2, 129, .inl (upd (upd (upd (upd (upd (upd (upd (upd (upd (upd (upd (fun _ => 0) (Int32.toNatClampNeg 0) 6) (Int32.toNatClampNeg 1) 1) (Int32.toNatClampNeg 2) 0) (Int32.toNatClampNeg 3) 0) (Int32.toNatClampNeg 4) 20) (Int32.toNatClampNeg 5) (-1)) (Int32.toNatClampNeg 6) 0) (Int32.toNatClampNeg 7) 0) (Int32.toNatClampNeg 8) 20) (Int32.toNatClampNeg 9) 0) (Int32.toNatClampNeg 10) 1))), (q3, .inl (c4, 645, .inl (fun _ => 0))), (q5, .inl (c6, 129, .inl (fun _ => 0))), (q7, .inl (c8, 3, .inl (fun _ => 0))), (q9, .inl (c10, 120, .inl (fun _ => 0))), (q11, .inl (c12, 320, .inl (fun _ => 0))), (q13, .inl (c14, 32, .inl (fun _ => 0))), (q15, .inl (c16, 343, .inl (fun _ => 0))), (q17, .inl (c18, 3, .inl (fun _ => 0))), (q19, .inl (c20, 3, .inl (fun _ => 0)))] H := hP
  have hD : va_D A [(h0, .inr (7, [.ref q1, .ref q3, .int 0, .ref q5, .ref q7, .ref q9, .int 0, .int 0, .long 0, .long 1, .ref q11, .int 0, .ref q13, .ref q15, .ref q17, .ref q19])), (q1, .inl (c2, 129, .inl (upd (upd (upd (upd (upd (upd (upd (upd (upd (upd (upd (fun _ => 0) (Int32.toNatClampNeg 0) 6) (Int32.toNatClampNeg 1) 1) (Int32.toNatClampNeg 2) 0) (Int32.toNatClampNeg 3) 0) (Int32.toNatClampNeg 4) 20) (Int32.toNatClampNeg 5) (-1)) (Int32.toNatClampNeg 6) 0) (Int32.toNatClampNeg 7) 0) (Int32.toNatClampNeg 8) 20) (Int32.toNatClampNeg 9) 0) (Int32.toNatClampNeg 10) 1))), (q3, .inl (c4, 645, .inl (fun _ => 0))), (q5, .inl (c6, 129, .inl (fun _ => 0))), (q7, .inl (c8, 3, .inl (fun _ => 0))), (q9, .inl (c10, 120, .inl (fun _ => 0))), (q11, .inl (c12, 320, .inl (fun _ => 0))), (q13, .inl (c14, 32, .inl (fun _ => 0))), (q15, .inl (c16, 343, .inl (fun _ => 0))), (q17, .inl (c18, 3, .inl (fun _ => 0))), (q19, .inl (c20, 3, .inl (fun _ => 0)))] := hD
  refine lv_iinc (v := 2) (lv' := [(2, .int 2), (1, .int 2), (0, .ref h0)]) hx hb dX7_init_148 hl (k := 0) rfl (by decide) (by decide) rfl (fun ls hl => ?_)
  refine lv_goto (tgt := 109) hx hb dX7_init_151 (by decide) ?_
  refine lv_iload_n hx hb dX7_init_109 rfl (lv_at hl 0 rfl) ?_
  refine lv_iconst (v := 3) hx hb dX7_init_110 (by decide) ?_
  refine lv_icmp_ge (tgt := 154) hx hb dX7_init_111 (by decide) (fun c0 => absurd c0 (by decide)) (fun _ => ?_)
  refine lv_aload_n hx hb dX7_init_114 rfl (lv_at hl 2 rfl) ?_
  refine va_get (D := (dC, dI)) (ci := 7) (v := .ref q1) (C := RX7) (T := TX7) (N := 16) hx hb hts gin_X7 hown hK hP 0 rfl rfl 0 (by decide) (hts _ mw_794) (fun _ h9 => h9) rfl dX7_init_115 ?_
  refine lv_iconst (v := 1) hx hb dX7_init_118 (by decide) ?_
  refine lv_iconst (v := 4) hx hb dX7_init_119 (by decide) ?_
  refine lv_iload_n hx hb dX7_init_120 rfl (lv_at hl 1 rfl) ?_
  refine lv_imul hx hb dX7_init_121 ?_
  refine lv_topi (fun z71 ez71 => ?_)
  obtain rfl : z71 = 8 := by rw [ez71]; decide
  refine lv_iadd hx hb dX7_init_122 ?_
  refine lv_topi (fun z72 ez72 => ?_)
  obtain rfl : z72 = 9 := by rw [ez72]; decide
  refine lv_iload_n hx hb dX7_init_123 rfl (lv_at hl 0 rfl) ?_
  refine lv_iadd hx hb dX7_init_124 ?_
  refine lv_topi (fun z73 ez73 => ?_)
  obtain rfl : z73 = 11 := by rw [ez73]; decide
  refine lv_iload_n hx hb dX7_init_125 rfl (lv_at hl 1 rfl) ?_
  refine lv_iconst (v := 2) hx hb dX7_init_126 (by decide) ?_
  refine lv_idiv hx hb dX7_init_127 (by decide) ?_
  refine lv_topi (fun z74 ez74 => ?_)
  obtain rfl : z74 = 1 := by rw [ez74]; decide
  refine lv_iload_n hx hb dX7_init_128 rfl (lv_at hl 0 rfl) ?_
  refine lv_icmp_ne (tgt := 146) hx hb dX7_init_129 (by decide) (fun _ => ?_) (fun c0 => absurd c0 (by decide))
  refine lv_iconst (v := 0) hx hb dX7_init_146 (by decide) ?_
  refine va_iast (D := (dC, dI)) hx hb hK hP hD hS 1 0 rfl rfl (by unfold vp_in; decide) dX7_init_147 (fun H locs hP hD hS => ?_)
  have hP : va_P (dC, dI) vwCl [(h0, .inr (7, [.ref q1, .ref q3, .int 0, .ref q5, .ref q7, .ref q9, .int 0, .int 0, .long 0, .long 1, .ref q11, .int 0, .ref q13, .ref q15, .ref q17, .ref q19])), (q1, .inl (c2, 129, .inl (upd (upd (upd (upd (upd (upd (upd (upd (upd (upd (upd (upd (fun _ => 0) (Int32.toNatClampNeg 0) 6) (Int32.toNatClampNeg 1) 1) (Int32.toNatClampNeg 2) 0) (Int32.toNatClampNeg 3) 0) (Int32.toNatClampNeg 4) 20) (Int32.toNatClampNeg 5) (-1)) (Int32.toNatClampNeg 6) 0) (Int32.toNatClampNeg 7) 0) (Int32.toNatClampNeg 8) 20) (Int32.toNatClampNeg 9) 0) (Int32.toNatClampNeg 10) 1) (Int32.toNatClampNeg 11) 0))), (q3, .inl (c4, 645, .inl (fun _ => 0))), (q5, .inl (c6, 129, .inl (fun _ => 0))), (q7, .inl (c8, 3, .inl (fun _ => 0))), (q9, .inl (c10, 120, .inl (fun _ => 0))), (q11, .inl (c12, 320, .inl (fun _ => 0))), (q13, .inl (c14, 32, .inl (fun _ => 0))), (q15, .inl (c16, 343, .inl (fun _ => 0))), (q17, .inl (c18, 3, .inl (fun _ => 0))), (q19, .inl (c20, 3, .inl (fun _ => 0)))] H := hP
  have hD : va_D A [(h0, .inr (7, [.ref q1, .ref q3, .int 0, .ref q5, .ref q7, .ref q9, .int 0, .int 0, .long 0, .long 1, .ref q11, .int 0, .ref q13, .ref q15, .ref q17, .ref q19])), (q1, .inl (c2, 129, .inl (upd (upd (upd (upd (upd (upd (upd (upd (upd (upd (upd (upd (fun _ => 0) (Int32.toNatClampNeg 0) 6) (Int32.toNatClampNeg 1) 1) (Int32.toNatClampNeg 2) 0) (Int32.toNatClampNeg 3) 0) (Int32.toNatClampNeg 4) 20) (Int32.toNatClampNeg 5) (-1)) (Int32.toNatClampNeg 6) 0) (Int32.toNatClampNeg 7) 0) (Int32.toNatClampNeg 8) 20) (Int32.toNatClampNeg 9) 0) (Int32.toNatClampNeg 10) 1) (Int32.toNatClampNeg 11) 0))), (q3, .inl (c4, 645, .inl (fun _ => 0))), (q5, .inl (c6, 129, .inl (fun _ => 0))), (q7, .inl (c8, 3, .inl (fun _ => 0))), (q9, .inl (c10, 120, .inl (fun _ => 0))), (q11, .inl (c12, 320, .inl (fun _ => 0))), (q13, .inl (c14, 32, .inl (fun _ => 0))), (q15, .inl (c16, 343, .inl (fun _ => 0))), (q17, .inl (c18, 3, .inl (fun _ => 0))), (q19, .inl (c20, 3, .inl (fun _ => 0)))] := hD
  refine lv_iinc (v := 3) (lv' := [(2, .int 3), (1, .int 2), (0, .ref h0)]) hx hb dX7_init_148 hl (k := 0) rfl (by decide) (by decide) rfl (fun ls hl => ?_)
  refine lv_goto (tgt := 109) hx hb dX7_init_151 (by decide) ?_
  refine lv_iload_n hx hb dX7_init_109 rfl (lv_at hl 0 rfl) ?_
  refine lv_iconst (v := 3) hx hb dX7_init_110 (by decide) ?_
  refine lv_icmp_ge (tgt := 154) hx hb dX7_init_111 (by decide) (fun _ => ?_) (fun c0 => absurd (by decide) c0)
  refine lv_aload_n hx hb dX7_init_154 rfl (lv_at hl 2 rfl) ?_
  refine va_get (D := (dC, dI)) (ci := 7) (v := .ref q1) (C := RX7) (T := TX7) (N := 16) hx hb hts gin_X7 hown hK hP 0 rfl rfl 0 (by decide) (hts _ mw_794) (fun _ h9 => h9) rfl dX7_init_155 ?_
  refine lv_iconst (v := 4) hx hb dX7_init_158 (by decide) ?_
  refine lv_iconst (v := 4) hx hb dX7_init_159 (by decide) ?_
  refine lv_iload_n hx hb dX7_init_160 rfl (lv_at hl 1 rfl) ?_
  refine lv_imul hx hb dX7_init_161 ?_
  refine lv_topi (fun z76 ez76 => ?_)
  obtain rfl : z76 = 8 := by rw [ez76]; decide
  refine lv_iadd hx hb dX7_init_162 ?_
  refine lv_topi (fun z77 ez77 => ?_)
  obtain rfl : z77 = 12 := by rw [ez77]; decide
  refine lv_bipush (v := 20) hx hb dX7_init_163 (by decide) ?_
  refine va_iast (D := (dC, dI)) hx hb hK hP hD hS 1 0 rfl rfl (by unfold vp_in; decide) dX7_init_165 (fun H locs hP hD hS => ?_)
  have hP : va_P (dC, dI) vwCl [(h0, .inr (7, [.ref q1, .ref q3, .int 0, .ref q5, .ref q7, .ref q9, .int 0, .int 0, .long 0, .long 1, .ref q11, .int 0, .ref q13, .ref q15, .ref q17, .ref q19])), (q1, .inl (c2, 129, .inl (upd (upd (upd (upd (upd (upd (upd (upd (upd (upd (upd (upd (upd (fun _ => 0) (Int32.toNatClampNeg 0) 6) (Int32.toNatClampNeg 1) 1) (Int32.toNatClampNeg 2) 0) (Int32.toNatClampNeg 3) 0) (Int32.toNatClampNeg 4) 20) (Int32.toNatClampNeg 5) (-1)) (Int32.toNatClampNeg 6) 0) (Int32.toNatClampNeg 7) 0) (Int32.toNatClampNeg 8) 20) (Int32.toNatClampNeg 9) 0) (Int32.toNatClampNeg 10) 1) (Int32.toNatClampNeg 11) 0) (Int32.toNatClampNeg 12) 20))), (q3, .inl (c4, 645, .inl (fun _ => 0))), (q5, .inl (c6, 129, .inl (fun _ => 0))), (q7, .inl (c8, 3, .inl (fun _ => 0))), (q9, .inl (c10, 120, .inl (fun _ => 0))), (q11, .inl (c12, 320, .inl (fun _ => 0))), (q13, .inl (c14, 32, .inl (fun _ => 0))), (q15, .inl (c16, 343, .inl (fun _ => 0))), (q17, .inl (c18, 3, .inl (fun _ => 0))), (q19, .inl (c20, 3, .inl (fun _ => 0)))] H := hP
  have hD : va_D A [(h0, .inr (7, [.ref q1, .ref q3, .int 0, .ref q5, .ref q7, .ref q9, .int 0, .int 0, .long 0, .long 1, .ref q11, .int 0, .ref q13, .ref q15, .ref q17, .ref q19])), (q1, .inl (c2, 129, .inl (upd (upd (upd (upd (upd (upd (upd (upd (upd (upd (upd (upd (upd (fun _ => 0) (Int32.toNatClampNeg 0) 6) (Int32.toNatClampNeg 1) 1) (Int32.toNatClampNeg 2) 0) (Int32.toNatClampNeg 3) 0) (Int32.toNatClampNeg 4) 20) (Int32.toNatClampNeg 5) (-1)) (Int32.toNatClampNeg 6) 0) (Int32.toNatClampNeg 7) 0) (Int32.toNatClampNeg 8) 20) (Int32.toNatClampNeg 9) 0) (Int32.toNatClampNeg 10) 1) (Int32.toNatClampNeg 11) 0) (Int32.toNatClampNeg 12) 20))), (q3, .inl (c4, 645, .inl (fun _ => 0))), (q5, .inl (c6, 129, .inl (fun _ => 0))), (q7, .inl (c8, 3, .inl (fun _ => 0))), (q9, .inl (c10, 120, .inl (fun _ => 0))), (q11, .inl (c12, 320, .inl (fun _ => 0))), (q13, .inl (c14, 32, .inl (fun _ => 0))), (q15, .inl (c16, 343, .inl (fun _ => 0))), (q17, .inl (c18, 3, .inl (fun _ => 0))), (q19, .inl (c20, 3, .inl (fun _ => 0)))] := hD
  refine lv_iinc (v := 3) (lv' := [(1, .int 3), (2, .int 3), (0, .ref h0)]) hx hb dX7_init_166 hl (k := 1) rfl (by decide) (by decide) rfl (fun ls hl => ?_)
  refine lv_goto (tgt := 101) hx hb dX7_init_169 (by decide) ?_
  refine lv_iload_n hx hb dX7_init_101 rfl (lv_at hl 0 rfl) ?_
  refine lv_bipush (v := 6) hx hb dX7_init_102 (by decide) ?_
  refine lv_icmp_ge (tgt := 172) hx hb dX7_init_104 (by decide) (fun c0 => absurd c0 (by decide)) (fun _ => ?_)
  refine lv_iconst (v := 0) hx hb dX7_init_107 (by decide) ?_
  refine lv_istore_n (lv' := [(2, .int 0), (1, .int 3), (0, .ref h0)]) hx hb dX7_init_108 rfl hl (by decide) rfl (fun ls hl => ?_)
  refine lv_iload_n hx hb dX7_init_109 rfl (lv_at hl 0 rfl) ?_
  refine lv_iconst (v := 3) hx hb dX7_init_110 (by decide) ?_
  refine lv_icmp_ge (tgt := 154) hx hb dX7_init_111 (by decide) (fun c0 => absurd c0 (by decide)) (fun _ => ?_)
  refine lv_aload_n hx hb dX7_init_114 rfl (lv_at hl 2 rfl) ?_
  refine va_get (D := (dC, dI)) (ci := 7) (v := .ref q1) (C := RX7) (T := TX7) (N := 16) hx hb hts gin_X7 hown hK hP 0 rfl rfl 0 (by decide) (hts _ mw_794) (fun _ h9 => h9) rfl dX7_init_115 ?_
  refine lv_iconst (v := 1) hx hb dX7_init_118 (by decide) ?_
  refine lv_iconst (v := 4) hx hb dX7_init_119 (by decide) ?_
  refine lv_iload_n hx hb dX7_init_120 rfl (lv_at hl 1 rfl) ?_
  refine lv_imul hx hb dX7_init_121 ?_
  refine lv_topi (fun z79 ez79 => ?_)
  obtain rfl : z79 = 12 := by rw [ez79]; decide
  refine lv_iadd hx hb dX7_init_122 ?_
  refine lv_topi (fun z80 ez80 => ?_)
  obtain rfl : z80 = 13 := by rw [ez80]; decide
  refine lv_iload_n hx hb dX7_init_123 rfl (lv_at hl 0 rfl) ?_
  refine lv_iadd hx hb dX7_init_124 ?_
  refine lv_topi (fun z81 ez81 => ?_)
  obtain rfl : z81 = 13 := by rw [ez81]; decide
  refine lv_iload_n hx hb dX7_init_125 rfl (lv_at hl 1 rfl) ?_
  refine lv_iconst (v := 2) hx hb dX7_init_126 (by decide) ?_
  refine lv_idiv hx hb dX7_init_127 (by decide) ?_
  refine lv_topi (fun z82 ez82 => ?_)
  obtain rfl : z82 = 1 := by rw [ez82]; decide
  refine lv_iload_n hx hb dX7_init_128 rfl (lv_at hl 0 rfl) ?_
  refine lv_icmp_ne (tgt := 146) hx hb dX7_init_129 (by decide) (fun _ => ?_) (fun c0 => absurd c0 (by decide))
  refine lv_iconst (v := 0) hx hb dX7_init_146 (by decide) ?_
  refine va_iast (D := (dC, dI)) hx hb hK hP hD hS 1 0 rfl rfl (by unfold vp_in; decide) dX7_init_147 (fun H locs hP hD hS => ?_)
  have hP : va_P (dC, dI) vwCl [(h0, .inr (7, [.ref q1, .ref q3, .int 0, .ref q5, .ref q7, .ref q9, .int 0, .int 0, .long 0, .long 1, .ref q11, .int 0, .ref q13, .ref q15, .ref q17, .ref q19])), (q1, .inl (c2, 129, .inl (upd (upd (upd (upd (upd (upd (upd (upd (upd (upd (upd (upd (upd (upd (fun _ => 0) (Int32.toNatClampNeg 0) 6) (Int32.toNatClampNeg 1) 1) (Int32.toNatClampNeg 2) 0) (Int32.toNatClampNeg 3) 0) (Int32.toNatClampNeg 4) 20) (Int32.toNatClampNeg 5) (-1)) (Int32.toNatClampNeg 6) 0) (Int32.toNatClampNeg 7) 0) (Int32.toNatClampNeg 8) 20) (Int32.toNatClampNeg 9) 0) (Int32.toNatClampNeg 10) 1) (Int32.toNatClampNeg 11) 0) (Int32.toNatClampNeg 12) 20) (Int32.toNatClampNeg 13) 0))), (q3, .inl (c4, 645, .inl (fun _ => 0))), (q5, .inl (c6, 129, .inl (fun _ => 0))), (q7, .inl (c8, 3, .inl (fun _ => 0))), (q9, .inl (c10, 120, .inl (fun _ => 0))), (q11, .inl (c12, 320, .inl (fun _ => 0))), (q13, .inl (c14, 32, .inl (fun _ => 0))), (q15, .inl (c16, 343, .inl (fun _ => 0))), (q17, .inl (c18, 3, .inl (fun _ => 0))), (q19, .inl (c20, 3, .inl (fun _ => 0)))] H := hP
  have hD : va_D A [(h0, .inr (7, [.ref q1, .ref q3, .int 0, .ref q5, .ref q7, .ref q9, .int 0, .int 0, .long 0, .long 1, .ref q11, .int 0, .ref q13, .ref q15, .ref q17, .ref q19])), (q1, .inl (c2, 129, .inl (upd (upd (upd (upd (upd (upd (upd (upd (upd (upd (upd (upd (upd (upd (fun _ => 0) (Int32.toNatClampNeg 0) 6) (Int32.toNatClampNeg 1) 1) (Int32.toNatClampNeg 2) 0) (Int32.toNatClampNeg 3) 0) (Int32.toNatClampNeg 4) 20) (Int32.toNatClampNeg 5) (-1)) (Int32.toNatClampNeg 6) 0) (Int32.toNatClampNeg 7) 0) (Int32.toNatClampNeg 8) 20) (Int32.toNatClampNeg 9) 0) (Int32.toNatClampNeg 10) 1) (Int32.toNatClampNeg 11) 0) (Int32.toNatClampNeg 12) 20) (Int32.toNatClampNeg 13) 0))), (q3, .inl (c4, 645, .inl (fun _ => 0))), (q5, .inl (c6, 129, .inl (fun _ => 0))), (q7, .inl (c8, 3, .inl (fun _ => 0))), (q9, .inl (c10, 120, .inl (fun _ => 0))), (q11, .inl (c12, 320, .inl (fun _ => 0))), (q13, .inl (c14, 32, .inl (fun _ => 0))), (q15, .inl (c16, 343, .inl (fun _ => 0))), (q17, .inl (c18, 3, .inl (fun _ => 0))), (q19, .inl (c20, 3, .inl (fun _ => 0)))] := hD
  refine lv_iinc (v := 1) (lv' := [(2, .int 1), (1, .int 3), (0, .ref h0)]) hx hb dX7_init_148 hl (k := 0) rfl (by decide) (by decide) rfl (fun ls hl => ?_)
  refine lv_goto (tgt := 109) hx hb dX7_init_151 (by decide) ?_
  refine lv_iload_n hx hb dX7_init_109 rfl (lv_at hl 0 rfl) ?_
  refine lv_iconst (v := 3) hx hb dX7_init_110 (by decide) ?_
  refine lv_icmp_ge (tgt := 154) hx hb dX7_init_111 (by decide) (fun c0 => absurd c0 (by decide)) (fun _ => ?_)
  refine lv_aload_n hx hb dX7_init_114 rfl (lv_at hl 2 rfl) ?_
  refine va_get (D := (dC, dI)) (ci := 7) (v := .ref q1) (C := RX7) (T := TX7) (N := 16) hx hb hts gin_X7 hown hK hP 0 rfl rfl 0 (by decide) (hts _ mw_794) (fun _ h9 => h9) rfl dX7_init_115 ?_
  refine lv_iconst (v := 1) hx hb dX7_init_118 (by decide) ?_
  refine lv_iconst (v := 4) hx hb dX7_init_119 (by decide) ?_
  refine lv_iload_n hx hb dX7_init_120 rfl (lv_at hl 1 rfl) ?_
  refine lv_imul hx hb dX7_init_121 ?_
  refine lv_topi (fun z84 ez84 => ?_)
  obtain rfl : z84 = 12 := by rw [ez84]; decide
  refine lv_iadd hx hb dX7_init_122 ?_
  refine lv_topi (fun z85 ez85 => ?_)
  obtain rfl : z85 = 13 := by rw [ez85]; decide
  refine lv_iload_n hx hb dX7_init_123 rfl (lv_at hl 0 rfl) ?_
  refine lv_iadd hx hb dX7_init_124 ?_
  refine lv_topi (fun z86 ez86 => ?_)
  obtain rfl : z86 = 14 := by rw [ez86]; decide
  refine lv_iload_n hx hb dX7_init_125 rfl (lv_at hl 1 rfl) ?_
  refine lv_iconst (v := 2) hx hb dX7_init_126 (by decide) ?_
  refine lv_idiv hx hb dX7_init_127 (by decide) ?_
  refine lv_topi (fun z87 ez87 => ?_)
  obtain rfl : z87 = 1 := by rw [ez87]; decide
  refine lv_iload_n hx hb dX7_init_128 rfl (lv_at hl 0 rfl) ?_
  refine lv_icmp_ne (tgt := 146) hx hb dX7_init_129 (by decide) (fun c0 => absurd c0 (by decide)) (fun _ => ?_)
  refine lv_iload_n hx hb dX7_init_132 rfl (lv_at hl 1 rfl) ?_
  refine lv_iconst (v := 2) hx hb dX7_init_133 (by decide) ?_
  refine lv_irem hx hb dX7_init_134 (by decide) ?_
  refine lv_topi (fun z88 ez88 => ?_)
  obtain rfl : z88 = 1 := by rw [ez88]; decide
  refine lv_if_ne (tgt := 142) hx hb dX7_init_135 (by decide) (fun _ => ?_) (fun c0 => absurd c0 (by decide))
  refine lv_iconst (v := (-1)) hx hb dX7_init_142 (by decide) ?_
  refine lv_goto (tgt := 147) hx hb dX7_init_143 (by decide) ?_
  refine va_iast (D := (dC, dI)) hx hb hK hP hD hS 1 0 rfl rfl (by unfold vp_in; decide) dX7_init_147 (fun H locs hP hD hS => ?_)
  have hP : va_P (dC, dI) vwCl [(h0, .inr (7, [.ref q1, .ref q3, .int 0, .ref q5, .ref q7, .ref q9, .int 0, .int 0, .long 0, .long 1, .ref q11, .int 0, .ref q13, .ref q15, .ref q17, .ref q19])), (q1, .inl (c2, 129, .inl (upd (upd (upd (upd (upd (upd (upd (upd (upd (upd (upd (upd (upd (upd (upd (fun _ => 0) (Int32.toNatClampNeg 0) 6) (Int32.toNatClampNeg 1) 1) (Int32.toNatClampNeg 2) 0) (Int32.toNatClampNeg 3) 0) (Int32.toNatClampNeg 4) 20) (Int32.toNatClampNeg 5) (-1)) (Int32.toNatClampNeg 6) 0) (Int32.toNatClampNeg 7) 0) (Int32.toNatClampNeg 8) 20) (Int32.toNatClampNeg 9) 0) (Int32.toNatClampNeg 10) 1) (Int32.toNatClampNeg 11) 0) (Int32.toNatClampNeg 12) 20) (Int32.toNatClampNeg 13) 0) (Int32.toNatClampNeg 14) (-1)))), (q3, .inl (c4, 645, .inl (fun _ => 0))), (q5, .inl (c6, 129, .inl (fun _ => 0))), (q7, .inl (c8, 3, .inl (fun _ => 0))), (q9, .inl (c10, 120, .inl (fun _ => 0))), (q11, .inl (c12, 320, .inl (fun _ => 0))), (q13, .inl (c14, 32, .inl (fun _ => 0))), (q15, .inl (c16, 343, .inl (fun _ => 0))), (q17, .inl (c18, 3, .inl (fun _ => 0))), (q19, .inl (c20, 3, .inl (fun _ => 0)))] H := hP
  have hD : va_D A [(h0, .inr (7, [.ref q1, .ref q3, .int 0, .ref q5, .ref q7, .ref q9, .int 0, .int 0, .long 0, .long 1, .ref q11, .int 0, .ref q13, .ref q15, .ref q17, .ref q19])), (q1, .inl (c2, 129, .inl (upd (upd (upd (upd (upd (upd (upd (upd (upd (upd (upd (upd (upd (upd (upd (fun _ => 0) (Int32.toNatClampNeg 0) 6) (Int32.toNatClampNeg 1) 1) (Int32.toNatClampNeg 2) 0) (Int32.toNatClampNeg 3) 0) (Int32.toNatClampNeg 4) 20) (Int32.toNatClampNeg 5) (-1)) (Int32.toNatClampNeg 6) 0) (Int32.toNatClampNeg 7) 0) (Int32.toNatClampNeg 8) 20) (Int32.toNatClampNeg 9) 0) (Int32.toNatClampNeg 10) 1) (Int32.toNatClampNeg 11) 0) (Int32.toNatClampNeg 12) 20) (Int32.toNatClampNeg 13) 0) (Int32.toNatClampNeg 14) (-1)))), (q3, .inl (c4, 645, .inl (fun _ => 0))), (q5, .inl (c6, 129, .inl (fun _ => 0))), (q7, .inl (c8, 3, .inl (fun _ => 0))), (q9, .inl (c10, 120, .inl (fun _ => 0))), (q11, .inl (c12, 320, .inl (fun _ => 0))), (q13, .inl (c14, 32, .inl (fun _ => 0))), (q15, .inl (c16, 343, .inl (fun _ => 0))), (q17, .inl (c18, 3, .inl (fun _ => 0))), (q19, .inl (c20, 3, .inl (fun _ => 0)))] := hD
  refine lv_iinc (v := 2) (lv' := [(2, .int 2), (1, .int 3), (0, .ref h0)]) hx hb dX7_init_148 hl (k := 0) rfl (by decide) (by decide) rfl (fun ls hl => ?_)
  refine lv_goto (tgt := 109) hx hb dX7_init_151 (by decide) ?_
  refine lv_iload_n hx hb dX7_init_109 rfl (lv_at hl 0 rfl) ?_
  refine lv_iconst (v := 3) hx hb dX7_init_110 (by decide) ?_
  refine lv_icmp_ge (tgt := 154) hx hb dX7_init_111 (by decide) (fun c0 => absurd c0 (by decide)) (fun _ => ?_)
  refine lv_aload_n hx hb dX7_init_114 rfl (lv_at hl 2 rfl) ?_
  refine va_get (D := (dC, dI)) (ci := 7) (v := .ref q1) (C := RX7) (T := TX7) (N := 16) hx hb hts gin_X7 hown hK hP 0 rfl rfl 0 (by decide) (hts _ mw_794) (fun _ h9 => h9) rfl dX7_init_115 ?_
  refine lv_iconst (v := 1) hx hb dX7_init_118 (by decide) ?_
  refine lv_iconst (v := 4) hx hb dX7_init_119 (by decide) ?_
  refine lv_iload_n hx hb dX7_init_120 rfl (lv_at hl 1 rfl) ?_
  refine lv_imul hx hb dX7_init_121 ?_
  refine lv_topi (fun z90 ez90 => ?_)
  obtain rfl : z90 = 12 := by rw [ez90]; decide
  refine lv_iadd hx hb dX7_init_122 ?_
  refine lv_topi (fun z91 ez91 => ?_)
  obtain rfl : z91 = 13 := by rw [ez91]; decide
  refine lv_iload_n hx hb dX7_init_123 rfl (lv_at hl 0 rfl) ?_
  refine lv_iadd hx hb dX7_init_124 ?_
  refine lv_topi (fun z92 ez92 => ?_)
  obtain rfl : z92 = 15 := by rw [ez92]; decide
  refine lv_iload_n hx hb dX7_init_125 rfl (lv_at hl 1 rfl) ?_
  refine lv_iconst (v := 2) hx hb dX7_init_126 (by decide) ?_
  refine lv_idiv hx hb dX7_init_127 (by decide) ?_
  refine lv_topi (fun z93 ez93 => ?_)
  obtain rfl : z93 = 1 := by rw [ez93]; decide
  refine lv_iload_n hx hb dX7_init_128 rfl (lv_at hl 0 rfl) ?_
  refine lv_icmp_ne (tgt := 146) hx hb dX7_init_129 (by decide) (fun _ => ?_) (fun c0 => absurd c0 (by decide))
  refine lv_iconst (v := 0) hx hb dX7_init_146 (by decide) ?_
  refine va_iast (D := (dC, dI)) hx hb hK hP hD hS 1 0 rfl rfl (by unfold vp_in; decide) dX7_init_147 (fun H locs hP hD hS => ?_)
  have hP : va_P (dC, dI) vwCl [(h0, .inr (7, [.ref q1, .ref q3, .int 0, .ref q5, .ref q7, .ref q9, .int 0, .int 0, .long 0, .long 1, .ref q11, .int 0, .ref q13, .ref q15, .ref q17, .ref q19])), (q1, .inl (c2, 129, .inl (upd (upd (upd (upd (upd (upd (upd (upd (upd (upd (upd (upd (upd (upd (upd (upd (fun _ => 0) (Int32.toNatClampNeg 0) 6) (Int32.toNatClampNeg 1) 1) (Int32.toNatClampNeg 2) 0) (Int32.toNatClampNeg 3) 0) (Int32.toNatClampNeg 4) 20) (Int32.toNatClampNeg 5) (-1)) (Int32.toNatClampNeg 6) 0) (Int32.toNatClampNeg 7) 0) (Int32.toNatClampNeg 8) 20) (Int32.toNatClampNeg 9) 0) (Int32.toNatClampNeg 10) 1) (Int32.toNatClampNeg 11) 0) (Int32.toNatClampNeg 12) 20) (Int32.toNatClampNeg 13) 0) (Int32.toNatClampNeg 14) (-1)) (Int32.toNatClampNeg 15) 0))), (q3, .inl (c4, 645, .inl (fun _ => 0))), (q5, .inl (c6, 129, .inl (fun _ => 0))), (q7, .inl (c8, 3, .inl (fun _ => 0))), (q9, .inl (c10, 120, .inl (fun _ => 0))), (q11, .inl (c12, 320, .inl (fun _ => 0))), (q13, .inl (c14, 32, .inl (fun _ => 0))), (q15, .inl (c16, 343, .inl (fun _ => 0))), (q17, .inl (c18, 3, .inl (fun _ => 0))), (q19, .inl (c20, 3, .inl (fun _ => 0)))] H := hP
  have hD : va_D A [(h0, .inr (7, [.ref q1, .ref q3, .int 0, .ref q5, .ref q7, .ref q9, .int 0, .int 0, .long 0, .long 1, .ref q11, .int 0, .ref q13, .ref q15, .ref q17, .ref q19])), (q1, .inl (c2, 129, .inl (upd (upd (upd (upd (upd (upd (upd (upd (upd (upd (upd (upd (upd (upd (upd (upd (fun _ => 0) (Int32.toNatClampNeg 0) 6) (Int32.toNatClampNeg 1) 1) (Int32.toNatClampNeg 2) 0) (Int32.toNatClampNeg 3) 0) (Int32.toNatClampNeg 4) 20) (Int32.toNatClampNeg 5) (-1)) (Int32.toNatClampNeg 6) 0) (Int32.toNatClampNeg 7) 0) (Int32.toNatClampNeg 8) 20) (Int32.toNatClampNeg 9) 0) (Int32.toNatClampNeg 10) 1) (Int32.toNatClampNeg 11) 0) (Int32.toNatClampNeg 12) 20) (Int32.toNatClampNeg 13) 0) (Int32.toNatClampNeg 14) (-1)) (Int32.toNatClampNeg 15) 0))), (q3, .inl (c4, 645, .inl (fun _ => 0))), (q5, .inl (c6, 129, .inl (fun _ => 0))), (q7, .inl (c8, 3, .inl (fun _ => 0))), (q9, .inl (c10, 120, .inl (fun _ => 0))), (q11, .inl (c12, 320, .inl (fun _ => 0))), (q13, .inl (c14, 32, .inl (fun _ => 0))), (q15, .inl (c16, 343, .inl (fun _ => 0))), (q17, .inl (c18, 3, .inl (fun _ => 0))), (q19, .inl (c20, 3, .inl (fun _ => 0)))] := hD
  refine lv_iinc (v := 3) (lv' := [(2, .int 3), (1, .int 3), (0, .ref h0)]) hx hb dX7_init_148 hl (k := 0) rfl (by decide) (by decide) rfl (fun ls hl => ?_)
  refine lv_goto (tgt := 109) hx hb dX7_init_151 (by decide) ?_
  refine lv_iload_n hx hb dX7_init_109 rfl (lv_at hl 0 rfl) ?_
  refine lv_iconst (v := 3) hx hb dX7_init_110 (by decide) ?_
  refine lv_icmp_ge (tgt := 154) hx hb dX7_init_111 (by decide) (fun _ => ?_) (fun c0 => absurd (by decide) c0)
  refine lv_aload_n hx hb dX7_init_154 rfl (lv_at hl 2 rfl) ?_
  refine va_get (D := (dC, dI)) (ci := 7) (v := .ref q1) (C := RX7) (T := TX7) (N := 16) hx hb hts gin_X7 hown hK hP 0 rfl rfl 0 (by decide) (hts _ mw_794) (fun _ h9 => h9) rfl dX7_init_155 ?_
  refine lv_iconst (v := 4) hx hb dX7_init_158 (by decide) ?_
  refine lv_iconst (v := 4) hx hb dX7_init_159 (by decide) ?_
  refine lv_iload_n hx hb dX7_init_160 rfl (lv_at hl 1 rfl) ?_
  refine lv_imul hx hb dX7_init_161 ?_
  refine lv_topi (fun z95 ez95 => ?_)
  obtain rfl : z95 = 12 := by rw [ez95]; decide
  refine lv_iadd hx hb dX7_init_162 ?_
  refine lv_topi (fun z96 ez96 => ?_)
  obtain rfl : z96 = 16 := by rw [ez96]; decide
  refine lv_bipush (v := 20) hx hb dX7_init_163 (by decide) ?_
  refine va_iast (D := (dC, dI)) hx hb hK hP hD hS 1 0 rfl rfl (by unfold vp_in; decide) dX7_init_165 (fun H locs hP hD hS => ?_)
  have hP : va_P (dC, dI) vwCl [(h0, .inr (7, [.ref q1, .ref q3, .int 0, .ref q5, .ref q7, .ref q9, .int 0, .int 0, .long 0, .long 1, .ref q11, .int 0, .ref q13, .ref q15, .ref q17, .ref q19])), (q1, .inl (c2, 129, .inl (upd (upd (upd (upd (upd (upd (upd (upd (upd (upd (upd (upd (upd (upd (upd (upd (upd (fun _ => 0) (Int32.toNatClampNeg 0) 6) (Int32.toNatClampNeg 1) 1) (Int32.toNatClampNeg 2) 0) (Int32.toNatClampNeg 3) 0) (Int32.toNatClampNeg 4) 20) (Int32.toNatClampNeg 5) (-1)) (Int32.toNatClampNeg 6) 0) (Int32.toNatClampNeg 7) 0) (Int32.toNatClampNeg 8) 20) (Int32.toNatClampNeg 9) 0) (Int32.toNatClampNeg 10) 1) (Int32.toNatClampNeg 11) 0) (Int32.toNatClampNeg 12) 20) (Int32.toNatClampNeg 13) 0) (Int32.toNatClampNeg 14) (-1)) (Int32.toNatClampNeg 15) 0) (Int32.toNatClampNeg 16) 20))), (q3, .inl (c4, 645, .inl (fun _ => 0))), (q5, .inl (c6, 129, .inl (fun _ => 0))), (q7, .inl (c8, 3, .inl (fun _ => 0))), (q9, .inl (c10, 120, .inl (fun _ => 0))), (q11, .inl (c12, 320, .inl (fun _ => 0))), (q13, .inl (c14, 32, .inl (fun _ => 0))), (q15, .inl (c16, 343, .inl (fun _ => 0))), (q17, .inl (c18, 3, .inl (fun _ => 0))), (q19, .inl (c20, 3, .inl (fun _ => 0)))] H := hP
  have hD : va_D A [(h0, .inr (7, [.ref q1, .ref q3, .int 0, .ref q5, .ref q7, .ref q9, .int 0, .int 0, .long 0, .long 1, .ref q11, .int 0, .ref q13, .ref q15, .ref q17, .ref q19])), (q1, .inl (c2, 129, .inl (upd (upd (upd (upd (upd (upd (upd (upd (upd (upd (upd (upd (upd (upd (upd (upd (upd (fun _ => 0) (Int32.toNatClampNeg 0) 6) (Int32.toNatClampNeg 1) 1) (Int32.toNatClampNeg 2) 0) (Int32.toNatClampNeg 3) 0) (Int32.toNatClampNeg 4) 20) (Int32.toNatClampNeg 5) (-1)) (Int32.toNatClampNeg 6) 0) (Int32.toNatClampNeg 7) 0) (Int32.toNatClampNeg 8) 20) (Int32.toNatClampNeg 9) 0) (Int32.toNatClampNeg 10) 1) (Int32.toNatClampNeg 11) 0) (Int32.toNatClampNeg 12) 20) (Int32.toNatClampNeg 13) 0) (Int32.toNatClampNeg 14) (-1)) (Int32.toNatClampNeg 15) 0) (Int32.toNatClampNeg 16) 20))), (q3, .inl (c4, 645, .inl (fun _ => 0))), (q5, .inl (c6, 129, .inl (fun _ => 0))), (q7, .inl (c8, 3, .inl (fun _ => 0))), (q9, .inl (c10, 120, .inl (fun _ => 0))), (q11, .inl (c12, 320, .inl (fun _ => 0))), (q13, .inl (c14, 32, .inl (fun _ => 0))), (q15, .inl (c16, 343, .inl (fun _ => 0))), (q17, .inl (c18, 3, .inl (fun _ => 0))), (q19, .inl (c20, 3, .inl (fun _ => 0)))] := hD
  refine lv_iinc (v := 4) (lv' := [(1, .int 4), (2, .int 3), (0, .ref h0)]) hx hb dX7_init_166 hl (k := 1) rfl (by decide) (by decide) rfl (fun ls hl => ?_)
  refine lv_goto (tgt := 101) hx hb dX7_init_169 (by decide) ?_
  refine lv_iload_n hx hb dX7_init_101 rfl (lv_at hl 0 rfl) ?_
  refine lv_bipush (v := 6) hx hb dX7_init_102 (by decide) ?_
  refine lv_icmp_ge (tgt := 172) hx hb dX7_init_104 (by decide) (fun c0 => absurd c0 (by decide)) (fun _ => ?_)
  refine lv_iconst (v := 0) hx hb dX7_init_107 (by decide) ?_
  refine lv_istore_n (lv' := [(2, .int 0), (1, .int 4), (0, .ref h0)]) hx hb dX7_init_108 rfl hl (by decide) rfl (fun ls hl => ?_)
  refine lv_iload_n hx hb dX7_init_109 rfl (lv_at hl 0 rfl) ?_
  refine lv_iconst (v := 3) hx hb dX7_init_110 (by decide) ?_
  refine lv_icmp_ge (tgt := 154) hx hb dX7_init_111 (by decide) (fun c0 => absurd c0 (by decide)) (fun _ => ?_)
  refine lv_aload_n hx hb dX7_init_114 rfl (lv_at hl 2 rfl) ?_
  refine va_get (D := (dC, dI)) (ci := 7) (v := .ref q1) (C := RX7) (T := TX7) (N := 16) hx hb hts gin_X7 hown hK hP 0 rfl rfl 0 (by decide) (hts _ mw_794) (fun _ h9 => h9) rfl dX7_init_115 ?_
  refine lv_iconst (v := 1) hx hb dX7_init_118 (by decide) ?_
  refine lv_iconst (v := 4) hx hb dX7_init_119 (by decide) ?_
  refine lv_iload_n hx hb dX7_init_120 rfl (lv_at hl 1 rfl) ?_
  refine lv_imul hx hb dX7_init_121 ?_
  refine lv_topi (fun z98 ez98 => ?_)
  obtain rfl : z98 = 16 := by rw [ez98]; decide
  refine lv_iadd hx hb dX7_init_122 ?_
  refine lv_topi (fun z99 ez99 => ?_)
  obtain rfl : z99 = 17 := by rw [ez99]; decide
  refine lv_iload_n hx hb dX7_init_123 rfl (lv_at hl 0 rfl) ?_
  refine lv_iadd hx hb dX7_init_124 ?_
  refine lv_topi (fun z100 ez100 => ?_)
  obtain rfl : z100 = 17 := by rw [ez100]; decide
  refine lv_iload_n hx hb dX7_init_125 rfl (lv_at hl 1 rfl) ?_
  refine lv_iconst (v := 2) hx hb dX7_init_126 (by decide) ?_
  refine lv_idiv hx hb dX7_init_127 (by decide) ?_
  refine lv_topi (fun z101 ez101 => ?_)
  obtain rfl : z101 = 2 := by rw [ez101]; decide
  refine lv_iload_n hx hb dX7_init_128 rfl (lv_at hl 0 rfl) ?_
  refine lv_icmp_ne (tgt := 146) hx hb dX7_init_129 (by decide) (fun _ => ?_) (fun c0 => absurd c0 (by decide))
  refine lv_iconst (v := 0) hx hb dX7_init_146 (by decide) ?_
  refine va_iast (D := (dC, dI)) hx hb hK hP hD hS 1 0 rfl rfl (by unfold vp_in; decide) dX7_init_147 (fun H locs hP hD hS => ?_)
  have hP : va_P (dC, dI) vwCl [(h0, .inr (7, [.ref q1, .ref q3, .int 0, .ref q5, .ref q7, .ref q9, .int 0, .int 0, .long 0, .long 1, .ref q11, .int 0, .ref q13, .ref q15, .ref q17, .ref q19])), (q1, .inl (c2, 129, .inl (upd (upd (upd (upd (upd (upd (upd (upd (upd (upd (upd (upd (upd (upd (upd (upd (upd (upd (fun _ => 0) (Int32.toNatClampNeg 0) 6) (Int32.toNatClampNeg 1) 1) (Int32.toNatClampNeg 2) 0) (Int32.toNatClampNeg 3) 0) (Int32.toNatClampNeg 4) 20) (Int32.toNatClampNeg 5) (-1)) (Int32.toNatClampNeg 6) 0) (Int32.toNatClampNeg 7) 0) (Int32.toNatClampNeg 8) 20) (Int32.toNatClampNeg 9) 0) (Int32.toNatClampNeg 10) 1) (Int32.toNatClampNeg 11) 0) (Int32.toNatClampNeg 12) 20) (Int32.toNatClampNeg 13) 0) (Int32.toNatClampNeg 14) (-1)) (Int32.toNatClampNeg 15) 0) (Int32.toNatClampNeg 16) 20) (Int32.toNatClampNeg 17) 0))), (q3, .inl (c4, 645, .inl (fun _ => 0))), (q5, .inl (c6, 129, .inl (fun _ => 0))), (q7, .inl (c8, 3, .inl (fun _ => 0))), (q9, .inl (c10, 120, .inl (fun _ => 0))), (q11, .inl (c12, 320, .inl (fun _ => 0))), (q13, .inl (c14, 32, .inl (fun _ => 0))), (q15, .inl (c16, 343, .inl (fun _ => 0))), (q17, .inl (c18, 3, .inl (fun _ => 0))), (q19, .inl (c20, 3, .inl (fun _ => 0)))] H := hP
  have hD : va_D A [(h0, .inr (7, [.ref q1, .ref q3, .int 0, .ref q5, .ref q7, .ref q9, .int 0, .int 0, .long 0, .long 1, .ref q11, .int 0, .ref q13, .ref q15, .ref q17, .ref q19])), (q1, .inl (c2, 129, .inl (upd (upd (upd (upd (upd (upd (upd (upd (upd (upd (upd (upd (upd (upd (upd (upd (upd (upd (fun _ => 0) (Int32.toNatClampNeg 0) 6) (Int32.toNatClampNeg 1) 1) (Int32.toNatClampNeg 2) 0) (Int32.toNatClampNeg 3) 0) (Int32.toNatClampNeg 4) 20) (Int32.toNatClampNeg 5) (-1)) (Int32.toNatClampNeg 6) 0) (Int32.toNatClampNeg 7) 0) (Int32.toNatClampNeg 8) 20) (Int32.toNatClampNeg 9) 0) (Int32.toNatClampNeg 10) 1) (Int32.toNatClampNeg 11) 0) (Int32.toNatClampNeg 12) 20) (Int32.toNatClampNeg 13) 0) (Int32.toNatClampNeg 14) (-1)) (Int32.toNatClampNeg 15) 0) (Int32.toNatClampNeg 16) 20) (Int32.toNatClampNeg 17) 0))), (q3, .inl (c4, 645, .inl (fun _ => 0))), (q5, .inl (c6, 129, .inl (fun _ => 0))), (q7, .inl (c8, 3, .inl (fun _ => 0))), (q9, .inl (c10, 120, .inl (fun _ => 0))), (q11, .inl (c12, 320, .inl (fun _ => 0))), (q13, .inl (c14, 32, .inl (fun _ => 0))), (q15, .inl (c16, 343, .inl (fun _ => 0))), (q17, .inl (c18, 3, .inl (fun _ => 0))), (q19, .inl (c20, 3, .inl (fun _ => 0)))] := hD
  refine lv_iinc (v := 1) (lv' := [(2, .int 1), (1, .int 4), (0, .ref h0)]) hx hb dX7_init_148 hl (k := 0) rfl (by decide) (by decide) rfl (fun ls hl => ?_)
  refine lv_goto (tgt := 109) hx hb dX7_init_151 (by decide) ?_
  refine lv_iload_n hx hb dX7_init_109 rfl (lv_at hl 0 rfl) ?_
  refine lv_iconst (v := 3) hx hb dX7_init_110 (by decide) ?_
  refine lv_icmp_ge (tgt := 154) hx hb dX7_init_111 (by decide) (fun c0 => absurd c0 (by decide)) (fun _ => ?_)
  refine lv_aload_n hx hb dX7_init_114 rfl (lv_at hl 2 rfl) ?_
  refine va_get (D := (dC, dI)) (ci := 7) (v := .ref q1) (C := RX7) (T := TX7) (N := 16) hx hb hts gin_X7 hown hK hP 0 rfl rfl 0 (by decide) (hts _ mw_794) (fun _ h9 => h9) rfl dX7_init_115 ?_
  refine lv_iconst (v := 1) hx hb dX7_init_118 (by decide) ?_
  refine lv_iconst (v := 4) hx hb dX7_init_119 (by decide) ?_
  refine lv_iload_n hx hb dX7_init_120 rfl (lv_at hl 1 rfl) ?_
  refine lv_imul hx hb dX7_init_121 ?_
  refine lv_topi (fun z103 ez103 => ?_)
  obtain rfl : z103 = 16 := by rw [ez103]; decide
  refine lv_iadd hx hb dX7_init_122 ?_
  refine lv_topi (fun z104 ez104 => ?_)
  obtain rfl : z104 = 17 := by rw [ez104]; decide
  refine lv_iload_n hx hb dX7_init_123 rfl (lv_at hl 0 rfl) ?_
  refine lv_iadd hx hb dX7_init_124 ?_
  refine lv_topi (fun z105 ez105 => ?_)
  obtain rfl : z105 = 18 := by rw [ez105]; decide
  refine lv_iload_n hx hb dX7_init_125 rfl (lv_at hl 1 rfl) ?_
  refine lv_iconst (v := 2) hx hb dX7_init_126 (by decide) ?_
  refine lv_idiv hx hb dX7_init_127 (by decide) ?_
  refine lv_topi (fun z106 ez106 => ?_)
  obtain rfl : z106 = 2 := by rw [ez106]; decide
  refine lv_iload_n hx hb dX7_init_128 rfl (lv_at hl 0 rfl) ?_
  refine lv_icmp_ne (tgt := 146) hx hb dX7_init_129 (by decide) (fun _ => ?_) (fun c0 => absurd c0 (by decide))
  refine lv_iconst (v := 0) hx hb dX7_init_146 (by decide) ?_
  refine va_iast (D := (dC, dI)) hx hb hK hP hD hS 1 0 rfl rfl (by unfold vp_in; decide) dX7_init_147 (fun H locs hP hD hS => ?_)
  have hP : va_P (dC, dI) vwCl [(h0, .inr (7, [.ref q1, .ref q3, .int 0, .ref q5, .ref q7, .ref q9, .int 0, .int 0, .long 0, .long 1, .ref q11, .int 0, .ref q13, .ref q15, .ref q17, .ref q19])), (q1, .inl (c2, 129, .inl (upd (upd (upd (upd (upd (upd (upd (upd (upd (upd (upd (upd (upd (upd (upd (upd (upd (upd (upd (fun _ => 0) (Int32.toNatClampNeg 0) 6) (Int32.toNatClampNeg 1) 1) (Int32.toNatClampNeg 2) 0) (Int32.toNatClampNeg 3) 0) (Int32.toNatClampNeg 4) 20) (Int32.toNatClampNeg 5) (-1)) (Int32.toNatClampNeg 6) 0) (Int32.toNatClampNeg 7) 0) (Int32.toNatClampNeg 8) 20) (Int32.toNatClampNeg 9) 0) (Int32.toNatClampNeg 10) 1) (Int32.toNatClampNeg 11) 0) (Int32.toNatClampNeg 12) 20) (Int32.toNatClampNeg 13) 0) (Int32.toNatClampNeg 14) (-1)) (Int32.toNatClampNeg 15) 0) (Int32.toNatClampNeg 16) 20) (Int32.toNatClampNeg 17) 0) (Int32.toNatClampNeg 18) 0))), (q3, .inl (c4, 645, .inl (fun _ => 0))), (q5, .inl (c6, 129, .inl (fun _ => 0))), (q7, .inl (c8, 3, .inl (fun _ => 0))), (q9, .inl (c10, 120, .inl (fun _ => 0))), (q11, .inl (c12, 320, .inl (fun _ => 0))), (q13, .inl (c14, 32, .inl (fun _ => 0))), (q15, .inl (c16, 343, .inl (fun _ => 0))), (q17, .inl (c18, 3, .inl (fun _ => 0))), (q19, .inl (c20, 3, .inl (fun _ => 0)))] H := hP
  have hD : va_D A [(h0, .inr (7, [.ref q1, .ref q3, .int 0, .ref q5, .ref q7, .ref q9, .int 0, .int 0, .long 0, .long 1, .ref q11, .int 0, .ref q13, .ref q15, .ref q17, .ref q19])), (q1, .inl (c2, 129, .inl (upd (upd (upd (upd (upd (upd (upd (upd (upd (upd (upd (upd (upd (upd (upd (upd (upd (upd (upd (fun _ => 0) (Int32.toNatClampNeg 0) 6) (Int32.toNatClampNeg 1) 1) (Int32.toNatClampNeg 2) 0) (Int32.toNatClampNeg 3) 0) (Int32.toNatClampNeg 4) 20) (Int32.toNatClampNeg 5) (-1)) (Int32.toNatClampNeg 6) 0) (Int32.toNatClampNeg 7) 0) (Int32.toNatClampNeg 8) 20) (Int32.toNatClampNeg 9) 0) (Int32.toNatClampNeg 10) 1) (Int32.toNatClampNeg 11) 0) (Int32.toNatClampNeg 12) 20) (Int32.toNatClampNeg 13) 0) (Int32.toNatClampNeg 14) (-1)) (Int32.toNatClampNeg 15) 0) (Int32.toNatClampNeg 16) 20) (Int32.toNatClampNeg 17) 0) (Int32.toNatClampNeg 18) 0))), (q3, .inl (c4, 645, .inl (fun _ => 0))), (q5, .inl (c6, 129, .inl (fun _ => 0))), (q7, .inl (c8, 3, .inl (fun _ => 0))), (q9, .inl (c10, 120, .inl (fun _ => 0))), (q11, .inl (c12, 320, .inl (fun _ => 0))), (q13, .inl (c14, 32, .inl (fun _ => 0))), (q15, .inl (c16, 343, .inl (fun _ => 0))), (q17, .inl (c18, 3, .inl (fun _ => 0))), (q19, .inl (c20, 3, .inl (fun _ => 0)))] := hD
  refine lv_iinc (v := 2) (lv' := [(2, .int 2), (1, .int 4), (0, .ref h0)]) hx hb dX7_init_148 hl (k := 0) rfl (by decide) (by decide) rfl (fun ls hl => ?_)
  refine lv_goto (tgt := 109) hx hb dX7_init_151 (by decide) ?_
  refine lv_iload_n hx hb dX7_init_109 rfl (lv_at hl 0 rfl) ?_
  refine lv_iconst (v := 3) hx hb dX7_init_110 (by decide) ?_
  refine lv_icmp_ge (tgt := 154) hx hb dX7_init_111 (by decide) (fun c0 => absurd c0 (by decide)) (fun _ => ?_)
  refine lv_aload_n hx hb dX7_init_114 rfl (lv_at hl 2 rfl) ?_
  refine va_get (D := (dC, dI)) (ci := 7) (v := .ref q1) (C := RX7) (T := TX7) (N := 16) hx hb hts gin_X7 hown hK hP 0 rfl rfl 0 (by decide) (hts _ mw_794) (fun _ h9 => h9) rfl dX7_init_115 ?_
  refine lv_iconst (v := 1) hx hb dX7_init_118 (by decide) ?_
  refine lv_iconst (v := 4) hx hb dX7_init_119 (by decide) ?_
  refine lv_iload_n hx hb dX7_init_120 rfl (lv_at hl 1 rfl) ?_
  refine lv_imul hx hb dX7_init_121 ?_
  refine lv_topi (fun z108 ez108 => ?_)
  obtain rfl : z108 = 16 := by rw [ez108]; decide
  refine lv_iadd hx hb dX7_init_122 ?_
  refine lv_topi (fun z109 ez109 => ?_)
  obtain rfl : z109 = 17 := by rw [ez109]; decide
  refine lv_iload_n hx hb dX7_init_123 rfl (lv_at hl 0 rfl) ?_
  refine lv_iadd hx hb dX7_init_124 ?_
  refine lv_topi (fun z110 ez110 => ?_)
  obtain rfl : z110 = 19 := by rw [ez110]; decide
  refine lv_iload_n hx hb dX7_init_125 rfl (lv_at hl 1 rfl) ?_
  refine lv_iconst (v := 2) hx hb dX7_init_126 (by decide) ?_
  refine lv_idiv hx hb dX7_init_127 (by decide) ?_
  refine lv_topi (fun z111 ez111 => ?_)
  obtain rfl : z111 = 2 := by rw [ez111]; decide
  refine lv_iload_n hx hb dX7_init_128 rfl (lv_at hl 0 rfl) ?_
  refine lv_icmp_ne (tgt := 146) hx hb dX7_init_129 (by decide) (fun c0 => absurd c0 (by decide)) (fun _ => ?_)
  refine lv_iload_n hx hb dX7_init_132 rfl (lv_at hl 1 rfl) ?_
  refine lv_iconst (v := 2) hx hb dX7_init_133 (by decide) ?_
  refine lv_irem hx hb dX7_init_134 (by decide) ?_
  refine lv_topi (fun z112 ez112 => ?_)
  obtain rfl : z112 = 0 := by rw [ez112]; decide
  refine lv_if_ne (tgt := 142) hx hb dX7_init_135 (by decide) (fun c0 => absurd c0 (by decide)) (fun _ => ?_)
  refine lv_iconst (v := 1) hx hb dX7_init_138 (by decide) ?_
  refine lv_goto (tgt := 147) hx hb dX7_init_139 (by decide) ?_
  refine va_iast (D := (dC, dI)) hx hb hK hP hD hS 1 0 rfl rfl (by unfold vp_in; decide) dX7_init_147 (fun H locs hP hD hS => ?_)
  have hP : va_P (dC, dI) vwCl [(h0, .inr (7, [.ref q1, .ref q3, .int 0, .ref q5, .ref q7, .ref q9, .int 0, .int 0, .long 0, .long 1, .ref q11, .int 0, .ref q13, .ref q15, .ref q17, .ref q19])), (q1, .inl (c2, 129, .inl (upd (upd (upd (upd (upd (upd (upd (upd (upd (upd (upd (upd (upd (upd (upd (upd (upd (upd (upd (upd (fun _ => 0) (Int32.toNatClampNeg 0) 6) (Int32.toNatClampNeg 1) 1) (Int32.toNatClampNeg 2) 0) (Int32.toNatClampNeg 3) 0) (Int32.toNatClampNeg 4) 20) (Int32.toNatClampNeg 5) (-1)) (Int32.toNatClampNeg 6) 0) (Int32.toNatClampNeg 7) 0) (Int32.toNatClampNeg 8) 20) (Int32.toNatClampNeg 9) 0) (Int32.toNatClampNeg 10) 1) (Int32.toNatClampNeg 11) 0) (Int32.toNatClampNeg 12) 20) (Int32.toNatClampNeg 13) 0) (Int32.toNatClampNeg 14) (-1)) (Int32.toNatClampNeg 15) 0) (Int32.toNatClampNeg 16) 20) (Int32.toNatClampNeg 17) 0) (Int32.toNatClampNeg 18) 0) (Int32.toNatClampNeg 19) 1))), (q3, .inl (c4, 645, .inl (fun _ => 0))), (q5, .inl (c6, 129, .inl (fun _ => 0))), (q7, .inl (c8, 3, .inl (fun _ => 0))), (q9, .inl (c10, 120, .inl (fun _ => 0))), (q11, .inl (c12, 320, .inl (fun _ => 0))), (q13, .inl (c14, 32, .inl (fun _ => 0))), (q15, .inl (c16, 343, .inl (fun _ => 0))), (q17, .inl (c18, 3, .inl (fun _ => 0))), (q19, .inl (c20, 3, .inl (fun _ => 0)))] H := hP
  have hD : va_D A [(h0, .inr (7, [.ref q1, .ref q3, .int 0, .ref q5, .ref q7, .ref q9, .int 0, .int 0, .long 0, .long 1, .ref q11, .int 0, .ref q13, .ref q15, .ref q17, .ref q19])), (q1, .inl (c2, 129, .inl (upd (upd (upd (upd (upd (upd (upd (upd (upd (upd (upd (upd (upd (upd (upd (upd (upd (upd (upd (upd (fun _ => 0) (Int32.toNatClampNeg 0) 6) (Int32.toNatClampNeg 1) 1) (Int32.toNatClampNeg 2) 0) (Int32.toNatClampNeg 3) 0) (Int32.toNatClampNeg 4) 20) (Int32.toNatClampNeg 5) (-1)) (Int32.toNatClampNeg 6) 0) (Int32.toNatClampNeg 7) 0) (Int32.toNatClampNeg 8) 20) (Int32.toNatClampNeg 9) 0) (Int32.toNatClampNeg 10) 1) (Int32.toNatClampNeg 11) 0) (Int32.toNatClampNeg 12) 20) (Int32.toNatClampNeg 13) 0) (Int32.toNatClampNeg 14) (-1)) (Int32.toNatClampNeg 15) 0) (Int32.toNatClampNeg 16) 20) (Int32.toNatClampNeg 17) 0) (Int32.toNatClampNeg 18) 0) (Int32.toNatClampNeg 19) 1))), (q3, .inl (c4, 645, .inl (fun _ => 0))), (q5, .inl (c6, 129, .inl (fun _ => 0))), (q7, .inl (c8, 3, .inl (fun _ => 0))), (q9, .inl (c10, 120, .inl (fun _ => 0))), (q11, .inl (c12, 320, .inl (fun _ => 0))), (q13, .inl (c14, 32, .inl (fun _ => 0))), (q15, .inl (c16, 343, .inl (fun _ => 0))), (q17, .inl (c18, 3, .inl (fun _ => 0))), (q19, .inl (c20, 3, .inl (fun _ => 0)))] := hD
  refine lv_iinc (v := 3) (lv' := [(2, .int 3), (1, .int 4), (0, .ref h0)]) hx hb dX7_init_148 hl (k := 0) rfl (by decide) (by decide) rfl (fun ls hl => ?_)
  refine lv_goto (tgt := 109) hx hb dX7_init_151 (by decide) ?_
  refine lv_iload_n hx hb dX7_init_109 rfl (lv_at hl 0 rfl) ?_
  refine lv_iconst (v := 3) hx hb dX7_init_110 (by decide) ?_
  refine lv_icmp_ge (tgt := 154) hx hb dX7_init_111 (by decide) (fun _ => ?_) (fun c0 => absurd (by decide) c0)
  refine lv_aload_n hx hb dX7_init_154 rfl (lv_at hl 2 rfl) ?_
  refine va_get (D := (dC, dI)) (ci := 7) (v := .ref q1) (C := RX7) (T := TX7) (N := 16) hx hb hts gin_X7 hown hK hP 0 rfl rfl 0 (by decide) (hts _ mw_794) (fun _ h9 => h9) rfl dX7_init_155 ?_
  refine lv_iconst (v := 4) hx hb dX7_init_158 (by decide) ?_
  refine lv_iconst (v := 4) hx hb dX7_init_159 (by decide) ?_
  refine lv_iload_n hx hb dX7_init_160 rfl (lv_at hl 1 rfl) ?_
  refine lv_imul hx hb dX7_init_161 ?_
  refine lv_topi (fun z114 ez114 => ?_)
  obtain rfl : z114 = 16 := by rw [ez114]; decide
  refine lv_iadd hx hb dX7_init_162 ?_
  refine lv_topi (fun z115 ez115 => ?_)
  obtain rfl : z115 = 20 := by rw [ez115]; decide
  refine lv_bipush (v := 20) hx hb dX7_init_163 (by decide) ?_
  refine va_iast (D := (dC, dI)) hx hb hK hP hD hS 1 0 rfl rfl (by unfold vp_in; decide) dX7_init_165 (fun H locs hP hD hS => ?_)
  have hP : va_P (dC, dI) vwCl [(h0, .inr (7, [.ref q1, .ref q3, .int 0, .ref q5, .ref q7, .ref q9, .int 0, .int 0, .long 0, .long 1, .ref q11, .int 0, .ref q13, .ref q15, .ref q17, .ref q19])), (q1, .inl (c2, 129, .inl (upd (upd (upd (upd (upd (upd (upd (upd (upd (upd (upd (upd (upd (upd (upd (upd (upd (upd (upd (upd (upd (fun _ => 0) (Int32.toNatClampNeg 0) 6) (Int32.toNatClampNeg 1) 1) (Int32.toNatClampNeg 2) 0) (Int32.toNatClampNeg 3) 0) (Int32.toNatClampNeg 4) 20) (Int32.toNatClampNeg 5) (-1)) (Int32.toNatClampNeg 6) 0) (Int32.toNatClampNeg 7) 0) (Int32.toNatClampNeg 8) 20) (Int32.toNatClampNeg 9) 0) (Int32.toNatClampNeg 10) 1) (Int32.toNatClampNeg 11) 0) (Int32.toNatClampNeg 12) 20) (Int32.toNatClampNeg 13) 0) (Int32.toNatClampNeg 14) (-1)) (Int32.toNatClampNeg 15) 0) (Int32.toNatClampNeg 16) 20) (Int32.toNatClampNeg 17) 0) (Int32.toNatClampNeg 18) 0) (Int32.toNatClampNeg 19) 1) (Int32.toNatClampNeg 20) 20))), (q3, .inl (c4, 645, .inl (fun _ => 0))), (q5, .inl (c6, 129, .inl (fun _ => 0))), (q7, .inl (c8, 3, .inl (fun _ => 0))), (q9, .inl (c10, 120, .inl (fun _ => 0))), (q11, .inl (c12, 320, .inl (fun _ => 0))), (q13, .inl (c14, 32, .inl (fun _ => 0))), (q15, .inl (c16, 343, .inl (fun _ => 0))), (q17, .inl (c18, 3, .inl (fun _ => 0))), (q19, .inl (c20, 3, .inl (fun _ => 0)))] H := hP
  have hD : va_D A [(h0, .inr (7, [.ref q1, .ref q3, .int 0, .ref q5, .ref q7, .ref q9, .int 0, .int 0, .long 0, .long 1, .ref q11, .int 0, .ref q13, .ref q15, .ref q17, .ref q19])), (q1, .inl (c2, 129, .inl (upd (upd (upd (upd (upd (upd (upd (upd (upd (upd (upd (upd (upd (upd (upd (upd (upd (upd (upd (upd (upd (fun _ => 0) (Int32.toNatClampNeg 0) 6) (Int32.toNatClampNeg 1) 1) (Int32.toNatClampNeg 2) 0) (Int32.toNatClampNeg 3) 0) (Int32.toNatClampNeg 4) 20) (Int32.toNatClampNeg 5) (-1)) (Int32.toNatClampNeg 6) 0) (Int32.toNatClampNeg 7) 0) (Int32.toNatClampNeg 8) 20) (Int32.toNatClampNeg 9) 0) (Int32.toNatClampNeg 10) 1) (Int32.toNatClampNeg 11) 0) (Int32.toNatClampNeg 12) 20) (Int32.toNatClampNeg 13) 0) (Int32.toNatClampNeg 14) (-1)) (Int32.toNatClampNeg 15) 0) (Int32.toNatClampNeg 16) 20) (Int32.toNatClampNeg 17) 0) (Int32.toNatClampNeg 18) 0) (Int32.toNatClampNeg 19) 1) (Int32.toNatClampNeg 20) 20))), (q3, .inl (c4, 645, .inl (fun _ => 0))), (q5, .inl (c6, 129, .inl (fun _ => 0))), (q7, .inl (c8, 3, .inl (fun _ => 0))), (q9, .inl (c10, 120, .inl (fun _ => 0))), (q11, .inl (c12, 320, .inl (fun _ => 0))), (q13, .inl (c14, 32, .inl (fun _ => 0))), (q15, .inl (c16, 343, .inl (fun _ => 0))), (q17, .inl (c18, 3, .inl (fun _ => 0))), (q19, .inl (c20, 3, .inl (fun _ => 0)))] := hD
  refine lv_iinc (v := 5) (lv' := [(1, .int 5), (2, .int 3), (0, .ref h0)]) hx hb dX7_init_166 hl (k := 1) rfl (by decide) (by decide) rfl (fun ls hl => ?_)
  refine lv_goto (tgt := 101) hx hb dX7_init_169 (by decide) ?_
  refine lv_iload_n hx hb dX7_init_101 rfl (lv_at hl 0 rfl) ?_
  refine lv_bipush (v := 6) hx hb dX7_init_102 (by decide) ?_
  refine lv_icmp_ge (tgt := 172) hx hb dX7_init_104 (by decide) (fun c0 => absurd c0 (by decide)) (fun _ => ?_)
  refine lv_iconst (v := 0) hx hb dX7_init_107 (by decide) ?_
  refine lv_istore_n (lv' := [(2, .int 0), (1, .int 5), (0, .ref h0)]) hx hb dX7_init_108 rfl hl (by decide) rfl (fun ls hl => ?_)
  refine lv_iload_n hx hb dX7_init_109 rfl (lv_at hl 0 rfl) ?_
  refine lv_iconst (v := 3) hx hb dX7_init_110 (by decide) ?_
  refine lv_icmp_ge (tgt := 154) hx hb dX7_init_111 (by decide) (fun c0 => absurd c0 (by decide)) (fun _ => ?_)
  refine lv_aload_n hx hb dX7_init_114 rfl (lv_at hl 2 rfl) ?_
  refine va_get (D := (dC, dI)) (ci := 7) (v := .ref q1) (C := RX7) (T := TX7) (N := 16) hx hb hts gin_X7 hown hK hP 0 rfl rfl 0 (by decide) (hts _ mw_794) (fun _ h9 => h9) rfl dX7_init_115 ?_
  refine lv_iconst (v := 1) hx hb dX7_init_118 (by decide) ?_
  refine lv_iconst (v := 4) hx hb dX7_init_119 (by decide) ?_
  refine lv_iload_n hx hb dX7_init_120 rfl (lv_at hl 1 rfl) ?_
  refine lv_imul hx hb dX7_init_121 ?_
  refine lv_topi (fun z117 ez117 => ?_)
  obtain rfl : z117 = 20 := by rw [ez117]; decide
  refine lv_iadd hx hb dX7_init_122 ?_
  refine lv_topi (fun z118 ez118 => ?_)
  obtain rfl : z118 = 21 := by rw [ez118]; decide
  refine lv_iload_n hx hb dX7_init_123 rfl (lv_at hl 0 rfl) ?_
  refine lv_iadd hx hb dX7_init_124 ?_
  refine lv_topi (fun z119 ez119 => ?_)
  obtain rfl : z119 = 21 := by rw [ez119]; decide
  refine lv_iload_n hx hb dX7_init_125 rfl (lv_at hl 1 rfl) ?_
  refine lv_iconst (v := 2) hx hb dX7_init_126 (by decide) ?_
  refine lv_idiv hx hb dX7_init_127 (by decide) ?_
  refine lv_topi (fun z120 ez120 => ?_)
  obtain rfl : z120 = 2 := by rw [ez120]; decide
  refine lv_iload_n hx hb dX7_init_128 rfl (lv_at hl 0 rfl) ?_
  refine lv_icmp_ne (tgt := 146) hx hb dX7_init_129 (by decide) (fun _ => ?_) (fun c0 => absurd c0 (by decide))
  refine lv_iconst (v := 0) hx hb dX7_init_146 (by decide) ?_
  refine va_iast (D := (dC, dI)) hx hb hK hP hD hS 1 0 rfl rfl (by unfold vp_in; decide) dX7_init_147 (fun H locs hP hD hS => ?_)
  have hP : va_P (dC, dI) vwCl [(h0, .inr (7, [.ref q1, .ref q3, .int 0, .ref q5, .ref q7, .ref q9, .int 0, .int 0, .long 0, .long 1, .ref q11, .int 0, .ref q13, .ref q15, .ref q17, .ref q19])), (q1, .inl (c2, 129, .inl (upd (upd (upd (upd (upd (upd (upd (upd (upd (upd (upd (upd (upd (upd (upd (upd (upd (upd (upd (upd (upd (upd (fun _ => 0) (Int32.toNatClampNeg 0) 6) (Int32.toNatClampNeg 1) 1) (Int32.toNatClampNeg 2) 0) (Int32.toNatClampNeg 3) 0) (Int32.toNatClampNeg 4) 20) (Int32.toNatClampNeg 5) (-1)) (Int32.toNatClampNeg 6) 0) (Int32.toNatClampNeg 7) 0) (Int32.toNatClampNeg 8) 20) (Int32.toNatClampNeg 9) 0) (Int32.toNatClampNeg 10) 1) (Int32.toNatClampNeg 11) 0) (Int32.toNatClampNeg 12) 20) (Int32.toNatClampNeg 13) 0) (Int32.toNatClampNeg 14) (-1)) (Int32.toNatClampNeg 15) 0) (Int32.toNatClampNeg 16) 20) (Int32.toNatClampNeg 17) 0) (Int32.toNatClampNeg 18) 0) (Int32.toNatClampNeg 19) 1) (Int32.toNatClampNeg 20) 20) (Int32.toNatClampNeg 21) 0))), (q3, .inl (c4, 645, .inl (fun _ => 0))), (q5, .inl (c6, 129, .inl (fun _ => 0))), (q7, .inl (c8, 3, .inl (fun _ => 0))), (q9, .inl (c10, 120, .inl (fun _ => 0))), (q11, .inl (c12, 320, .inl (fun _ => 0))), (q13, .inl (c14, 32, .inl (fun _ => 0))), (q15, .inl (c16, 343, .inl (fun _ => 0))), (q17, .inl (c18, 3, .inl (fun _ => 0))), (q19, .inl (c20, 3, .inl (fun _ => 0)))] H := hP
  have hD : va_D A [(h0, .inr (7, [.ref q1, .ref q3, .int 0, .ref q5, .ref q7, .ref q9, .int 0, .int 0, .long 0, .long 1, .ref q11, .int 0, .ref q13, .ref q15, .ref q17, .ref q19])), (q1, .inl (c2, 129, .inl (upd (upd (upd (upd (upd (upd (upd (upd (upd (upd (upd (upd (upd (upd (upd (upd (upd (upd (upd (upd (upd (upd (fun _ => 0) (Int32.toNatClampNeg 0) 6) (Int32.toNatClampNeg 1) 1) (Int32.toNatClampNeg 2) 0) (Int32.toNatClampNeg 3) 0) (Int32.toNatClampNeg 4) 20) (Int32.toNatClampNeg 5) (-1)) (Int32.toNatClampNeg 6) 0) (Int32.toNatClampNeg 7) 0) (Int32.toNatClampNeg 8) 20) (Int32.toNatClampNeg 9) 0) (Int32.toNatClampNeg 10) 1) (Int32.toNatClampNeg 11) 0) (Int32.toNatClampNeg 12) 20) (Int32.toNatClampNeg 13) 0) (Int32.toNatClampNeg 14) (-1)) (Int32.toNatClampNeg 15) 0) (Int32.toNatClampNeg 16) 20) (Int32.toNatClampNeg 17) 0) (Int32.toNatClampNeg 18) 0) (Int32.toNatClampNeg 19) 1) (Int32.toNatClampNeg 20) 20) (Int32.toNatClampNeg 21) 0))), (q3, .inl (c4, 645, .inl (fun _ => 0))), (q5, .inl (c6, 129, .inl (fun _ => 0))), (q7, .inl (c8, 3, .inl (fun _ => 0))), (q9, .inl (c10, 120, .inl (fun _ => 0))), (q11, .inl (c12, 320, .inl (fun _ => 0))), (q13, .inl (c14, 32, .inl (fun _ => 0))), (q15, .inl (c16, 343, .inl (fun _ => 0))), (q17, .inl (c18, 3, .inl (fun _ => 0))), (q19, .inl (c20, 3, .inl (fun _ => 0)))] := hD
  refine lv_iinc (v := 1) (lv' := [(2, .int 1), (1, .int 5), (0, .ref h0)]) hx hb dX7_init_148 hl (k := 0) rfl (by decide) (by decide) rfl (fun ls hl => ?_)
  refine lv_goto (tgt := 109) hx hb dX7_init_151 (by decide) ?_
  refine lv_iload_n hx hb dX7_init_109 rfl (lv_at hl 0 rfl) ?_
  refine lv_iconst (v := 3) hx hb dX7_init_110 (by decide) ?_
  refine lv_icmp_ge (tgt := 154) hx hb dX7_init_111 (by decide) (fun c0 => absurd c0 (by decide)) (fun _ => ?_)
  refine lv_aload_n hx hb dX7_init_114 rfl (lv_at hl 2 rfl) ?_
  refine va_get (D := (dC, dI)) (ci := 7) (v := .ref q1) (C := RX7) (T := TX7) (N := 16) hx hb hts gin_X7 hown hK hP 0 rfl rfl 0 (by decide) (hts _ mw_794) (fun _ h9 => h9) rfl dX7_init_115 ?_
  refine lv_iconst (v := 1) hx hb dX7_init_118 (by decide) ?_
  refine lv_iconst (v := 4) hx hb dX7_init_119 (by decide) ?_
  refine lv_iload_n hx hb dX7_init_120 rfl (lv_at hl 1 rfl) ?_
  refine lv_imul hx hb dX7_init_121 ?_
  refine lv_topi (fun z122 ez122 => ?_)
  obtain rfl : z122 = 20 := by rw [ez122]; decide
  refine lv_iadd hx hb dX7_init_122 ?_
  refine lv_topi (fun z123 ez123 => ?_)
  obtain rfl : z123 = 21 := by rw [ez123]; decide
  refine lv_iload_n hx hb dX7_init_123 rfl (lv_at hl 0 rfl) ?_
  refine lv_iadd hx hb dX7_init_124 ?_
  refine lv_topi (fun z124 ez124 => ?_)
  obtain rfl : z124 = 22 := by rw [ez124]; decide
  refine lv_iload_n hx hb dX7_init_125 rfl (lv_at hl 1 rfl) ?_
  refine lv_iconst (v := 2) hx hb dX7_init_126 (by decide) ?_
  refine lv_idiv hx hb dX7_init_127 (by decide) ?_
  refine lv_topi (fun z125 ez125 => ?_)
  obtain rfl : z125 = 2 := by rw [ez125]; decide
  refine lv_iload_n hx hb dX7_init_128 rfl (lv_at hl 0 rfl) ?_
  refine lv_icmp_ne (tgt := 146) hx hb dX7_init_129 (by decide) (fun _ => ?_) (fun c0 => absurd c0 (by decide))
  refine lv_iconst (v := 0) hx hb dX7_init_146 (by decide) ?_
  refine va_iast (D := (dC, dI)) hx hb hK hP hD hS 1 0 rfl rfl (by unfold vp_in; decide) dX7_init_147 (fun H locs hP hD hS => ?_)
  have hP : va_P (dC, dI) vwCl [(h0, .inr (7, [.ref q1, .ref q3, .int 0, .ref q5, .ref q7, .ref q9, .int 0, .int 0, .long 0, .long 1, .ref q11, .int 0, .ref q13, .ref q15, .ref q17, .ref q19])), (q1, .inl (c2, 129, .inl (upd (upd (upd (upd (upd (upd (upd (upd (upd (upd (upd (upd (upd (upd (upd (upd (upd (upd (upd (upd (upd (upd (upd (fun _ => 0) (Int32.toNatClampNeg 0) 6) (Int32.toNatClampNeg 1) 1) (Int32.toNatClampNeg 2) 0) (Int32.toNatClampNeg 3) 0) (Int32.toNatClampNeg 4) 20) (Int32.toNatClampNeg 5) (-1)) (Int32.toNatClampNeg 6) 0) (Int32.toNatClampNeg 7) 0) (Int32.toNatClampNeg 8) 20) (Int32.toNatClampNeg 9) 0) (Int32.toNatClampNeg 10) 1) (Int32.toNatClampNeg 11) 0) (Int32.toNatClampNeg 12) 20) (Int32.toNatClampNeg 13) 0) (Int32.toNatClampNeg 14) (-1)) (Int32.toNatClampNeg 15) 0) (Int32.toNatClampNeg 16) 20) (Int32.toNatClampNeg 17) 0) (Int32.toNatClampNeg 18) 0) (Int32.toNatClampNeg 19) 1) (Int32.toNatClampNeg 20) 20) (Int32.toNatClampNeg 21) 0) (Int32.toNatClampNeg 22) 0))), (q3, .inl (c4, 645, .inl (fun _ => 0))), (q5, .inl (c6, 129, .inl (fun _ => 0))), (q7, .inl (c8, 3, .inl (fun _ => 0))), (q9, .inl (c10, 120, .inl (fun _ => 0))), (q11, .inl (c12, 320, .inl (fun _ => 0))), (q13, .inl (c14, 32, .inl (fun _ => 0))), (q15, .inl (c16, 343, .inl (fun _ => 0))), (q17, .inl (c18, 3, .inl (fun _ => 0))), (q19, .inl (c20, 3, .inl (fun _ => 0)))] H := hP
  have hD : va_D A [(h0, .inr (7, [.ref q1, .ref q3, .int 0, .ref q5, .ref q7, .ref q9, .int 0, .int 0, .long 0, .long 1, .ref q11, .int 0, .ref q13, .ref q15, .ref q17, .ref q19])), (q1, .inl (c2, 129, .inl (upd (upd (upd (upd (upd (upd (upd (upd (upd (upd (upd (upd (upd (upd (upd (upd (upd (upd (upd (upd (upd (upd (upd (fun _ => 0) (Int32.toNatClampNeg 0) 6) (Int32.toNatClampNeg 1) 1) (Int32.toNatClampNeg 2) 0) (Int32.toNatClampNeg 3) 0) (Int32.toNatClampNeg 4) 20) (Int32.toNatClampNeg 5) (-1)) (Int32.toNatClampNeg 6) 0) (Int32.toNatClampNeg 7) 0) (Int32.toNatClampNeg 8) 20) (Int32.toNatClampNeg 9) 0) (Int32.toNatClampNeg 10) 1) (Int32.toNatClampNeg 11) 0) (Int32.toNatClampNeg 12) 20) (Int32.toNatClampNeg 13) 0) (Int32.toNatClampNeg 14) (-1)) (Int32.toNatClampNeg 15) 0) (Int32.toNatClampNeg 16) 20) (Int32.toNatClampNeg 17) 0) (Int32.toNatClampNeg 18) 0) (Int32.toNatClampNeg 19) 1) (Int32.toNatClampNeg 20) 20) (Int32.toNatClampNeg 21) 0) (Int32.toNatClampNeg 22) 0))), (q3, .inl (c4, 645, .inl (fun _ => 0))), (q5, .inl (c6, 129, .inl (fun _ => 0))), (q7, .inl (c8, 3, .inl (fun _ => 0))), (q9, .inl (c10, 120, .inl (fun _ => 0))), (q11, .inl (c12, 320, .inl (fun _ => 0))), (q13, .inl (c14, 32, .inl (fun _ => 0))), (q15, .inl (c16, 343, .inl (fun _ => 0))), (q17, .inl (c18, 3, .inl (fun _ => 0))), (q19, .inl (c20, 3, .inl (fun _ => 0)))] := hD
  refine lv_iinc (v := 2) (lv' := [(2, .int 2), (1, .int 5), (0, .ref h0)]) hx hb dX7_init_148 hl (k := 0) rfl (by decide) (by decide) rfl (fun ls hl => ?_)
  refine lv_goto (tgt := 109) hx hb dX7_init_151 (by decide) ?_
  refine lv_iload_n hx hb dX7_init_109 rfl (lv_at hl 0 rfl) ?_
  refine lv_iconst (v := 3) hx hb dX7_init_110 (by decide) ?_
  refine lv_icmp_ge (tgt := 154) hx hb dX7_init_111 (by decide) (fun c0 => absurd c0 (by decide)) (fun _ => ?_)
  refine lv_aload_n hx hb dX7_init_114 rfl (lv_at hl 2 rfl) ?_
  refine va_get (D := (dC, dI)) (ci := 7) (v := .ref q1) (C := RX7) (T := TX7) (N := 16) hx hb hts gin_X7 hown hK hP 0 rfl rfl 0 (by decide) (hts _ mw_794) (fun _ h9 => h9) rfl dX7_init_115 ?_
  refine lv_iconst (v := 1) hx hb dX7_init_118 (by decide) ?_
  refine lv_iconst (v := 4) hx hb dX7_init_119 (by decide) ?_
  refine lv_iload_n hx hb dX7_init_120 rfl (lv_at hl 1 rfl) ?_
  refine lv_imul hx hb dX7_init_121 ?_
  refine lv_topi (fun z127 ez127 => ?_)
  obtain rfl : z127 = 20 := by rw [ez127]; decide
  refine lv_iadd hx hb dX7_init_122 ?_
  refine lv_topi (fun z128 ez128 => ?_)
  obtain rfl : z128 = 21 := by rw [ez128]; decide
  refine lv_iload_n hx hb dX7_init_123 rfl (lv_at hl 0 rfl) ?_
  refine lv_iadd hx hb dX7_init_124 ?_
  refine lv_topi (fun z129 ez129 => ?_)
  obtain rfl : z129 = 23 := by rw [ez129]; decide
  refine lv_iload_n hx hb dX7_init_125 rfl (lv_at hl 1 rfl) ?_
  refine lv_iconst (v := 2) hx hb dX7_init_126 (by decide) ?_
  refine lv_idiv hx hb dX7_init_127 (by decide) ?_
  refine lv_topi (fun z130 ez130 => ?_)
  obtain rfl : z130 = 2 := by rw [ez130]; decide
  refine lv_iload_n hx hb dX7_init_128 rfl (lv_at hl 0 rfl) ?_
  refine lv_icmp_ne (tgt := 146) hx hb dX7_init_129 (by decide) (fun c0 => absurd c0 (by decide)) (fun _ => ?_)
  refine lv_iload_n hx hb dX7_init_132 rfl (lv_at hl 1 rfl) ?_
  refine lv_iconst (v := 2) hx hb dX7_init_133 (by decide) ?_
  refine lv_irem hx hb dX7_init_134 (by decide) ?_
  refine lv_topi (fun z131 ez131 => ?_)
  obtain rfl : z131 = 1 := by rw [ez131]; decide
  refine lv_if_ne (tgt := 142) hx hb dX7_init_135 (by decide) (fun _ => ?_) (fun c0 => absurd c0 (by decide))
  refine lv_iconst (v := (-1)) hx hb dX7_init_142 (by decide) ?_
  refine lv_goto (tgt := 147) hx hb dX7_init_143 (by decide) ?_
  refine va_iast (D := (dC, dI)) hx hb hK hP hD hS 1 0 rfl rfl (by unfold vp_in; decide) dX7_init_147 (fun H locs hP hD hS => ?_)
  have hP : va_P (dC, dI) vwCl [(h0, .inr (7, [.ref q1, .ref q3, .int 0, .ref q5, .ref q7, .ref q9, .int 0, .int 0, .long 0, .long 1, .ref q11, .int 0, .ref q13, .ref q15, .ref q17, .ref q19])), (q1, .inl (c2, 129, .inl (upd (upd (upd (upd (upd (upd (upd (upd (upd (upd (upd (upd (upd (upd (upd (upd (upd (upd (upd (upd (upd (upd (upd (upd (fun _ => 0) (Int32.toNatClampNeg 0) 6) (Int32.toNatClampNeg 1) 1) (Int32.toNatClampNeg 2) 0) (Int32.toNatClampNeg 3) 0) (Int32.toNatClampNeg 4) 20) (Int32.toNatClampNeg 5) (-1)) (Int32.toNatClampNeg 6) 0) (Int32.toNatClampNeg 7) 0) (Int32.toNatClampNeg 8) 20) (Int32.toNatClampNeg 9) 0) (Int32.toNatClampNeg 10) 1) (Int32.toNatClampNeg 11) 0) (Int32.toNatClampNeg 12) 20) (Int32.toNatClampNeg 13) 0) (Int32.toNatClampNeg 14) (-1)) (Int32.toNatClampNeg 15) 0) (Int32.toNatClampNeg 16) 20) (Int32.toNatClampNeg 17) 0) (Int32.toNatClampNeg 18) 0) (Int32.toNatClampNeg 19) 1) (Int32.toNatClampNeg 20) 20) (Int32.toNatClampNeg 21) 0) (Int32.toNatClampNeg 22) 0) (Int32.toNatClampNeg 23) (-1)))), (q3, .inl (c4, 645, .inl (fun _ => 0))), (q5, .inl (c6, 129, .inl (fun _ => 0))), (q7, .inl (c8, 3, .inl (fun _ => 0))), (q9, .inl (c10, 120, .inl (fun _ => 0))), (q11, .inl (c12, 320, .inl (fun _ => 0))), (q13, .inl (c14, 32, .inl (fun _ => 0))), (q15, .inl (c16, 343, .inl (fun _ => 0))), (q17, .inl (c18, 3, .inl (fun _ => 0))), (q19, .inl (c20, 3, .inl (fun _ => 0)))] H := hP
  have hD : va_D A [(h0, .inr (7, [.ref q1, .ref q3, .int 0, .ref q5, .ref q7, .ref q9, .int 0, .int 0, .long 0, .long 1, .ref q11, .int 0, .ref q13, .ref q15, .ref q17, .ref q19])), (q1, .inl (c2, 129, .inl (upd (upd (upd (upd (upd (upd (upd (upd (upd (upd (upd (upd (upd (upd (upd (upd (upd (upd (upd (upd (upd (upd (upd (upd (fun _ => 0) (Int32.toNatClampNeg 0) 6) (Int32.toNatClampNeg 1) 1) (Int32.toNatClampNeg 2) 0) (Int32.toNatClampNeg 3) 0) (Int32.toNatClampNeg 4) 20) (Int32.toNatClampNeg 5) (-1)) (Int32.toNatClampNeg 6) 0) (Int32.toNatClampNeg 7) 0) (Int32.toNatClampNeg 8) 20) (Int32.toNatClampNeg 9) 0) (Int32.toNatClampNeg 10) 1) (Int32.toNatClampNeg 11) 0) (Int32.toNatClampNeg 12) 20) (Int32.toNatClampNeg 13) 0) (Int32.toNatClampNeg 14) (-1)) (Int32.toNatClampNeg 15) 0) (Int32.toNatClampNeg 16) 20) (Int32.toNatClampNeg 17) 0) (Int32.toNatClampNeg 18) 0) (Int32.toNatClampNeg 19) 1) (Int32.toNatClampNeg 20) 20) (Int32.toNatClampNeg 21) 0) (Int32.toNatClampNeg 22) 0) (Int32.toNatClampNeg 23) (-1)))), (q3, .inl (c4, 645, .inl (fun _ => 0))), (q5, .inl (c6, 129, .inl (fun _ => 0))), (q7, .inl (c8, 3, .inl (fun _ => 0))), (q9, .inl (c10, 120, .inl (fun _ => 0))), (q11, .inl (c12, 320, .inl (fun _ => 0))), (q13, .inl (c14, 32, .inl (fun _ => 0))), (q15, .inl (c16, 343, .inl (fun _ => 0))), (q17, .inl (c18, 3, .inl (fun _ => 0))), (q19, .inl (c20, 3, .inl (fun _ => 0)))] := hD
  refine lv_iinc (v := 3) (lv' := [(2, .int 3), (1, .int 5), (0, .ref h0)]) hx hb dX7_init_148 hl (k := 0) rfl (by decide) (by decide) rfl (fun ls hl => ?_)
  refine lv_goto (tgt := 109) hx hb dX7_init_151 (by decide) ?_
  refine lv_iload_n hx hb dX7_init_109 rfl (lv_at hl 0 rfl) ?_
  refine lv_iconst (v := 3) hx hb dX7_init_110 (by decide) ?_
  refine lv_icmp_ge (tgt := 154) hx hb dX7_init_111 (by decide) (fun _ => ?_) (fun c0 => absurd (by decide) c0)
  refine lv_aload_n hx hb dX7_init_154 rfl (lv_at hl 2 rfl) ?_
  refine va_get (D := (dC, dI)) (ci := 7) (v := .ref q1) (C := RX7) (T := TX7) (N := 16) hx hb hts gin_X7 hown hK hP 0 rfl rfl 0 (by decide) (hts _ mw_794) (fun _ h9 => h9) rfl dX7_init_155 ?_
  refine lv_iconst (v := 4) hx hb dX7_init_158 (by decide) ?_
  refine lv_iconst (v := 4) hx hb dX7_init_159 (by decide) ?_
  refine lv_iload_n hx hb dX7_init_160 rfl (lv_at hl 1 rfl) ?_
  refine lv_imul hx hb dX7_init_161 ?_
  refine lv_topi (fun z133 ez133 => ?_)
  obtain rfl : z133 = 20 := by rw [ez133]; decide
  refine lv_iadd hx hb dX7_init_162 ?_
  refine lv_topi (fun z134 ez134 => ?_)
  obtain rfl : z134 = 24 := by rw [ez134]; decide
  refine lv_bipush (v := 20) hx hb dX7_init_163 (by decide) ?_
  refine va_iast (D := (dC, dI)) hx hb hK hP hD hS 1 0 rfl rfl (by unfold vp_in; decide) dX7_init_165 (fun H locs hP hD hS => ?_)
  have hP : va_P (dC, dI) vwCl [(h0, .inr (7, [.ref q1, .ref q3, .int 0, .ref q5, .ref q7, .ref q9, .int 0, .int 0, .long 0, .long 1, .ref q11, .int 0, .ref q13, .ref q15, .ref q17, .ref q19])), (q1, .inl (c2, 129, .inl (upd (upd (upd (upd (upd (upd (upd (upd (upd (upd (upd (upd (upd (upd (upd (upd (upd (upd (upd (upd (upd (upd (upd (upd (upd (fun _ => 0) (Int32.toNatClampNeg 0) 6) (Int32.toNatClampNeg 1) 1) (Int32.toNatClampNeg 2) 0) (Int32.toNatClampNeg 3) 0) (Int32.toNatClampNeg 4) 20) (Int32.toNatClampNeg 5) (-1)) (Int32.toNatClampNeg 6) 0) (Int32.toNatClampNeg 7) 0) (Int32.toNatClampNeg 8) 20) (Int32.toNatClampNeg 9) 0) (Int32.toNatClampNeg 10) 1) (Int32.toNatClampNeg 11) 0) (Int32.toNatClampNeg 12) 20) (Int32.toNatClampNeg 13) 0) (Int32.toNatClampNeg 14) (-1)) (Int32.toNatClampNeg 15) 0) (Int32.toNatClampNeg 16) 20) (Int32.toNatClampNeg 17) 0) (Int32.toNatClampNeg 18) 0) (Int32.toNatClampNeg 19) 1) (Int32.toNatClampNeg 20) 20) (Int32.toNatClampNeg 21) 0) (Int32.toNatClampNeg 22) 0) (Int32.toNatClampNeg 23) (-1)) (Int32.toNatClampNeg 24) 20))), (q3, .inl (c4, 645, .inl (fun _ => 0))), (q5, .inl (c6, 129, .inl (fun _ => 0))), (q7, .inl (c8, 3, .inl (fun _ => 0))), (q9, .inl (c10, 120, .inl (fun _ => 0))), (q11, .inl (c12, 320, .inl (fun _ => 0))), (q13, .inl (c14, 32, .inl (fun _ => 0))), (q15, .inl (c16, 343, .inl (fun _ => 0))), (q17, .inl (c18, 3, .inl (fun _ => 0))), (q19, .inl (c20, 3, .inl (fun _ => 0)))] H := hP
  have hD : va_D A [(h0, .inr (7, [.ref q1, .ref q3, .int 0, .ref q5, .ref q7, .ref q9, .int 0, .int 0, .long 0, .long 1, .ref q11, .int 0, .ref q13, .ref q15, .ref q17, .ref q19])), (q1, .inl (c2, 129, .inl (upd (upd (upd (upd (upd (upd (upd (upd (upd (upd (upd (upd (upd (upd (upd (upd (upd (upd (upd (upd (upd (upd (upd (upd (upd (fun _ => 0) (Int32.toNatClampNeg 0) 6) (Int32.toNatClampNeg 1) 1) (Int32.toNatClampNeg 2) 0) (Int32.toNatClampNeg 3) 0) (Int32.toNatClampNeg 4) 20) (Int32.toNatClampNeg 5) (-1)) (Int32.toNatClampNeg 6) 0) (Int32.toNatClampNeg 7) 0) (Int32.toNatClampNeg 8) 20) (Int32.toNatClampNeg 9) 0) (Int32.toNatClampNeg 10) 1) (Int32.toNatClampNeg 11) 0) (Int32.toNatClampNeg 12) 20) (Int32.toNatClampNeg 13) 0) (Int32.toNatClampNeg 14) (-1)) (Int32.toNatClampNeg 15) 0) (Int32.toNatClampNeg 16) 20) (Int32.toNatClampNeg 17) 0) (Int32.toNatClampNeg 18) 0) (Int32.toNatClampNeg 19) 1) (Int32.toNatClampNeg 20) 20) (Int32.toNatClampNeg 21) 0) (Int32.toNatClampNeg 22) 0) (Int32.toNatClampNeg 23) (-1)) (Int32.toNatClampNeg 24) 20))), (q3, .inl (c4, 645, .inl (fun _ => 0))), (q5, .inl (c6, 129, .inl (fun _ => 0))), (q7, .inl (c8, 3, .inl (fun _ => 0))), (q9, .inl (c10, 120, .inl (fun _ => 0))), (q11, .inl (c12, 320, .inl (fun _ => 0))), (q13, .inl (c14, 32, .inl (fun _ => 0))), (q15, .inl (c16, 343, .inl (fun _ => 0))), (q17, .inl (c18, 3, .inl (fun _ => 0))), (q19, .inl (c20, 3, .inl (fun _ => 0)))] := hD
  refine lv_iinc (v := 6) (lv' := [(1, .int 6), (2, .int 3), (0, .ref h0)]) hx hb dX7_init_166 hl (k := 1) rfl (by decide) (by decide) rfl (fun ls hl => ?_)
  refine lv_goto (tgt := 101) hx hb dX7_init_169 (by decide) ?_
  refine lv_iload_n hx hb dX7_init_101 rfl (lv_at hl 0 rfl) ?_
  refine lv_bipush (v := 6) hx hb dX7_init_102 (by decide) ?_
  refine lv_icmp_ge (tgt := 172) hx hb dX7_init_104 (by decide) (fun _ => ?_) (fun c0 => absurd (by decide) c0)
  exact W.vret hx hb hr (fun t ht hW => ⟨⟨(), rfl, trivial, q1, q3, q5, q7, q9, q11, q13, q15, q17, q19, c2, c4, c6, c8, c10, c12, c14, c16, c18, c20, by rw [ht]; exact hP, va_K.moved hW.alike hK, hD⟩, hS.F ht⟩) hS.2.2 dX7_init_172
