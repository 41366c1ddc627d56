set_option maxRecDepth 100000 in
theorem g_stF {args : Array Value} {s : State} {A : Nat → Prop} (h : (Jvm.Cond.and given_1 narrow_1).before args s = true) (hA : ∀ a : Nat, a < s.heap.size → ¬ A a) (hl : (Cond.laysStatic RX6 "TURN_FROM" "[I").before args s = true) (hini : (Cond.initialized RX6).before args s = true) : ∃ t : Nat, va_Z RX6 "TURN_FROM" "[I" (.ref t) A s s.heap ∧ va_T .int t 18 (fun j => .int (g_tf.getD j 0)) A s s.heap := by
  have hq := flat_of_before _ h
  have harr : (Cond.arrayOf (.static "CrystalCuts" "TURN_FROM" "[I") .int).before args s = true := hq _ (by decide +kernel)
  have hlen : (Cond.eq (.length (.static "CrystalCuts" "TURN_FROM" "[I")) (.int 18)).before args s = true := hq _ (by decide +kernel)
  have e0 : (Cond.eq (.elem (.static "CrystalCuts" "TURN_FROM" "[I") (.int 0)) (.int 0)).before args s = true := hq _ (by decide +kernel)
  have e1 : (Cond.eq (.elem (.static "CrystalCuts" "TURN_FROM" "[I") (.int 1)) (.int 1)).before args s = true := hq _ (by decide +kernel)
  have e2 : (Cond.eq (.elem (.static "CrystalCuts" "TURN_FROM" "[I") (.int 2)) (.int 2)).before args s = true := hq _ (by decide +kernel)
  have e3 : (Cond.eq (.elem (.static "CrystalCuts" "TURN_FROM" "[I") (.int 3)) (.int 0)).before args s = true := hq _ (by decide +kernel)
  have e4 : (Cond.eq (.elem (.static "CrystalCuts" "TURN_FROM" "[I") (.int 4)) (.int 1)).before args s = true := hq _ (by decide +kernel)
  have e5 : (Cond.eq (.elem (.static "CrystalCuts" "TURN_FROM" "[I") (.int 5)) (.int 2)).before args s = true := hq _ (by decide +kernel)
  have e6 : (Cond.eq (.elem (.static "CrystalCuts" "TURN_FROM" "[I") (.int 6)) (.int 0)).before args s = true := hq _ (by decide +kernel)
  have e7 : (Cond.eq (.elem (.static "CrystalCuts" "TURN_FROM" "[I") (.int 7)) (.int 1)).before args s = true := hq _ (by decide +kernel)
  have e8 : (Cond.eq (.elem (.static "CrystalCuts" "TURN_FROM" "[I") (.int 8)) (.int 2)).before args s = true := hq _ (by decide +kernel)
  have e9 : (Cond.eq (.elem (.static "CrystalCuts" "TURN_FROM" "[I") (.int 9)) (.int 1)).before args s = true := hq _ (by decide +kernel)
  have e10 : (Cond.eq (.elem (.static "CrystalCuts" "TURN_FROM" "[I") (.int 10)) (.int 0)).before args s = true := hq _ (by decide +kernel)
  have e11 : (Cond.eq (.elem (.static "CrystalCuts" "TURN_FROM" "[I") (.int 11)) (.int 2)).before args s = true := hq _ (by decide +kernel)
  have e12 : (Cond.eq (.elem (.static "CrystalCuts" "TURN_FROM" "[I") (.int 12)) (.int 2)).before args s = true := hq _ (by decide +kernel)
  have e13 : (Cond.eq (.elem (.static "CrystalCuts" "TURN_FROM" "[I") (.int 13)) (.int 0)).before args s = true := hq _ (by decide +kernel)
  have e14 : (Cond.eq (.elem (.static "CrystalCuts" "TURN_FROM" "[I") (.int 14)) (.int 1)).before args s = true := hq _ (by decide +kernel)
  have e15 : (Cond.eq (.elem (.static "CrystalCuts" "TURN_FROM" "[I") (.int 15)) (.int 1)).before args s = true := hq _ (by decide +kernel)
  have e16 : (Cond.eq (.elem (.static "CrystalCuts" "TURN_FROM" "[I") (.int 16)) (.int 0)).before args s = true := hq _ (by decide +kernel)
  have e17 : (Cond.eq (.elem (.static "CrystalCuts" "TURN_FROM" "[I") (.int 17)) (.int 2)).before args s = true := hq _ (by decide +kernel)
  obtain ⟨t, ht, hT⟩ := va_Tof (tm := (.static "CrystalCuts" "TURN_FROM" "[I")) (ty := .int) (N := 18) (f := fun j => .int (g_tf.getD j 0)) (A := A) (by decide) harr (va_eqt hlen) (fun j hj => by
    rcases (show j = 0 ∨ j = 1 ∨ j = 2 ∨ j = 3 ∨ j = 4 ∨ j = 5 ∨ j = 6 ∨ j = 7 ∨ j = 8 ∨ j = 9 ∨ j = 10 ∨ j = 11 ∨ j = 12 ∨ j = 13 ∨ j = 14 ∨ j = 15 ∨ j = 16 ∨ j = 17 by omega) with rfl | rfl | rfl | rfl | rfl | rfl | rfl | rfl | rfl | rfl | rfl | rfl | rfl | rfl | rfl | rfl | rfl | rfl
    · exact va_eqt e0
    · exact va_eqt e1
    · exact va_eqt e2
    · exact va_eqt e3
    · exact va_eqt e4
    · exact va_eqt e5
    · exact va_eqt e6
    · exact va_eqt e7
    · exact va_eqt e8
    · exact va_eqt e9
    · exact va_eqt e10
    · exact va_eqt e11
    · exact va_eqt e12
    · exact va_eqt e13
    · exact va_eqt e14
    · exact va_eqt e15
    · exact va_eqt e16
    · exact va_eqt e17
    ) hA
  exact ⟨t, va_Zref hl hini ht hA, hT⟩
set_option maxRecDepth 100000 in
theorem g_stS {args : Array Value} {s : State} {A : Nat → Prop} (h : (Jvm.Cond.and given_1 narrow_1).before args s = true) (hA : ∀ a : Nat, a < s.heap.size → ¬ A a) (hl : (Cond.laysStatic RX6 "TURN_SIGN" "[I").before args s = true) (hini : (Cond.initialized RX6).before args s = true) : ∃ t : Nat, va_Z RX6 "TURN_SIGN" "[I" (.ref t) A s s.heap ∧ va_T .int t 18 (fun j => .int (g_ts.getD j 0)) A s s.heap := by
  have hq := flat_of_before _ h
  have harr : (Cond.arrayOf (.static "CrystalCuts" "TURN_SIGN" "[I") .int).before args s = true := hq _ (by decide +kernel)
  have hlen : (Cond.eq (.length (.static "CrystalCuts" "TURN_SIGN" "[I")) (.int 18)).before args s = true := hq _ (by decide +kernel)
  have e0 : (Cond.eq (.elem (.static "CrystalCuts" "TURN_SIGN" "[I") (.int 0)) (.int (-1))).before args s = true := hq _ (by decide +kernel)
  have e1 : (Cond.eq (.elem (.static "CrystalCuts" "TURN_SIGN" "[I") (.int 1)) (.int (-1))).before args s = true := hq _ (by decide +kernel)
  have e2 : (Cond.eq (.elem (.static "CrystalCuts" "TURN_SIGN" "[I") (.int 2)) (.int (-1))).before args s = true := hq _ (by decide +kernel)
  have e3 : (Cond.eq (.elem (.static "CrystalCuts" "TURN_SIGN" "[I") (.int 3)) (.int (-1))).before args s = true := hq _ (by decide +kernel)
  have e4 : (Cond.eq (.elem (.static "CrystalCuts" "TURN_SIGN" "[I") (.int 4)) (.int 1)).before args s = true := hq _ (by decide +kernel)
  have e5 : (Cond.eq (.elem (.static "CrystalCuts" "TURN_SIGN" "[I") (.int 5)) (.int 1)).before args s = true := hq _ (by decide +kernel)
  have e6 : (Cond.eq (.elem (.static "CrystalCuts" "TURN_SIGN" "[I") (.int 6)) (.int (-1))).before args s = true := hq _ (by decide +kernel)
  have e7 : (Cond.eq (.elem (.static "CrystalCuts" "TURN_SIGN" "[I") (.int 7)) (.int (-1))).before args s = true := hq _ (by decide +kernel)
  have e8 : (Cond.eq (.elem (.static "CrystalCuts" "TURN_SIGN" "[I") (.int 8)) (.int 1)).before args s = true := hq _ (by decide +kernel)
  have e9 : (Cond.eq (.elem (.static "CrystalCuts" "TURN_SIGN" "[I") (.int 9)) (.int (-1))).before args s = true := hq _ (by decide +kernel)
  have e10 : (Cond.eq (.elem (.static "CrystalCuts" "TURN_SIGN" "[I") (.int 10)) (.int 1)).before args s = true := hq _ (by decide +kernel)
  have e11 : (Cond.eq (.elem (.static "CrystalCuts" "TURN_SIGN" "[I") (.int 11)) (.int 1)).before args s = true := hq _ (by decide +kernel)
  have e12 : (Cond.eq (.elem (.static "CrystalCuts" "TURN_SIGN" "[I") (.int 12)) (.int 1)).before args s = true := hq _ (by decide +kernel)
  have e13 : (Cond.eq (.elem (.static "CrystalCuts" "TURN_SIGN" "[I") (.int 13)) (.int 1)).before args s = true := hq _ (by decide +kernel)
  have e14 : (Cond.eq (.elem (.static "CrystalCuts" "TURN_SIGN" "[I") (.int 14)) (.int 1)).before args s = true := hq _ (by decide +kernel)
  have e15 : (Cond.eq (.elem (.static "CrystalCuts" "TURN_SIGN" "[I") (.int 15)) (.int 1)).before args s = true := hq _ (by decide +kernel)
  have e16 : (Cond.eq (.elem (.static "CrystalCuts" "TURN_SIGN" "[I") (.int 16)) (.int 1)).before args s = true := hq _ (by decide +kernel)
  have e17 : (Cond.eq (.elem (.static "CrystalCuts" "TURN_SIGN" "[I") (.int 17)) (.int 1)).before args s = true := hq _ (by decide +kernel)
  obtain ⟨t, ht, hT⟩ := va_Tof (tm := (.static "CrystalCuts" "TURN_SIGN" "[I")) (ty := .int) (N := 18) (f := fun j => .int (g_ts.getD j 0)) (A := A) (by decide) harr (va_eqt hlen) (fun j hj => by
    rcases (show j = 0 ∨ j = 1 ∨ j = 2 ∨ j = 3 ∨ j = 4 ∨ j = 5 ∨ j = 6 ∨ j = 7 ∨ j = 8 ∨ j = 9 ∨ j = 10 ∨ j = 11 ∨ j = 12 ∨ j = 13 ∨ j = 14 ∨ j = 15 ∨ j = 16 ∨ j = 17 by omega) with rfl | rfl | rfl | rfl | rfl | rfl | rfl | rfl | rfl | rfl | rfl | rfl | rfl | rfl | rfl | rfl | rfl | rfl
    · exact va_eqt e0
    · exact va_eqt e1
    · exact va_eqt e2
    · exact va_eqt e3
    · exact va_eqt e4
    · exact va_eqt e5
    · exact va_eqt e6
    · exact va_eqt e7
    · exact va_eqt e8
    · exact va_eqt e9
    · exact va_eqt e10
    · exact va_eqt e11
    · exact va_eqt e12
    · exact va_eqt e13
    · exact va_eqt e14
    · exact va_eqt e15
    · exact va_eqt e16
    · exact va_eqt e17
    ) hA
  exact ⟨t, va_Zref hl hini ht hA, hT⟩
set_option maxHeartbeats 4000000 in
set_option maxRecDepth 100000 in
/-- behind both constructors -/
theorem k_tail {Inv : (Nat → Int32) → (Nat → Nat → Int32) → (Nat → Int64) → Prop} (hSt : gSteps Inv) (hI0 : Inv g_I g_A g_L) {Ln : Nat} {xs : Nat → Int32} (hL : Ln ≤ 3072) {p : Program} {l : Launch} {e : Env} {s : State} {m : MethodId} {below : List Frame} {meth : Method} {c : Code} {dC : Nat → ClassId} {dI : Nat → Nat → Nat} {ad : Nat → Nat} {cA : Nat → ClassId} {b : Nat} (hx : p.tables.exec = Jvm.exec) (hb : c.code = code) (hr : meth.sig.returnType = ret) (hml : c.maxLocals = 4) (hown : s.vm.findClass RL = some m.cls) (hts : ∀ w ∈ gT, w.before #[Value.ref b] s = true) (hlocks : meth.locks = false) (hN : kN s) (hX : va_X b Ln xs s s.heap) (hbl : b < s.heap.size) {q0 qm : Nat} {H : Heap} {locs : List Loc} {ls : Array Slot} (hS : va_S (fun q : Nat => s.heap.size ≤ q) s.heap H locs) (hl : lv_has ls 4 [(2, .ref qm), (1, .ref q0), (0, .ref b)])
    (h70 : va_P (dC, dI) vwCl (gW 70 cA ad g_I g_A g_L) H ∧ va_K (dC, dI) vwCl (gTy 70 cA) s ∧ (∀ a b, a < 70 → b < 70 → ad a = ad b → a = b) ∧ ∀ a, a < 70 → s.heap.size ≤ ad a) (hZ : kZ (ad 70) (ad 71) (fun q : Nat => s.heap.size ≤ q) s) (e0 : ad 0 = q0) (em : ad 59 = qm) (eb : ad 72 = b) {pc : Nat} (hpc : pc = 16) :
    W p l e room_1 s m #[Value.ref b] below meth c H locs 600000 7302250 (lw_Z below #[Value.ref b] s) (F0 m pc ls []) := by
  subst hpc; subst e0; subst em; subst eb
  obtain ⟨hP, hK, hj, hge⟩ := h70
  have hsub : ∀ q, gA 70 ad q → s.heap.size ≤ q := by
    rintro q ⟨a, h1, rfl⟩
    exact hge a h1
  have hF : gF 70 dC dI ad cA s := ⟨hK, hN.1, hj, ⟨hZ.1.1.narrow hsub, hZ.1.2.narrow hsub⟩, hZ.2.1.narrow hsub, hZ.2.2.narrow hsub⟩
  have hlt : ∀ q, q < s.heap.size → ¬ gA 70 ad q → H[q]? = s.heap[q]? := fun q h1 _ => hS.2.1 q h1 (Nat.not_le.mpr h1)
  refine va_forget (fun q hq => hS.2.2 q hq) ?_
  have hS : va_S (gA 70 ad) s.heap H [] := ⟨hS.1, hlt, fun q hq => absurd hq List.not_mem_nil⟩
  refine lv_iconst (v := 0) hx hb dL_law_16 (by decide) ?_
  refine lv_istore_n (lv' := [(3, .int 0), (2, .ref (ad 59)), (1, .ref (ad 0)), (0, .ref (ad 72))]) hx hb dL_law_17 rfl hl (by decide) rfl (fun ls hl => ?_)
  have hl : lv_has ls 4 (gPr ad [some (.ref 72), some (.ref 0), some (.ref 59), some (.int 0)]) := lv_sub hl [3, 2, 1, 0] rfl
  exact lw_loop hSt hL (Ln + 1) 0 0 g_I g_A g_L (Nat.zero_le _) (by omega) rfl hI0 p l e s m _ below meth c dC dI ad cA ⟨⟨hx, hb, hr, hml, hown, hts, hlocks, hF⟩, rfl, hX, hbl, hge⟩ H [] ls hP hS hl
set_option maxHeartbeats 4000000 in
set_option maxRecDepth 100000 in
theorem whole_open {Inv : (Nat → Int32) → (Nat → Nat → Int32) → (Nat → Int64) → Prop} (hSt : gSteps Inv) (hI0 : Inv g_I g_A g_L) {p : Program} {e : Env} {s : State} {m : MethodId} {below : List Frame} {meth : Method} {c : Code} (l : Launch) {b L : Nat} {xs : Nat → Int32} (hL : L ≤ 3072) (C0 : lw_At p s m meth c b L xs) : W p l e room_1 s m #[Value.ref b] below meth c s.heap [] 0 0 (lw_Z below #[Value.ref b] s) (entryFrame m ([Value.ref b] : List Value).toArray 4) := by
  obtain ⟨hx, hb, hr, hml, hown, htsA, hX, hbl, hlocks, hgv⟩ := C0
  have hts : ∀ w ∈ gT, w.before #[Value.ref b] s = true := fun w hw => htsA w (List.mem_filter.mp hw).1
  have hown : s.vm.findClass RL = some m.cls := hown
  have hN : kN s := ⟨fun w wa wb => va_Nw.of (g_nest_on wb) (htsA w wa), va_AO.of (htsA _ mw_166)⟩
  have hA : ∀ q : Nat, s.heap.size ≤ q → (fun q : Nat => s.heap.size ≤ q) q := fun _ h => h
  have hnA : ∀ a : Nat, a < s.heap.size → ¬ (fun q : Nat => s.heap.size ≤ q) a := fun a h => Nat.not_le.mpr h
  obtain ⟨tf, hz1, hz2⟩ := g_stF hgv hnA (htsA _ mw_454) (hts _ mw_100)
  obtain ⟨ts, hz3, hz4⟩ := g_stS hgv hnA (htsA _ mw_456) (hts _ mw_100)
  have hZ : kZ tf ts (fun q : Nat => s.heap.size ≤ q) s := ⟨⟨hz1, hz2⟩, hz3, hz4⟩
  obtain ⟨c0, iS0, hKn0⟩ := u_known (C := RX0) (T := TX0) (N := 3) (n := 3) hts gin_X0 (hts _ mw_269)
  obtain ⟨c1, iS1, hKn1⟩ := u_known (C := RX1) (T := TX1) (N := 11) (n := 11) hts gin_X1 (hts _ mw_186)
  obtain ⟨c2, iS2, hKn2⟩ := u_known (C := RX2) (T := TX2) (N := 5) (n := 5) hts gin_X2 (hts _ mw_121)
  obtain ⟨c3, iS3, hKn3⟩ := u_known (C := RX3) (T := TX3) (N := 9) (n := 9) hts gin_X3 (hts _ mw_291)
  obtain ⟨c4, iS4, hKn4⟩ := u_known (C := RX4) (T := TX4) (N := 9) (n := 9) hts gin_X4 (hts _ mw_180)
  obtain ⟨c5, iS5, hKn5⟩ := u_known (C := RX5) (T := TX5) (N := 3) (n := 3) hts gin_X5 (hts _ mw_160)
  obtain ⟨c6, iS6, hKn6⟩ := u_known (C := RX6) (T := TX6) (N := 16) (n := 16) hts gin_X6 (hts _ mw_113)
  obtain ⟨c7, iS7, hKn7⟩ := u_known (C := RX7) (T := TX7) (N := 16) (n := 16) hts gin_X7 (hts _ mw_789)
  obtain ⟨dC, dI, hKc⟩ : ∃ (dC : Nat → ClassId) (dI : Nat → Nat → Nat), ∀ (k : Nat) (q : vw_C), vwCl[k]? = some q → u_Kn s q.1 q.2.1 q.2.2 (dC k) (dI k) := by
    refine ⟨fun k => ([c0, c1, c2, c3, c4, c5, c6, c7] : List ClassId).getD k c0, fun k => ([iS0, iS1, iS2, iS3, iS4, iS5, iS6, iS7] : List (Nat → Nat)).getD k iS0, ?_⟩
    intro k q hq
    match k, hq with
    | 0, hq => cases hq; exact hKn0
    | 1, hq => cases hq; exact hKn1
    | 2, hq => cases hq; exact hKn2
    | 3, hq => cases hq; exact hKn3
    | 4, hq => cases hq; exact hKn4
    | 5, hq => cases hq; exact hKn5
    | 6, hq => cases hq; exact hKn6
    | 7, hq => cases hq; exact hKn7
    | k + 8, hq => simp [vwCl] at hq
  have hS : va_S (fun q : Nat => s.heap.size ≤ q) s.heap s.heap [] := va_S.rf
  have hK : va_K (dC, dI) vwCl [] s := ⟨hKc, fun k q h => by simp at h⟩
  have hP : va_P (dC, dI) vwCl [] s.heap := fun k q h => by simp at h
  have hD : va_D (fun q : Nat => s.heap.size ≤ q) [] := ⟨fun i j p q h => by simp at h, fun k q h => by simp at h⟩
  have hl := lv_entry ([.ref b]) (n := 4) (Nat.le_of_ble_eq_true rfl)
  rw [lg_entry_eq]
  generalize (lg_sl ([.ref b]) ++ List.replicate (4 - (lg_sl ([.ref b])).length) Slot.unset).toArray = ls at hl ⊢
  have hl : lv_has ls 4 [(0, .ref b)] := hl
  refine va_new (ci := 6) (fs := [.null, .null, .null, .null, .null, .null, .null, .int 0, .int 0, .int 0, .int 0, .int 0, .int 0, .int 0, .int 0, .int 0]) (C := RX6) (T := TX6) (N := 16) hx hb hts gin_X6 tyX6 tyX6_ok hown (hts _ mw_112) (hts _ mw_113) (hts _ mw_100) hK hP hD hS hA rfl kfs_X6 (Nat.le_of_ble_eq_true rfl) (Nat.le_of_ble_eq_true rfl) dL_law_0 (fun q0 H hP hD hS => ?_)
  have hP : va_P (dC, dI) vwCl [(q0, .inr (6, [.null, .null, .null, .null, .null, .null, .null, .int 0, .int 0, .int 0, .int 0, .int 0, .int 0, .int 0, .int 0, .int 0]))] H := hP
  have hD : va_D (fun q : Nat => s.heap.size ≤ q) [(q0, .inr (6, [.null, .null, .null, .null, .null, .null, .null, .int 0, .int 0, .int 0, .int 0, .int 0, .int 0, .int 0, .int 0, .int 0]))] := hD
  refine W.widen (k := 1) (n := 16) (Nat.le_of_ble_eq_true rfl) (Nat.le_of_ble_eq_true rfl) ?_
  refine lv_dup hx hb dL_law_3 rfl ?_
  have hFc := va_free (wc := [(q0, .inr (6, [.null, .null, .null, .null, .null, .null, .null, .int 0, .int 0, .int 0, .int 0, .int 0, .int 0, .int 0, .int 0, .int 0]))]) hD hS hA [0] rfl
  have hPc := hP
  have hDc := hD
  refine va_callv (va_runI (As := []) (rest := [.ref q0]) ⟨hx, hb, hml, hown, hts⟩ (k_X6_init l dC dI q0 H.size tf ts) ⟨callB_of 0 hts (g_good mw_116) rfl rfl rfl (hts _ mw_100) (hts _ mw_114) (by decide +kernel) ⟨Nat.le_of_ble_eq_true rfl, Nat.le_of_ble_eq_true rfl⟩, rfl, hts _ mw_115⟩ ⟨kPz_blind, fun U hU hW => ⟨⟨rfl, by rw [hU], by rw [hU]; exact hPc, va_K.moved hW.alike hK, hDc.weaken (fun _ _ _ _ => trivial), kN_moved hW hN⟩, ?_⟩⟩ rfl rfl hl.1 rfl (lv_room (Nat.le_of_ble_eq_true rfl)) dL_law_4 ⟨Nat.le_of_ble_eq_true rfl, Nat.le_of_ble_eq_true rfl⟩) hS (fun q _ h => hFc q h) hFc (fun u t H1 locs ht hvm hw hB hz1 hk1 hS => ?_)
  · unfold kZ
    rw [hU]
    exact ⟨⟨((hZ.1.1.moved hW.alike).kept hS.2.1).narrow hFc, ((hZ.1.2.moved hW.alike).kept hS.2.1).narrow hFc⟩, ((hZ.2.1.moved hW.alike).kept hS.2.1).narrow hFc, ((hZ.2.2.moved hW.alike).kept hS.2.1).narrow hFc⟩
  obtain ⟨ad, cA, ea0, hP1, hK1, hD1⟩ := hB
  rw [ht] at hP1
  have hK1 := va_K.moved hvm.symm hK1
  obtain ⟨hP, hD⟩ := va_join (wr := []) (w1 := (gW 59 cA ad (va_up g_b0.1 12 1) g_b0.2.1 g_b0.2.2)) hP hD [0] [] rfl rfl (by decide) (by decide) hk1 hFc hP1 hD1
  generalize H1 = H at hP hS ⊢
  have hP : va_P (dC, dI) vwCl (gW 59 cA ad (va_up g_b0.1 12 1) g_b0.2.1 g_b0.2.2) H := hP
  have hD : va_D (fun q : Nat => s.heap.size ≤ q) (gW 59 cA ad (va_up g_b0.1 12 1) g_b0.2.1 g_b0.2.2) := hD
  have hK : va_K (dC, dI) vwCl (gTy 59 cA) s := hK1
  refine lv_astore_n (lv' := [(1, .ref q0), (0, .ref b)]) hx hb dL_law_7 rfl hl (by decide) rfl (fun ls hl => ?_)
  refine va_new (ci := 7) (fs := [.null, .null, .int 0, .null, .null, .null, .int 0, .int 0, .long 0, .long 0, .null, .int 0, .null, .null, .null, .null]) (C := RX7) (T := TX7) (N := 16) hx hb hts gin_X7 tyX7 tyX7_ok hown (hts _ mw_788) (hts _ mw_789) (hts _ mw_107) hK hP hD hS hA rfl kfs_X7 (Nat.le_of_ble_eq_true rfl) (Nat.le_of_ble_eq_true rfl) dL_law_8 (fun qm H hP hD hS => ?_)
  refine W.widen (k := 60) (n := 2522) (Nat.le_of_ble_eq_true rfl) (Nat.le_of_ble_eq_true rfl) ?_
  refine lv_dup hx hb dL_law_11 rfl ?_
  have hlenG : (gW 59 cA ad (va_up g_b0.1 12 1) g_b0.2.1 g_b0.2.2).length = 59 := gW_len _ _ _ _ _
  have hat : ((gW 59 cA ad (va_up g_b0.1 12 1) g_b0.2.1 g_b0.2.2) ++ [(qm, .inr (7, [.null, .null, .int 0, .null, .null, .null, .int 0, .int 0, .long 0, .long 0, .null, .int 0, .null, .null, .null, .null]))])[59]? = some (qm, .inr (7, [.null, .null, .int 0, .null, .null, .null, .int 0, .int 0, .long 0, .long 0, .null, .int 0, .null, .null, .null, .null])) := by rw [List.getElem?_append_right (by rw [hlenG]; omega), hlenG]; rfl
  have hFc := va_free (wc := [(qm, .inr (7, [.null, .null, .int 0, .null, .null, .null, .int 0, .int 0, .long 0, .long 0, .null, .int 0, .null, .null, .null, .null]))]) hD hS hA [59] (by rw [List.map_cons, List.map_nil, hat]; rfl)
  have hPc : va_P (dC, dI) vwCl [(qm, .inr (7, [.null, .null, .int 0, .null, .null, .null, .int 0, .int 0, .long 0, .long 0, .null, .int 0, .null, .null, .null, .null]))] H := fun k q hq => by
    match k, hq with
    | 0, hq => cases hq; exact hP 59 _ hat
    | k + 1, hq => simp at hq
  have hDc : va_D (fun q : Nat => s.heap.size ≤ q) [(qm, .inr (7, [.null, .null, .int 0, .null, .null, .null, .int 0, .int 0, .long 0, .long 0, .null, .int 0, .null, .null, .null, .null]))] := hD.sub [59] (by decide) (by rw [List.map_cons, List.map_nil, hat]; rfl)
  have hKc2 := hK.sub (tys' := []) [] rfl
  refine va_callv (va_runI (As := []) (rest := [.ref qm]) ⟨hx, hb, hml, hown, hts⟩ (k_X7_init l dC dI qm H.size) ⟨callB_of 0 hts (g_good mw_792) rfl rfl rfl (hts _ mw_107) (hts _ mw_790) (by decide +kernel) ⟨Nat.le_of_ble_eq_true rfl, Nat.le_of_ble_eq_true rfl⟩, rfl, hts _ mw_791⟩ ⟨kPc_blind, fun U hU hW => ⟨rfl, by rw [hU], by rw [hU]; exact hPc, va_K.moved hW.alike hKc2, hDc.weaken (fun _ _ _ _ => trivial), kN_moved hW hN⟩⟩ rfl rfl hl.1 rfl (lv_room (Nat.le_of_ble_eq_true rfl)) dL_law_12 ⟨Nat.le_of_ble_eq_true rfl, Nat.le_of_ble_eq_true rfl⟩) hS (fun q _ h => hFc q h) hFc (fun u t H1 locs ht hvm hw hB hz1 hk1 hS => ?_)
  obtain ⟨m0, m1, m2, m3, m4, m5, m6, m7, m8, m9, n0, n1, n2, n3, n4, n5, n6, n7, n8, n9, hP1, hK1, hD1⟩ := hB
  rw [ht] at hP1
  have hK1 := va_K.moved hvm.symm hK1
  obtain ⟨hP, hD⟩ := va_join (wr := (gW 59 cA ad (va_up g_b0.1 12 1) g_b0.2.1 g_b0.2.2)) (w1 := [(qm, .inr (7, [.ref m0, .ref m1, .int 0, .ref m2, .ref m3, .ref m4, .int 0, .int 0, .long 0, .long 1, .ref m5, .int 0, .ref m6, .ref m7, .ref m8, .ref m9])), (m0, .inl (n0, 129, .inl (upd (upd (upd (upd (upd (upd (upd (upd (upd (upd (upd (upd (upd (upd (upd (upd (upd (upd (upd (upd (upd (upd (upd (upd (upd (fun _ => 0) (Int32.toNatClampNeg 0) 6) (Int32.toNatClampNeg 1) 1) (Int32.toNatClampNeg 2) 0) (Int32.toNatClampNeg 3) 0) (Int32.toNatClampNeg 4) 20) (Int32.toNatClampNeg 5) (-1)) (Int32.toNatClampNeg 6) 0) (Int32.toNatClampNeg 7) 0) (Int32.toNatClampNeg 8) 20) (Int32.toNatClampNeg 9) 0) (Int32.toNatClampNeg 10) 1) (Int32.toNatClampNeg 11) 0) (Int32.toNatClampNeg 12) 20) (Int32.toNatClampNeg 13) 0) (Int32.toNatClampNeg 14) (-1)) (Int32.toNatClampNeg 15) 0) (Int32.toNatClampNeg 16) 20) (Int32.toNatClampNeg 17) 0) (Int32.toNatClampNeg 18) 0) (Int32.toNatClampNeg 19) 1) (Int32.toNatClampNeg 20) 20) (Int32.toNatClampNeg 21) 0) (Int32.toNatClampNeg 22) 0) (Int32.toNatClampNeg 23) (-1)) (Int32.toNatClampNeg 24) 20))), (m1, .inl (n1, 645, .inl (fun _ => 0))), (m2, .inl (n2, 129, .inl (fun _ => 0))), (m3, .inl (n3, 3, .inl (fun _ => 0))), (m4, .inl (n4, 120, .inl (fun _ => 0))), (m5, .inl (n5, 320, .inl (fun _ => 0))), (m6, .inl (n6, 32, .inl (fun _ => 0))), (m7, .inl (n7, 343, .inl (fun _ => 0))), (m8, .inl (n8, 3, .inl (fun _ => 0))), (m9, .inl (n9, 3, .inl (fun _ => 0)))]) hP hD [59] (List.range 59) (by rw [List.map_cons, List.map_nil, hat]; rfl) (by
    apply List.ext_getElem?
    intro j
    rw [List.getElem?_map, List.getElem?_map]
    rcases Nat.lt_or_ge j 59 with h | h
    · rw [List.getElem?_range h]
      show some (((gW 59 cA ad (va_up g_b0.1 12 1) g_b0.2.1 g_b0.2.2) ++ [(qm, .inr (7, [.null, .null, .int 0, .null, .null, .null, .int 0, .int 0, .long 0, .long 0, .null, .int 0, .null, .null, .null, .null]))])[j]?) = _
      rw [List.getElem?_append_left (by rw [hlenG]; exact h), gW_get _ _ _ _ _ h]; rfl
    · rw [List.getElem?_eq_none (by simpa using h), List.getElem?_eq_none (by rw [hlenG]; exact h)]; rfl) (by decide) (by decide) hk1 hFc hP1 hD1
  have hK := hK.app hK1
  generalize H1 = H at hP hS ⊢
  refine W.widen (k := 600000) (n := 7302250) (Nat.le_of_ble_eq_true rfl) (Nat.le_of_ble_eq_true rfl) ?_
  refine lv_astore_n (lv' := [(2, .ref qm), (1, .ref q0), (0, .ref b)]) hx hb dL_law_15 rfl hl (by decide) rfl (fun ls hl => ?_)
  have h70 := k_70 (cA0 := cA) (cA := (fun a => if a < 59 then cA a else ([n0, n0, n1, n2, n3, n4, n5, n6, n7, n8, n9] : List ClassId).getD (a - 59) n0)) (ad0 := ad) (ad := (fun a => if a < 59 then ad a else ([qm, m0, m1, m2, m3, m4, m5, m6, m7, m8, m9, tf, ts, b] : List Nat).getD (a - 59) 0)) (I0 := va_up g_b0.1 12 1) (I := g_I) (A0 := g_b0.2.1) (A := g_A) (L0 := g_b0.2.2) (L := g_L) (fun a h => if_pos h) (fun a h => if_pos h) (fun n h => rfl) (fun a h => va_up_other _ _ (by omega)) (fun n h => va_up_other _ _ (by omega)) ⟨rfl, rfl, rfl, rfl⟩ ⟨rfl, rfl⟩ ⟨va_up_same _ _ _, fun a h1 h2 => by
    rcases (show a = 61 ∨ a = 62 ∨ a = 63 ∨ a = 64 ∨ a = 65 ∨ a = 66 ∨ a = 67 ∨ a = 68 ∨ a = 69 by omega) with rfl | rfl | rfl | rfl | rfl | rfl | rfl | rfl | rfl <;> rfl⟩ rfl hP hD hK
  exact k_tail hSt hI0 hL hx hb hr hml hown hts hlocks hN hX hbl hS hl h70 hZ ea0 rfl rfl rfl
