set_option maxHeartbeats 4000000 in
set_option maxRecDepth 100000 in
theorem c_X2_put_6 (a0 : Int32) (a1 : Int32) (a2 : Int32) (a3 : Int32) {I : Nat → Int32} {A : Nat → Nat → Int32} {L : Nat → Int64} {I' : Nat → Int32} {A' : Nat → Nat → Int32} {L' : Nat → Int64} (h : f_X2_put 6 a0 a1 a2 a3 I A L = some (I', A', L')) : GM yX2_put cX2_put 5 none 0 [.ref 6, .int a0, .int a1, .int a2, .int a3] I A L (none, (I', A', L')) := by
  refine gm_of (n := 0) (lc := [some (.ref 6), some (.int a0), some (.int a1), some (.int a2), some (.int a3)]) (by decide +kernel) rfl (fun _ => Nat.le_of_ble_eq_true rfl) ?_
  change Ev RX2 cX2_put 5 none 0 0 [some (.ref 6), some (.int a0), some (.int a1), some (.int a2), some (.int a3)] [] I A L _
  unfold f_X2_put at h
  refine e_aload_n (pc' := 1) (i := 0) rfl rfl dX2_put_0 rfl ?_
  refine e_getI (a := 6) (n := 100) (k0 := 4) (pc' := 4) dX2_put_1 rfl rfl (Nat.le_of_ble_eq_true rfl) rfl mw_142 rfl ?_
  refine e_bipush (v := 32) (pc' := 6) (by decide) dX2_put_4 rfl ?_
  refine e_icmp_ge (tgt := 60) (pc' := 9) dX2_put_6 (by decide) rfl h (fun h => ?_) (fun h => ?_)
  · obtain ⟨rfl, rfl, rfl⟩ := g_re3 h
    exact e_vret dX2_put_60
  · refine e_aload_n (pc' := 10) (i := 0) rfl rfl dX2_put_9 rfl ?_
    refine e_getR (a := 6) (b := 7) (k0 := 0) (pc' := 13) dX2_put_10 rfl rfl (Nat.le_of_ble_eq_true rfl) rfl mw_126 rfl ?_
    refine e_aload_n (pc' := 14) (i := 0) rfl rfl dX2_put_13 rfl ?_
    refine e_getI (a := 6) (n := 100) (k0 := 4) (pc' := 17) dX2_put_14 rfl rfl (Nat.le_of_ble_eq_true rfl) rfl mw_142 rfl ?_
    refine e_iload_n (pc' := 18) (i := 1) rfl rfl dX2_put_17 rfl ?_
    refine e_iast (n := 32) (pc' := 19) dX2_put_18 rfl rfl h (fun h => ?_)
    refine e_ltA h (fun A1 h => ?_)
    refine e_aload_n (pc' := 20) (i := 0) rfl rfl dX2_put_19 rfl ?_
    refine e_getR (a := 6) (b := 8) (k0 := 1) (pc' := 23) dX2_put_20 rfl rfl (Nat.le_of_ble_eq_true rfl) rfl mw_130 rfl ?_
    refine e_aload_n (pc' := 24) (i := 0) rfl rfl dX2_put_23 rfl ?_
    refine e_getI (a := 6) (n := 100) (k0 := 4) (pc' := 27) dX2_put_24 rfl rfl (Nat.le_of_ble_eq_true rfl) rfl mw_142 rfl ?_
    refine e_iload_n (pc' := 28) (i := 2) rfl rfl dX2_put_27 rfl ?_
    refine e_iast (n := 32) (pc' := 29) dX2_put_28 rfl rfl h (fun h => ?_)
    refine e_ltA h (fun A2 h => ?_)
    refine e_aload_n (pc' := 30) (i := 0) rfl rfl dX2_put_29 rfl ?_
    refine e_getR (a := 6) (b := 9) (k0 := 2) (pc' := 33) dX2_put_30 rfl rfl (Nat.le_of_ble_eq_true rfl) rfl mw_134 rfl ?_
    refine e_aload_n (pc' := 34) (i := 0) rfl rfl dX2_put_33 rfl ?_
    refine e_getI (a := 6) (n := 100) (k0 := 4) (pc' := 37) dX2_put_34 rfl rfl (Nat.le_of_ble_eq_true rfl) rfl mw_142 rfl ?_
    refine e_iload_n (pc' := 38) (i := 3) rfl rfl dX2_put_37 rfl ?_
    refine e_iast (n := 32) (pc' := 39) dX2_put_38 rfl rfl h (fun h => ?_)
    refine e_ltA h (fun A3 h => ?_)
    refine e_aload_n (pc' := 40) (i := 0) rfl rfl dX2_put_39 rfl ?_
    refine e_getR (a := 6) (b := 10) (k0 := 3) (pc' := 43) dX2_put_40 rfl rfl (Nat.le_of_ble_eq_true rfl) rfl mw_138 rfl ?_
    refine e_aload_n (pc' := 44) (i := 0) rfl rfl dX2_put_43 rfl ?_
    refine e_getI (a := 6) (n := 100) (k0 := 4) (pc' := 47) dX2_put_44 rfl rfl (Nat.le_of_ble_eq_true rfl) rfl mw_142 rfl ?_
    refine e_iload (pc' := 49) (i := 4) rfl dX2_put_47 rfl ?_
    refine e_iast (n := 32) (pc' := 50) dX2_put_49 rfl rfl h (fun h => ?_)
    refine e_ltA h (fun A4 h => ?_)
    refine e_aload_n (pc' := 51) (i := 0) rfl rfl dX2_put_50 rfl ?_
    refine e_dup (pc' := 52) rfl dX2_put_51 rfl ?_
    refine e_getI (a := 6) (n := 100) (k0 := 4) (pc' := 55) dX2_put_52 rfl rfl (Nat.le_of_ble_eq_true rfl) rfl mw_142 rfl ?_
    refine e_iconst (v := 1) (pc' := 56) (by decide) dX2_put_55 rfl ?_
    refine e_iadd (pc' := 57) dX2_put_56 rfl ?_
    refine e_putI (a := 6) (n := 100) (k0 := 4) (pc' := 60) dX2_put_57 rfl rfl (Nat.le_of_ble_eq_true rfl) rfl mw_142 rfl rfl g_pI rfl rfl ?_
    refine e_ltI h (fun I5 h => ?_)
    obtain ⟨rfl, rfl, rfl⟩ := g_re3 h
    exact e_vret dX2_put_60
set_option maxHeartbeats 4000000 in
set_option maxRecDepth 100000 in
theorem w_X2_putFamily_6_54_p2  : ∀ (n : Nat) (x2 : Int32) (x3 : Int32) (I : Nat → Int32) (A : Nat → Nat → Int32) (L : Nat → Int64) (t : gS), f_X2_putFamily_p2 6 54 n x2 x3 I A L = some t → Ev RX2 cX2_putFamily 5 none 1 2 [some (.ref 6), some (.ref 54), some (.int x2), some (.int x3), none] [] I A L (none, t) := by
  intro n
  induction n with
  | zero =>
    intro x2 x3 I A L t h
    cases h
  | succ n ih =>
    intro x2 x3 I A L t h
    rw [f_X2_putFamily_p2] at h
    refine e_iload_n (pc' := 3) (i := 3) rfl rfl dX2_putFamily_2 rfl ?_
    refine e_aload_n (pc' := 4) (i := 1) rfl rfl dX2_putFamily_3 rfl ?_
    refine e_getIN (a := 54) (n := 866) (k0 := 2) (pc' := 7) dX2_putFamily_4 rfl rfl (Nat.le_of_ble_eq_true rfl) rfl mw_280 rfl ?_
    refine e_icmp_ge (tgt := 53) (pc' := 10) dX2_putFamily_7 (by decide) rfl h (fun h => ?_) (fun h => ?_)
    · obtain rfl := g_re1 h
      exact e_vret dX2_putFamily_53
    · refine e_aload_n (pc' := 11) (i := 1) rfl rfl dX2_putFamily_10 rfl ?_
      refine e_getRN (a := 54) (b := 56) (k0 := 1) (pc' := 14) dX2_putFamily_11 rfl rfl (Nat.le_of_ble_eq_true rfl) rfl mw_276 rfl ?_
      refine e_iload_n (pc' := 15) (i := 3) rfl rfl dX2_putFamily_14 rfl ?_
      refine e_iald (n := 48) (pc' := 16) dX2_putFamily_15 rfl rfl h (fun h => ?_)
      refine e_lt h (fun v1 h => ?_)
      refine e_istore (pc' := 18) (i := 4) (lc' := [some (.ref 6), some (.ref 54), some (.int x2), some (.int x3), some (.int v1)]) dX2_putFamily_16 rfl (Nat.le_of_ble_eq_true rfl) rfl rfl ?_
      refine e_aload_n (pc' := 19) (i := 0) rfl rfl dX2_putFamily_18 rfl ?_
      refine e_iload (pc' := 21) (i := 4) rfl dX2_putFamily_19 rfl ?_
      refine e_bipush (v := 100) (pc' := 23) (by decide) dX2_putFamily_21 rfl ?_
      refine e_idiv (pc' := 24) (by decide) dX2_putFamily_23 rfl ?_
      refine e_iconst (v := 3) (pc' := 25) (by decide) dX2_putFamily_24 rfl ?_
      refine e_isub (pc' := 26) dX2_putFamily_25 rfl ?_
      refine e_iload (pc' := 28) (i := 4) rfl dX2_putFamily_26 rfl ?_
      refine e_bipush (v := 10) (pc' := 30) (by decide) dX2_putFamily_28 rfl ?_
      refine e_idiv (pc' := 31) (by decide) dX2_putFamily_30 rfl ?_
      refine e_bipush (v := 10) (pc' := 33) (by decide) dX2_putFamily_31 rfl ?_
      refine e_irem (pc' := 34) (by decide) dX2_putFamily_33 rfl ?_
      refine e_iconst (v := 3) (pc' := 35) (by decide) dX2_putFamily_34 rfl ?_
      refine e_isub (pc' := 36) dX2_putFamily_35 rfl ?_
      refine e_iload (pc' := 38) (i := 4) rfl dX2_putFamily_36 rfl ?_
      refine e_bipush (v := 10) (pc' := 40) (by decide) dX2_putFamily_38 rfl ?_
      refine e_irem (pc' := 41) (by decide) dX2_putFamily_40 rfl ?_
      refine e_iconst (v := 3) (pc' := 42) (by decide) dX2_putFamily_41 rfl ?_
      refine e_isub (pc' := 43) dX2_putFamily_42 rfl ?_
      refine e_iload_n (pc' := 44) (i := 2) rfl rfl dX2_putFamily_43 rfl ?_
      obtain ⟨I3, A4, L5, hF2, h⟩ := g_b1_e h
      refine e_callV_v (pc' := 47) dX2_putFamily_44 rfl mw_331 mv_X2_put rfl (Nat.le_of_ble_eq_true rfl) (Nat.le_of_ble_eq_true rfl) rfl (Nat.le_of_ble_eq_true rfl) rfl (c_X2_put_6 _ _ _ _ hF2) rfl ?_
      refine e_iinc (pc' := 50) (v := (x3 + 1)) (lc' := [some (.ref 6), some (.ref 54), some (.int x2), some (.int (x3 + 1)), some (.int v1)]) dX2_putFamily_47 rfl rfl rfl (Nat.le_of_ble_eq_true rfl) rfl rfl ?_
      refine e_goto (tgt := 2) dX2_putFamily_50 (by decide) ?_
      exact e_weak (lc' := [some (.ref 6), some (.ref 54), some (.int x2), some (.int (x3 + 1)), none]) (gle_s (gle_s (gle_s (gle_s (gle_n gle_0))))) (ih _ _ _ _ _ _ h)
set_option maxHeartbeats 4000000 in
set_option maxRecDepth 100000 in
theorem c_X2_putFamily_6_54 (a0 : Int32) {I : Nat → Int32} {A : Nat → Nat → Int32} {L : Nat → Int64} {I' : Nat → Int32} {A' : Nat → Nat → Int32} {L' : Nat → Int64} (h : f_X2_putFamily 6 54 a0 I A L = some (I', A', L')) : GM yX2_putFamily cX2_putFamily 5 none 1 [.ref 6, .ref 54, .int a0] I A L (none, (I', A', L')) := by
  refine gm_of (n := 2) (lc := [some (.ref 6), some (.ref 54), some (.int a0), none, none]) (by decide +kernel) rfl (fun _ => Nat.le_of_ble_eq_true rfl) ?_
  change Ev RX2 cX2_putFamily 5 none 1 0 [some (.ref 6), some (.ref 54), some (.int a0), none, none] [] I A L _
  unfold f_X2_putFamily at h
  refine e_iconst (v := 0) (pc' := 1) (by decide) dX2_putFamily_0 rfl ?_
  refine e_istore_n (pc' := 2) (i := 3) (lc' := [some (.ref 6), some (.ref 54), some (.int a0), some (.int 0), none]) rfl dX2_putFamily_1 rfl (Nat.le_of_ble_eq_true rfl) rfl rfl ?_
  exact e_weak (lc' := [some (.ref 6), some (.ref 54), some (.int a0), some (.int 0), none]) (gle_s (gle_s (gle_s (gle_s (gle_n gle_0))))) (w_X2_putFamily_6_54_p2  _ _ _ _ _ _ _ h)
set_option maxHeartbeats 4000000 in
set_option maxRecDepth 100000 in
theorem c_X3_endOne_6_54  {I : Nat → Int32} {A : Nat → Nat → Int32} {L : Nat → Int64} {t : Int32} {I' : Nat → Int32} {A' : Nat → Nat → Int32} {L' : Nat → Int64} (h : f_X3_endOne 6 54  I A L = some (t, I', A', L')) : GM yX3_endOne cX3_endOne 3 (some .boolean) 3 [.ref 57, .ref 6, .ref 54] I A L (some (.int t), (I', A', L')) := by
  refine gm_of (n := 0) (lc := [some (.ref 57), some (.ref 6), some (.ref 54)]) (by decide +kernel) rfl (fun _ => Nat.le_of_ble_eq_true rfl) ?_
  change Ev RX3 cX3_endOne 3 (some .boolean) 3 0 [some (.ref 57), some (.ref 6), some (.ref 54)] [] I A L _
  unfold f_X3_endOne at h
  refine e_aload_n (pc' := 1) (i := 0) rfl rfl dX3_endOne_0 rfl ?_
  obtain ⟨v5, I2, A3, L4, hF1, h⟩ := g_b2_e h
  refine e_callV_i (pc' := 4) dX3_endOne_1 rfl mw_737 mv_X3_look rfl (Nat.le_of_ble_eq_true rfl) (Nat.le_of_ble_eq_true rfl) rfl (Nat.le_of_ble_eq_true rfl) rfl (c_X3_look hF1) rfl ?_
  refine e_bipush (v := 59) (pc' := 6) (by decide) dX3_endOne_4 rfl ?_
  refine e_icmp_eq (tgt := 11) (pc' := 9) dX3_endOne_6 (by decide) rfl h (fun h => ?_) (fun h => ?_)
  · refine e_aload_n (pc' := 12) (i := 2) rfl rfl dX3_endOne_11 rfl ?_
    refine e_aload_n (pc' := 13) (i := 0) rfl rfl dX3_endOne_12 rfl ?_
    refine e_getI (a := 57) (n := 915) (k0 := 3) (pc' := 16) dX3_endOne_13 rfl rfl (Nat.le_of_ble_eq_true rfl) rfl mw_302 rfl ?_
    refine e_aload_n (pc' := 17) (i := 0) rfl rfl dX3_endOne_16 rfl ?_
    refine e_getI (a := 57) (n := 916) (k0 := 4) (pc' := 20) dX3_endOne_17 rfl rfl (Nat.le_of_ble_eq_true rfl) rfl mw_303 rfl ?_
    refine e_aload_n (pc' := 21) (i := 0) rfl rfl dX3_endOne_20 rfl ?_
    refine e_getI (a := 57) (n := 917) (k0 := 5) (pc' := 24) dX3_endOne_21 rfl rfl (Nat.le_of_ble_eq_true rfl) rfl mw_304 rfl ?_
    refine e_aload_n (pc' := 25) (i := 0) rfl rfl dX3_endOne_24 rfl ?_
    refine e_getI (a := 57) (n := 918) (k0 := 6) (pc' := 28) dX3_endOne_25 rfl rfl (Nat.le_of_ble_eq_true rfl) rfl mw_305 rfl ?_
    obtain ⟨I7, A8, L9, hF6, h⟩ := g_b1_e h
    refine e_callVN_v (pc' := 31) dX3_endOne_28 rfl mw_759 mv_X0_gather rfl (Nat.le_of_ble_eq_true rfl) (Nat.le_of_ble_eq_true rfl) rfl (Nat.le_of_ble_eq_true rfl) rfl (c_X0_gather _ _ _ _ hF6) rfl ?_
    refine e_aload_n (pc' := 32) (i := 1) rfl rfl dX3_endOne_31 rfl ?_
    refine e_getIN (a := 6) (n := 100) (k0 := 4) (pc' := 35) dX3_endOne_32 rfl rfl (Nat.le_of_ble_eq_true rfl) rfl mw_146 rfl ?_
    refine e_aload_n (pc' := 36) (i := 2) rfl rfl dX3_endOne_35 rfl ?_
    refine e_getIN (a := 54) (n := 866) (k0 := 2) (pc' := 39) dX3_endOne_36 rfl rfl (Nat.le_of_ble_eq_true rfl) rfl mw_281 rfl ?_
    refine e_iadd (pc' := 40) dX3_endOne_39 rfl ?_
    refine e_bipush (v := 32) (pc' := 42) (by decide) dX3_endOne_40 rfl ?_
    refine e_icmp_le (tgt := 47) (pc' := 45) dX3_endOne_42 (by decide) rfl h (fun h => ?_) (fun h => ?_)
    · refine e_aload_n (pc' := 48) (i := 1) rfl rfl dX3_endOne_47 rfl ?_
      refine e_aload_n (pc' := 49) (i := 2) rfl rfl dX3_endOne_48 rfl ?_
      refine e_aload_n (pc' := 50) (i := 0) rfl rfl dX3_endOne_49 rfl ?_
      refine e_getI (a := 57) (n := 919) (k0 := 7) (pc' := 53) dX3_endOne_50 rfl rfl (Nat.le_of_ble_eq_true rfl) rfl mw_306 rfl ?_
      obtain ⟨I11, A12, L13, hF10, h⟩ := g_b1_e h
      refine e_callVN_v (pc' := 56) dX3_endOne_53 rfl mw_760 mv_X2_putFamily rfl (Nat.le_of_ble_eq_true rfl) (Nat.le_of_ble_eq_true rfl) rfl (Nat.le_of_ble_eq_true rfl) rfl (c_X2_putFamily_6_54 _ hF10) rfl ?_
      refine e_aload_n (pc' := 57) (i := 0) rfl rfl dX3_endOne_56 rfl ?_
      refine e_dup (pc' := 58) rfl dX3_endOne_57 rfl ?_
      refine e_getI (a := 57) (n := 914) (k0 := 2) (pc' := 61) dX3_endOne_58 rfl rfl (Nat.le_of_ble_eq_true rfl) rfl mw_300 rfl ?_
      refine e_iconst (v := 1) (pc' := 62) (by decide) dX3_endOne_61 rfl ?_
      refine e_iadd (pc' := 63) dX3_endOne_62 rfl ?_
      refine e_putI (a := 57) (n := 914) (k0 := 2) (pc' := 66) dX3_endOne_63 rfl rfl (Nat.le_of_ble_eq_true rfl) rfl mw_300 rfl rfl g_pI rfl rfl ?_
      refine e_ltI h (fun I14 h => ?_)
      refine e_iconst (v := 1) (pc' := 67) (by decide) dX3_endOne_66 rfl ?_
      obtain ⟨rfl, rfl, rfl, rfl⟩ := g_re4 h
      exact e_zret dX3_endOne_67 (by decide)
    · refine e_iconst (v := 0) (pc' := 46) (by decide) dX3_endOne_45 rfl ?_
      obtain ⟨rfl, rfl, rfl, rfl⟩ := g_re4 h
      exact e_zret dX3_endOne_46 (by decide)
  · refine e_iconst (v := 0) (pc' := 10) (by decide) dX3_endOne_9 rfl ?_
    obtain ⟨rfl, rfl, rfl, rfl⟩ := g_re4 h
    exact e_zret dX3_endOne_10 (by decide)
set_option maxHeartbeats 4000000 in
set_option maxRecDepth 100000 in
theorem w_X3_isColonAhead_p5 (I : Nat → Int32) (A : Nat → Nat → Int32) (L : Nat → Int64) : ∀ (n : Nat) (x1 : Int32) (t : Int32), f_X3_isColonAhead_p5 I A L n x1 = some t → Ev RX3 cX3_isColonAhead 2 (some .boolean) 0 5 [some (.ref 57), some (.int x1)] [] I A L (some (.int t), (I, A, L)) := by
  intro n
  induction n with
  | zero =>
    intro x1 t h
    cases h
  | succ n ih =>
    intro x1 t h
    rw [f_X3_isColonAhead_p5] at h
    refine e_iload_n (pc' := 6) (i := 1) rfl rfl dX3_isColonAhead_5 rfl ?_
    refine e_aload_n (pc' := 7) (i := 0) rfl rfl dX3_isColonAhead_6 rfl ?_
    refine e_getI (a := 57) (n := 913) (k0 := 1) (pc' := 10) dX3_isColonAhead_7 rfl rfl (Nat.le_of_ble_eq_true rfl) rfl mw_298 rfl ?_
    refine e_icmp_ge (tgt := 43) (pc' := 13) dX3_isColonAhead_10 (by decide) rfl h (fun h => ?_) (fun h => ?_)
    · refine e_iconst (v := 0) (pc' := 44) (by decide) dX3_isColonAhead_43 rfl ?_
      obtain rfl := g_re1 h
      exact e_zret dX3_isColonAhead_44 (by decide)
    · refine e_aload_n (pc' := 14) (i := 0) rfl rfl dX3_isColonAhead_13 rfl ?_
      refine e_getR (a := 57) (b := 58) (k0 := 0) (pc' := 17) dX3_isColonAhead_14 rfl rfl (Nat.le_of_ble_eq_true rfl) rfl mw_296 rfl ?_
      refine e_iload_n (pc' := 18) (i := 1) rfl rfl dX3_isColonAhead_17 rfl ?_
      refine e_bald (n := 120) (pc' := 19) dX3_isColonAhead_18 rfl rfl h (fun h => ?_)
      refine e_bipush (v := 59) (pc' := 21) (by decide) dX3_isColonAhead_19 rfl ?_
      refine e_icmp_eq (tgt := 43) (pc' := 24) dX3_isColonAhead_21 (by decide) rfl h (fun h => ?_) (fun h => ?_)
      · refine e_iconst (v := 0) (pc' := 44) (by decide) dX3_isColonAhead_43 rfl ?_
        obtain rfl := g_re1 h
        exact e_zret dX3_isColonAhead_44 (by decide)
      · refine e_aload_n (pc' := 25) (i := 0) rfl rfl dX3_isColonAhead_24 rfl ?_
        refine e_getR (a := 57) (b := 58) (k0 := 0) (pc' := 28) dX3_isColonAhead_25 rfl rfl (Nat.le_of_ble_eq_true rfl) rfl mw_296 rfl ?_
        refine e_iload_n (pc' := 29) (i := 1) rfl rfl dX3_isColonAhead_28 rfl ?_
        refine e_bald (n := 120) (pc' := 30) dX3_isColonAhead_29 rfl rfl h (fun h => ?_)
        refine e_bipush (v := 58) (pc' := 32) (by decide) dX3_isColonAhead_30 rfl ?_
        refine e_icmp_ne (tgt := 37) (pc' := 35) dX3_isColonAhead_32 (by decide) rfl h (fun h => ?_) (fun h => ?_)
        · refine e_iinc (pc' := 40) (v := (x1 + 1)) (lc' := [some (.ref 57), some (.int (x1 + 1))]) dX3_isColonAhead_37 rfl rfl rfl (Nat.le_of_ble_eq_true rfl) rfl rfl ?_
          refine e_goto (tgt := 5) dX3_isColonAhead_40 (by decide) ?_
          exact e_weak (lc' := [some (.ref 57), some (.int (x1 + 1))]) (gle_s (gle_s gle_0)) (ih _ _ h)
        · refine e_iconst (v := 1) (pc' := 36) (by decide) dX3_isColonAhead_35 rfl ?_
          obtain rfl := g_re1 h
          exact e_zret dX3_isColonAhead_36 (by decide)
set_option maxHeartbeats 4000000 in
set_option maxRecDepth 100000 in
theorem c_X3_isColonAhead  {I : Nat → Int32} {A : Nat → Nat → Int32} {L : Nat → Int64} {t : Int32} (h : f_X3_isColonAhead I A L  = some t) : GM yX3_isColonAhead cX3_isColonAhead 2 (some .boolean) 0 [.ref 57] I A L (some (.int t), (I, A, L)) := by
  refine gm_of (n := 1) (lc := [some (.ref 57), none]) (by decide +kernel) rfl (fun _ => Nat.le_of_ble_eq_true rfl) ?_
  change Ev RX3 cX3_isColonAhead 2 (some .boolean) 0 0 [some (.ref 57), none] [] I A L _
  unfold f_X3_isColonAhead at h
  refine e_aload_n (pc' := 1) (i := 0) rfl rfl dX3_isColonAhead_0 rfl ?_
  refine e_getI (a := 57) (n := 914) (k0 := 2) (pc' := 4) dX3_isColonAhead_1 rfl rfl (Nat.le_of_ble_eq_true rfl) rfl mw_300 rfl ?_
  refine e_istore_n (pc' := 5) (i := 1) (lc' := [some (.ref 57), some (.int (I 914))]) rfl dX3_isColonAhead_4 rfl (Nat.le_of_ble_eq_true rfl) rfl rfl ?_
  exact e_weak (lc' := [some (.ref 57), some (.int (I 914))]) (gle_s (gle_s gle_0)) (w_X3_isColonAhead_p5 I A L  _ _ _ h)
set_option maxHeartbeats 4000000 in
set_option maxRecDepth 100000 in
theorem w_X3_readTurns_p38  (k2 : Int32 → (Nat → Int32) → (Nat → Nat → Int32) → (Nat → Int64) → Option (Int32 × gS)) (hk2 : ∀ (x1 : Int32) (I : Nat → Int32) (A : Nat → Nat → Int32) (L : Nat → Int64) (t : (Int32 × gS)), k2 x1 I A L = some t → Ev RX3 cX3_readTurns 3 (some .boolean) 1 2 [some (.ref 57), some (.int x1), none] [] I A L (some (.int t.1), t.2)) : ∀ (x1 : Int32) (x2 : Int32) (I : Nat → Int32) (A : Nat → Nat → Int32) (L : Nat → Int64) (t : (Int32 × gS)), f_X3_readTurns_p38 k2 x1 x2 I A L = some t → Ev RX3 cX3_readTurns 3 (some .boolean) 1 38 [some (.ref 57), some (.int x1), some (.int x2)] [] I A L (some (.int t.1), t.2) := by
  intro x1 x2 I A L t h
  unfold f_X3_readTurns_p38 at h
  refine e_iload_n (pc' := 39) (i := 2) rfl rfl dX3_readTurns_38 rfl ?_
  refine e_bipush (v := 48) (pc' := 41) (by decide) dX3_readTurns_39 rfl ?_
  refine e_icmp_lt (tgt := 50) (pc' := 44) dX3_readTurns_41 (by decide) rfl h (fun h => ?_) (fun h => ?_)
  · refine e_iconst (v := 0) (pc' := 51) (by decide) dX3_readTurns_50 rfl ?_
    obtain rfl := g_re1 h
    exact e_zret dX3_readTurns_51 (by decide)
  · refine e_iload_n (pc' := 45) (i := 2) rfl rfl dX3_readTurns_44 rfl ?_
    refine e_bipush (v := 53) (pc' := 47) (by decide) dX3_readTurns_45 rfl ?_
    refine e_icmp_le (tgt := 52) (pc' := 50) dX3_readTurns_47 (by decide) rfl h (fun h => ?_) (fun h => ?_)
    · refine e_aload_n (pc' := 53) (i := 0) rfl rfl dX3_readTurns_52 rfl ?_
      refine e_dup (pc' := 54) rfl dX3_readTurns_53 rfl ?_
      refine e_getI (a := 57) (n := 915) (k0 := 3) (pc' := 57) dX3_readTurns_54 rfl rfl (Nat.le_of_ble_eq_true rfl) rfl mw_302 rfl ?_
      refine e_iconst (v := 1) (pc' := 58) (by decide) dX3_readTurns_57 rfl ?_
      refine e_iload_n (pc' := 59) (i := 2) rfl rfl dX3_readTurns_58 rfl ?_
      refine e_bipush (v := 48) (pc' := 61) (by decide) dX3_readTurns_59 rfl ?_
      refine e_isub (pc' := 62) dX3_readTurns_61 rfl ?_
      refine e_ishl (pc' := 63) dX3_readTurns_62 rfl ?_
      refine e_ior (pc' := 64) dX3_readTurns_63 rfl ?_
      refine e_putI (a := 57) (n := 915) (k0 := 3) (pc' := 67) dX3_readTurns_64 rfl rfl (Nat.le_of_ble_eq_true rfl) rfl mw_302 rfl rfl g_pI rfl rfl ?_
      refine e_ltI h (fun I1 h => ?_)
      refine e_aload_n (pc' := 68) (i := 0) rfl rfl dX3_readTurns_67 rfl ?_
      refine e_dup (pc' := 69) rfl dX3_readTurns_68 rfl ?_
      refine e_getI (a := 57) (n := 914) (k0 := 2) (pc' := 72) dX3_readTurns_69 rfl rfl (Nat.le_of_ble_eq_true rfl) rfl mw_300 rfl ?_
      refine e_iconst (v := 1) (pc' := 73) (by decide) dX3_readTurns_72 rfl ?_
      refine e_iadd (pc' := 74) dX3_readTurns_73 rfl ?_
      refine e_putI (a := 57) (n := 914) (k0 := 2) (pc' := 77) dX3_readTurns_74 rfl rfl (Nat.le_of_ble_eq_true rfl) rfl mw_300 rfl rfl g_pI rfl rfl ?_
      refine e_ltI h (fun I2 h => ?_)
      refine e_iinc (pc' := 80) (v := (x1 + 1)) (lc' := [some (.ref 57), some (.int (x1 + 1)), some (.int x2)]) dX3_readTurns_77 rfl rfl rfl (Nat.le_of_ble_eq_true rfl) rfl rfl ?_
      refine e_goto (tgt := 2) dX3_readTurns_80 (by decide) ?_
      exact e_weak (lc' := [some (.ref 57), some (.int (x1 + 1)), none]) (gle_s (gle_s (gle_n gle_0))) (hk2 _ _ _ _ _ h)
    · refine e_iconst (v := 0) (pc' := 51) (by decide) dX3_readTurns_50 rfl ?_
      obtain rfl := g_re1 h
      exact e_zret dX3_readTurns_51 (by decide)
set_option maxHeartbeats 4000000 in
set_option maxRecDepth 100000 in
theorem w_X3_readTurns_p2  : ∀ (n : Nat) (x1 : Int32) (I : Nat → Int32) (A : Nat → Nat → Int32) (L : Nat → Int64) (t : (Int32 × gS)), f_X3_readTurns_p2 n x1 I A L = some t → Ev RX3 cX3_readTurns 3 (some .boolean) 1 2 [some (.ref 57), some (.int x1), none] [] I A L (some (.int t.1), t.2) := by
  intro n
  induction n with
  | zero =>
    intro x1 I A L t h
    cases h
  | succ n ih =>
    intro x1 I A L t h
    rw [f_X3_readTurns_p2] at h
    refine e_iload_n (pc' := 3) (i := 1) rfl rfl dX3_readTurns_2 rfl ?_
    refine e_bipush (v := 120) (pc' := 5) (by decide) dX3_readTurns_3 rfl ?_
    refine e_icmp_ge (tgt := 83) (pc' := 8) dX3_readTurns_5 (by decide) rfl h (fun h => ?_) (fun h => ?_)
    · refine e_iconst (v := 0) (pc' := 84) (by decide) dX3_readTurns_83 rfl ?_
      obtain rfl := g_re1 h
      exact e_zret dX3_readTurns_84 (by decide)
    · refine e_aload_n (pc' := 9) (i := 0) rfl rfl dX3_readTurns_8 rfl ?_
      obtain ⟨v5, I2, A3, L4, hF1, h⟩ := g_b2_e h
      refine e_callV_i (pc' := 12) dX3_readTurns_9 rfl mw_737 mv_X3_look rfl (Nat.le_of_ble_eq_true rfl) (Nat.le_of_ble_eq_true rfl) rfl (Nat.le_of_ble_eq_true rfl) rfl (c_X3_look hF1) rfl ?_
      refine e_istore_n (pc' := 13) (i := 2) (lc' := [some (.ref 57), some (.int x1), some (.int v5)]) rfl dX3_readTurns_12 rfl (Nat.le_of_ble_eq_true rfl) rfl rfl ?_
      refine e_iload_n (pc' := 14) (i := 2) rfl rfl dX3_readTurns_13 rfl ?_
      refine e_bipush (v := 58) (pc' := 16) (by decide) dX3_readTurns_14 rfl ?_
      refine e_icmp_ne (tgt := 38) (pc' := 19) dX3_readTurns_16 (by decide) rfl h (fun h => ?_) (fun h => ?_)
      · exact e_weak (lc' := [some (.ref 57), some (.int x1), some (.int v5)]) (gle_s (gle_s (gle_s gle_0))) (w_X3_readTurns_p38 _ ih _ _ _ _ _ _ h)
      · refine e_aload_n (pc' := 20) (i := 0) rfl rfl dX3_readTurns_19 rfl ?_
        refine e_getI (a := 57) (n := 915) (k0 := 3) (pc' := 23) dX3_readTurns_20 rfl rfl (Nat.le_of_ble_eq_true rfl) rfl mw_302 rfl ?_
        refine e_if_eq (tgt := 38) (pc' := 26) dX3_readTurns_23 (by decide) rfl h (fun h => ?_) (fun h => ?_)
        · exact e_weak (lc' := [some (.ref 57), some (.int x1), some (.int v5)]) (gle_s (gle_s (gle_s gle_0))) (w_X3_readTurns_p38 _ ih _ _ _ _ _ _ h)
        · refine e_aload_n (pc' := 27) (i := 0) rfl rfl dX3_readTurns_26 rfl ?_
          refine e_dup (pc' := 28) rfl dX3_readTurns_27 rfl ?_
          refine e_getI (a := 57) (n := 914) (k0 := 2) (pc' := 31) dX3_readTurns_28 rfl rfl (Nat.le_of_ble_eq_true rfl) rfl mw_300 rfl ?_
          refine e_iconst (v := 1) (pc' := 32) (by decide) dX3_readTurns_31 rfl ?_
          refine e_iadd (pc' := 33) dX3_readTurns_32 rfl ?_
          refine e_putI (a := 57) (n := 914) (k0 := 2) (pc' := 36) dX3_readTurns_33 rfl rfl (Nat.le_of_ble_eq_true rfl) rfl mw_300 rfl rfl g_pI rfl rfl ?_
          refine e_ltI h (fun I6 h => ?_)
          refine e_iconst (v := 1) (pc' := 37) (by decide) dX3_readTurns_36 rfl ?_
          obtain rfl := g_re1 h
          exact e_zret dX3_readTurns_37 (by decide)
set_option maxHeartbeats 4000000 in
set_option maxRecDepth 100000 in
theorem c_X3_readTurns  {I : Nat → Int32} {A : Nat → Nat → Int32} {L : Nat → Int64} {t : Int32} {I' : Nat → Int32} {A' : Nat → Nat → Int32} {L' : Nat → Int64} (h : f_X3_readTurns   I A L = some (t, I', A', L')) : GM yX3_readTurns cX3_readTurns 3 (some .boolean) 1 [.ref 57] I A L (some (.int t), (I', A', L')) := by
  refine gm_of (n := 2) (lc := [some (.ref 57), none, none]) (by decide +kernel) rfl (fun _ => Nat.le_of_ble_eq_true rfl) ?_
  change Ev RX3 cX3_readTurns 3 (some .boolean) 1 0 [some (.ref 57), none, none] [] I A L _
  unfold f_X3_readTurns at h
  refine e_iconst (v := 0) (pc' := 1) (by decide) dX3_readTurns_0 rfl ?_
  refine e_istore_n (pc' := 2) (i := 1) (lc' := [some (.ref 57), some (.int 0), none]) rfl dX3_readTurns_1 rfl (Nat.le_of_ble_eq_true rfl) rfl rfl ?_
  exact e_weak (lc' := [some (.ref 57), some (.int 0), none]) (gle_s (gle_s (gle_n gle_0))) (w_X3_readTurns_p2  _ _ _ _ _ _ h)
set_option maxHeartbeats 4000000 in
set_option maxRecDepth 100000 in
theorem w_X3_readOne_6_54_p21  : ∀ (I : Nat → Int32) (A : Nat → Nat → Int32) (L : Nat → Int64) (t : (Int32 × gS)), f_X3_readOne_p21 6 54 I A L = some t → Ev RX3 cX3_readOne 3 (some .boolean) 4 21 [some (.ref 57), some (.ref 6), some (.ref 54)] [] I A L (some (.int t.1), t.2) := by
  intro  I A L t h
  unfold f_X3_readOne_p21 at h
  refine e_aload_n (pc' := 22) (i := 0) rfl rfl dX3_readOne_21 rfl ?_
  obtain ⟨v5, I2, A3, L4, hF1, h⟩ := g_b2_e h
  refine e_callV_i (pc' := 25) dX3_readOne_22 rfl mw_741 mv_X3_readSign rfl (Nat.le_of_ble_eq_true rfl) (Nat.le_of_ble_eq_true rfl) rfl (Nat.le_of_ble_eq_true rfl) rfl (c_X3_readSign hF1) rfl ?_
  refine e_if_eq (tgt := 48) (pc' := 28) dX3_readOne_25 (by decide) rfl h (fun h => ?_) (fun h => ?_)
  · refine e_iconst (v := 0) (pc' := 49) (by decide) dX3_readOne_48 rfl ?_
    obtain rfl := g_re1 h
    exact e_zret dX3_readOne_49 (by decide)
  · refine e_aload_n (pc' := 29) (i := 0) rfl rfl dX3_readOne_28 rfl ?_
    obtain ⟨v10, I7, A8, L9, hF6, h⟩ := g_b2_e h
    refine e_callV_i (pc' := 32) dX3_readOne_29 rfl mw_750 mv_X3_readOff rfl (Nat.le_of_ble_eq_true rfl) (Nat.le_of_ble_eq_true rfl) rfl (Nat.le_of_ble_eq_true rfl) rfl (c_X3_readOff hF6) rfl ?_
    refine e_if_eq (tgt := 48) (pc' := 35) dX3_readOne_32 (by decide) rfl h (fun h => ?_) (fun h => ?_)
    · refine e_iconst (v := 0) (pc' := 49) (by decide) dX3_readOne_48 rfl ?_
      obtain rfl := g_re1 h
      exact e_zret dX3_readOne_49 (by decide)
    · refine e_aload_n (pc' := 36) (i := 0) rfl rfl dX3_readOne_35 rfl ?_
      refine e_aload_n (pc' := 37) (i := 1) rfl rfl dX3_readOne_36 rfl ?_
      refine e_aload_n (pc' := 38) (i := 2) rfl rfl dX3_readOne_37 rfl ?_
      obtain ⟨v15, I12, A13, L14, hF11, h⟩ := g_b2_e h
      refine e_callV_i (pc' := 41) dX3_readOne_38 rfl mw_755 mv_X3_endOne rfl (Nat.le_of_ble_eq_true rfl) (Nat.le_of_ble_eq_true rfl) rfl (Nat.le_of_ble_eq_true rfl) rfl (c_X3_endOne_6_54 hF11) rfl ?_
      refine e_if_eq (tgt := 48) (pc' := 44) dX3_readOne_41 (by decide) rfl h (fun h => ?_) (fun h => ?_)
      · refine e_iconst (v := 0) (pc' := 49) (by decide) dX3_readOne_48 rfl ?_
        obtain rfl := g_re1 h
        exact e_zret dX3_readOne_49 (by decide)
      · refine e_iconst (v := 1) (pc' := 45) (by decide) dX3_readOne_44 rfl ?_
        refine e_goto (tgt := 49) dX3_readOne_45 (by decide) ?_
        obtain rfl := g_re1 h
        exact e_zret dX3_readOne_49 (by decide)
set_option maxHeartbeats 4000000 in
set_option maxRecDepth 100000 in
theorem c_X3_readOne_6_54  {I : Nat → Int32} {A : Nat → Nat → Int32} {L : Nat → Int64} {t : Int32} {I' : Nat → Int32} {A' : Nat → Nat → Int32} {L' : Nat → Int64} (h : f_X3_readOne 6 54  I A L = some (t, I', A', L')) : GM yX3_readOne cX3_readOne 3 (some .boolean) 4 [.ref 57, .ref 6, .ref 54] I A L (some (.int t), (I', A', L')) := by
  refine gm_of (n := 0) (lc := [some (.ref 57), some (.ref 6), some (.ref 54)]) (by decide +kernel) rfl (fun _ => Nat.le_of_ble_eq_true rfl) ?_
  change Ev RX3 cX3_readOne 3 (some .boolean) 4 0 [some (.ref 57), some (.ref 6), some (.ref 54)] [] I A L _
  unfold f_X3_readOne at h
  refine e_aload_n (pc' := 1) (i := 0) rfl rfl dX3_readOne_0 rfl ?_
  refine e_iconst (v := 0) (pc' := 2) (by decide) dX3_readOne_1 rfl ?_
  refine e_putI (a := 57) (n := 915) (k0 := 3) (pc' := 5) dX3_readOne_2 rfl rfl (Nat.le_of_ble_eq_true rfl) rfl mw_302 rfl rfl g_pI rfl rfl ?_
  refine e_ltI h (fun I1 h => ?_)
  refine e_aload_n (pc' := 6) (i := 0) rfl rfl dX3_readOne_5 rfl ?_
  obtain ⟨v3, hF2, h⟩ := g_bd_e h
  refine e_callV_i (pc' := 9) dX3_readOne_6 rfl mw_729 mv_X3_isColonAhead rfl (Nat.le_of_ble_eq_true rfl) (Nat.le_of_ble_eq_true rfl) rfl (Nat.le_of_ble_eq_true rfl) rfl (c_X3_isColonAhead hF2) rfl ?_
  refine e_if_eq (tgt := 21) (pc' := 12) dX3_readOne_9 (by decide) rfl h (fun h => ?_) (fun h => ?_)
  · exact e_weak (lc' := [some (.ref 57), some (.ref 6), some (.ref 54)]) (gle_s (gle_s (gle_s gle_0))) (w_X3_readOne_6_54_p21  _ _ _ _ h)
  · refine e_aload_n (pc' := 13) (i := 0) rfl rfl dX3_readOne_12 rfl ?_
    obtain ⟨v8, I5, A6, L7, hF4, h⟩ := g_b2_e h
    refine e_callV_i (pc' := 16) dX3_readOne_13 rfl mw_733 mv_X3_readTurns rfl (Nat.le_of_ble_eq_true rfl) (Nat.le_of_ble_eq_true rfl) rfl (Nat.le_of_ble_eq_true rfl) rfl (c_X3_readTurns hF4) rfl ?_
    refine e_if_ne (tgt := 21) (pc' := 19) dX3_readOne_16 (by decide) rfl h (fun h => ?_) (fun h => ?_)
    · exact e_weak (lc' := [some (.ref 57), some (.ref 6), some (.ref 54)]) (gle_s (gle_s (gle_s gle_0))) (w_X3_readOne_6_54_p21  _ _ _ _ h)
    · refine e_iconst (v := 0) (pc' := 20) (by decide) dX3_readOne_19 rfl ?_
      obtain ⟨rfl, rfl, rfl, rfl⟩ := g_re4 h
      exact e_zret dX3_readOne_20 (by decide)
set_option maxHeartbeats 4000000 in
set_option maxRecDepth 100000 in
theorem w_X3_readAll_6_54_p7  : ∀ (n : Nat) (x3 : Int32) (I : Nat → Int32) (A : Nat → Nat → Int32) (L : Nat → Int64) (t : (Int32 × gS)), f_X3_readAll_p7 6 54 n x3 I A L = some t → Ev RX3 cX3_readAll 4 (some .boolean) 5 7 [some (.ref 57), some (.ref 6), some (.ref 54), some (.int x3)] [] I A L (some (.int t.1), t.2) := by
  intro n
  induction n with
  | zero =>
    intro x3 I A L t h
    cases h
  | succ n ih =>
    intro x3 I A L t h
    rw [f_X3_readAll_p7] at h
    refine e_iload_n (pc' := 8) (i := 3) rfl rfl dX3_readAll_7 rfl ?_
    refine e_bipush (v := 120) (pc' := 10) (by decide) dX3_readAll_8 rfl ?_
    refine e_icmp_ge (tgt := 40) (pc' := 13) dX3_readAll_10 (by decide) rfl h (fun h => ?_) (fun h => ?_)
    · refine e_iconst (v := 0) (pc' := 41) (by decide) dX3_readAll_40 rfl ?_
      obtain rfl := g_re1 h
      exact e_zret dX3_readAll_41 (by decide)
    · refine e_aload_n (pc' := 14) (i := 0) rfl rfl dX3_readAll_13 rfl ?_
      refine e_aload_n (pc' := 15) (i := 1) rfl rfl dX3_readAll_14 rfl ?_
      refine e_aload_n (pc' := 16) (i := 2) rfl rfl dX3_readAll_15 rfl ?_
      obtain ⟨v5, I2, A3, L4, hF1, h⟩ := g_b2_e h
      refine e_callV_i (pc' := 19) dX3_readAll_16 rfl mw_725 mv_X3_readOne rfl (Nat.le_of_ble_eq_true rfl) (Nat.le_of_ble_eq_true rfl) rfl (Nat.le_of_ble_eq_true rfl) rfl (c_X3_readOne_6_54 hF1) rfl ?_
      refine e_if_ne (tgt := 24) (pc' := 22) dX3_readAll_19 (by decide) rfl h (fun h => ?_) (fun h => ?_)
      · refine e_aload_n (pc' := 25) (i := 0) rfl rfl dX3_readAll_24 rfl ?_
        obtain ⟨v10, I7, A8, L9, hF6, h⟩ := g_b2_e h
        refine e_callV_i (pc' := 28) dX3_readAll_25 rfl mw_737 mv_X3_look rfl (Nat.le_of_ble_eq_true rfl) (Nat.le_of_ble_eq_true rfl) rfl (Nat.le_of_ble_eq_true rfl) rfl (c_X3_look hF6) rfl ?_
        refine e_iconst (v := (-1)) (pc' := 29) (by decide) dX3_readAll_28 rfl ?_
        refine e_icmp_ne (tgt := 34) (pc' := 32) dX3_readAll_29 (by decide) rfl h (fun h => ?_) (fun h => ?_)
        · refine e_iinc (pc' := 37) (v := (x3 + 1)) (lc' := [some (.ref 57), some (.ref 6), some (.ref 54), some (.int (x3 + 1))]) dX3_readAll_34 rfl rfl rfl (Nat.le_of_ble_eq_true rfl) rfl rfl ?_
          refine e_goto (tgt := 7) dX3_readAll_37 (by decide) ?_
          exact e_weak (lc' := [some (.ref 57), some (.ref 6), some (.ref 54), some (.int (x3 + 1))]) (gle_s (gle_s (gle_s (gle_s gle_0)))) (ih _ _ _ _ _ h)
        · refine e_iconst (v := 1) (pc' := 33) (by decide) dX3_readAll_32 rfl ?_
          obtain rfl := g_re1 h
          exact e_zret dX3_readAll_33 (by decide)
      · refine e_iconst (v := 0) (pc' := 23) (by decide) dX3_readAll_22 rfl ?_
        obtain rfl := g_re1 h
        exact e_zret dX3_readAll_23 (by decide)
set_option maxHeartbeats 4000000 in
set_option maxRecDepth 100000 in
theorem c_X3_readAll_6_54  {I : Nat → Int32} {A : Nat → Nat → Int32} {L : Nat → Int64} {t : Int32} {I' : Nat → Int32} {A' : Nat → Nat → Int32} {L' : Nat → Int64} (h : f_X3_readAll 6 54  I A L = some (t, I', A', L')) : GM yX3_readAll cX3_readAll 4 (some .boolean) 5 [.ref 57, .ref 6, .ref 54] I A L (some (.int t), (I', A', L')) := by
  refine gm_of (n := 1) (lc := [some (.ref 57), some (.ref 6), some (.ref 54), none]) (by decide +kernel) rfl (fun _ => Nat.le_of_ble_eq_true rfl) ?_
  change Ev RX3 cX3_readAll 4 (some .boolean) 5 0 [some (.ref 57), some (.ref 6), some (.ref 54), none] [] I A L _
  unfold f_X3_readAll at h
  refine e_aload_n (pc' := 1) (i := 0) rfl rfl dX3_readAll_0 rfl ?_
  refine e_iconst (v := 0) (pc' := 2) (by decide) dX3_readAll_1 rfl ?_
  refine e_putI (a := 57) (n := 914) (k0 := 2) (pc' := 5) dX3_readAll_2 rfl rfl (Nat.le_of_ble_eq_true rfl) rfl mw_300 rfl rfl g_pI rfl rfl ?_
  refine e_ltI h (fun I1 h => ?_)
  refine e_iconst (v := 0) (pc' := 6) (by decide) dX3_readAll_5 rfl ?_
  refine e_istore_n (pc' := 7) (i := 3) (lc' := [some (.ref 57), some (.ref 6), some (.ref 54), some (.int 0)]) rfl dX3_readAll_6 rfl (Nat.le_of_ble_eq_true rfl) rfl rfl ?_
  exact e_weak (lc' := [some (.ref 57), some (.ref 6), some (.ref 54), some (.int 0)]) (gle_s (gle_s (gle_s (gle_s gle_0)))) (w_X3_readAll_6_54_p7  _ _ _ _ _ _ h)
set_option maxHeartbeats 4000000 in
set_option maxRecDepth 100000 in
theorem c_X2_copyFrom_1_6  {I : Nat → Int32} {A : Nat → Nat → Int32} {L : Nat → Int64} {I' : Nat → Int32} {A' : Nat → Nat → Int32} {L' : Nat → Int64} (h : f_X2_copyFrom 1 6  I A L = some (I', A', L')) : GM yX2_copyFrom cX2_copyFrom 2 none 1 [.ref 1, .ref 6] I A L (none, (I', A', L')) := by
  refine gm_of (n := 0) (lc := [some (.ref 1), some (.ref 6)]) (by decide +kernel) rfl (fun _ => Nat.le_of_ble_eq_true rfl) ?_
  change Ev RX2 cX2_copyFrom 2 none 1 0 [some (.ref 1), some (.ref 6)] [] I A L _
  unfold f_X2_copyFrom at h
  refine e_aload_n (pc' := 1) (i := 1) rfl rfl dX2_copyFrom_0 rfl ?_
  refine e_ifnonnull (tgt := 5) dX2_copyFrom_1 (by decide) ?_
  refine e_aload_n (pc' := 6) (i := 0) rfl rfl dX2_copyFrom_5 rfl ?_
  refine e_aload_n (pc' := 7) (i := 1) rfl rfl dX2_copyFrom_6 rfl ?_
  refine e_getI (a := 6) (n := 100) (k0 := 4) (pc' := 10) dX2_copyFrom_7 rfl rfl (Nat.le_of_ble_eq_true rfl) rfl mw_142 rfl ?_
  refine e_putI (a := 1) (n := 20) (k0 := 4) (pc' := 13) dX2_copyFrom_10 rfl rfl (Nat.le_of_ble_eq_true rfl) rfl mw_142 rfl rfl g_pI rfl rfl ?_
  refine e_ltI h (fun I1 h => ?_)
  refine e_aload_n (pc' := 14) (i := 1) rfl rfl dX2_copyFrom_13 rfl ?_
  refine e_getR (a := 6) (b := 7) (k0 := 0) (pc' := 17) dX2_copyFrom_14 rfl rfl (Nat.le_of_ble_eq_true rfl) rfl mw_126 rfl ?_
  refine e_iconst (v := 0) (pc' := 18) (by decide) dX2_copyFrom_17 rfl ?_
  refine e_aload_n (pc' := 19) (i := 0) rfl rfl dX2_copyFrom_18 rfl ?_
  refine e_getR (a := 1) (b := 2) (k0 := 0) (pc' := 22) dX2_copyFrom_19 rfl rfl (Nat.le_of_ble_eq_true rfl) rfl mw_126 rfl ?_
  refine e_iconst (v := 0) (pc' := 23) (by decide) dX2_copyFrom_22 rfl ?_
  refine e_aload_n (pc' := 24) (i := 0) rfl rfl dX2_copyFrom_23 rfl ?_
  refine e_getI (a := 1) (n := 20) (k0 := 4) (pc' := 27) dX2_copyFrom_24 rfl rfl (Nat.le_of_ble_eq_true rfl) rfl mw_142 rfl ?_
  refine e_copy (pc' := 30) (n0 := 32) (n1 := 32) dX2_copyFrom_27 rfl mw_417 mw_419 mw_418 mw_108 (Nat.le_of_ble_eq_true rfl) (Nat.le_of_ble_eq_true rfl) rfl rfl h (fun h => ?_)
  refine e_ltA h (fun A2 h => ?_)
  refine e_aload_n (pc' := 31) (i := 1) rfl rfl dX2_copyFrom_30 rfl ?_
  refine e_getR (a := 6) (b := 8) (k0 := 1) (pc' := 34) dX2_copyFrom_31 rfl rfl (Nat.le_of_ble_eq_true rfl) rfl mw_130 rfl ?_
  refine e_iconst (v := 0) (pc' := 35) (by decide) dX2_copyFrom_34 rfl ?_
  refine e_aload_n (pc' := 36) (i := 0) rfl rfl dX2_copyFrom_35 rfl ?_
  refine e_getR (a := 1) (b := 3) (k0 := 1) (pc' := 39) dX2_copyFrom_36 rfl rfl (Nat.le_of_ble_eq_true rfl) rfl mw_130 rfl ?_
  refine e_iconst (v := 0) (pc' := 40) (by decide) dX2_copyFrom_39 rfl ?_
  refine e_aload_n (pc' := 41) (i := 0) rfl rfl dX2_copyFrom_40 rfl ?_
  refine e_getI (a := 1) (n := 20) (k0 := 4) (pc' := 44) dX2_copyFrom_41 rfl rfl (Nat.le_of_ble_eq_true rfl) rfl mw_142 rfl ?_
  refine e_copy (pc' := 47) (n0 := 32) (n1 := 32) dX2_copyFrom_44 rfl mw_417 mw_419 mw_418 mw_108 (Nat.le_of_ble_eq_true rfl) (Nat.le_of_ble_eq_true rfl) rfl rfl h (fun h => ?_)
  refine e_ltA h (fun A3 h => ?_)
  refine e_aload_n (pc' := 48) (i := 1) rfl rfl dX2_copyFrom_47 rfl ?_
  refine e_getR (a := 6) (b := 9) (k0 := 2) (pc' := 51) dX2_copyFrom_48 rfl rfl (Nat.le_of_ble_eq_true rfl) rfl mw_134 rfl ?_
  refine e_iconst (v := 0) (pc' := 52) (by decide) dX2_copyFrom_51 rfl ?_
  refine e_aload_n (pc' := 53) (i := 0) rfl rfl dX2_copyFrom_52 rfl ?_
  refine e_getR (a := 1) (b := 4) (k0 := 2) (pc' := 56) dX2_copyFrom_53 rfl rfl (Nat.le_of_ble_eq_true rfl) rfl mw_134 rfl ?_
  refine e_iconst (v := 0) (pc' := 57) (by decide) dX2_copyFrom_56 rfl ?_
  refine e_aload_n (pc' := 58) (i := 0) rfl rfl dX2_copyFrom_57 rfl ?_
  refine e_getI (a := 1) (n := 20) (k0 := 4) (pc' := 61) dX2_copyFrom_58 rfl rfl (Nat.le_of_ble_eq_true rfl) rfl mw_142 rfl ?_
  refine e_copy (pc' := 64) (n0 := 32) (n1 := 32) dX2_copyFrom_61 rfl mw_417 mw_419 mw_418 mw_108 (Nat.le_of_ble_eq_true rfl) (Nat.le_of_ble_eq_true rfl) rfl rfl h (fun h => ?_)
  refine e_ltA h (fun A4 h => ?_)
  refine e_aload_n (pc' := 65) (i := 1) rfl rfl dX2_copyFrom_64 rfl ?_
  refine e_getR (a := 6) (b := 10) (k0 := 3) (pc' := 68) dX2_copyFrom_65 rfl rfl (Nat.le_of_ble_eq_true rfl) rfl mw_138 rfl ?_
  refine e_iconst (v := 0) (pc' := 69) (by decide) dX2_copyFrom_68 rfl ?_
  refine e_aload_n (pc' := 70) (i := 0) rfl rfl dX2_copyFrom_69 rfl ?_
  refine e_getR (a := 1) (b := 5) (k0 := 3) (pc' := 73) dX2_copyFrom_70 rfl rfl (Nat.le_of_ble_eq_true rfl) rfl mw_138 rfl ?_
  refine e_iconst (v := 0) (pc' := 74) (by decide) dX2_copyFrom_73 rfl ?_
  refine e_aload_n (pc' := 75) (i := 0) rfl rfl dX2_copyFrom_74 rfl ?_
  refine e_getI (a := 1) (n := 20) (k0 := 4) (pc' := 78) dX2_copyFrom_75 rfl rfl (Nat.le_of_ble_eq_true rfl) rfl mw_142 rfl ?_
  refine e_copy (pc' := 81) (n0 := 32) (n1 := 32) dX2_copyFrom_78 rfl mw_417 mw_419 mw_418 mw_108 (Nat.le_of_ble_eq_true rfl) (Nat.le_of_ble_eq_true rfl) rfl rfl h (fun h => ?_)
  refine e_ltA h (fun A5 h => ?_)
  obtain ⟨rfl, rfl, rfl⟩ := g_re3 h
  exact e_vret dX2_copyFrom_81
set_option maxHeartbeats 4000000 in
set_option maxRecDepth 100000 in
theorem c_X6_reads  {I : Nat → Int32} {A : Nat → Nat → Int32} {L : Nat → Int64} {t : Int32} {I' : Nat → Int32} {A' : Nat → Nat → Int32} {L' : Nat → Int64} (h : f_X6_reads   I A L = some (t, I', A', L')) : GM yX6_reads cX6_reads 2 (some .int) 6 [.ref 0] I A L (some (.int t), (I', A', L')) := by
  refine gm_of (n := 1) (lc := [some (.ref 0), none]) (by decide +kernel) rfl (fun _ => Nat.le_of_ble_eq_true rfl) ?_
  change Ev RX6 cX6_reads 2 (some .int) 6 0 [some (.ref 0), none] [] I A L _
  unfold f_X6_reads at h
  refine e_aload_n (pc' := 1) (i := 0) rfl rfl dX6_reads_0 rfl ?_
  refine e_getR (a := 0) (b := 6) (k0 := 1) (pc' := 4) dX6_reads_1 rfl rfl (Nat.le_of_ble_eq_true rfl) rfl mw_336 rfl ?_
  refine e_aload_n (pc' := 5) (i := 0) rfl rfl dX6_reads_4 rfl ?_
  refine e_getR (a := 0) (b := 1) (k0 := 0) (pc' := 8) dX6_reads_5 rfl rfl (Nat.le_of_ble_eq_true rfl) rfl mw_335 rfl ?_
  obtain ⟨I2, A3, L4, hF1, h⟩ := g_b1_e h
  refine e_callVN_v (pc' := 11) dX6_reads_8 rfl mw_720 mv_X2_copyFrom rfl (Nat.le_of_ble_eq_true rfl) (Nat.le_of_ble_eq_true rfl) rfl (Nat.le_of_ble_eq_true rfl) rfl (c_X2_copyFrom_6_1 hF1) rfl ?_
  refine e_aload_n (pc' := 12) (i := 0) rfl rfl dX6_reads_11 rfl ?_
  refine e_getR (a := 0) (b := 57) (k0 := 6) (pc' := 15) dX6_reads_12 rfl rfl (Nat.le_of_ble_eq_true rfl) rfl mw_341 rfl ?_
  refine e_aload_n (pc' := 16) (i := 0) rfl rfl dX6_reads_15 rfl ?_
  refine e_getR (a := 0) (b := 6) (k0 := 1) (pc' := 19) dX6_reads_16 rfl rfl (Nat.le_of_ble_eq_true rfl) rfl mw_336 rfl ?_
  refine e_aload_n (pc' := 20) (i := 0) rfl rfl dX6_reads_19 rfl ?_
  refine e_getR (a := 0) (b := 54) (k0 := 5) (pc' := 23) dX6_reads_20 rfl rfl (Nat.le_of_ble_eq_true rfl) rfl mw_340 rfl ?_
  obtain ⟨v9, I6, A7, L8, hF5, h⟩ := g_b2_e h
  refine e_callVN_i (pc' := 26) dX6_reads_23 rfl mw_721 mv_X3_readAll rfl (Nat.le_of_ble_eq_true rfl) (Nat.le_of_ble_eq_true rfl) rfl (Nat.le_of_ble_eq_true rfl) rfl (c_X3_readAll_6_54 hF5) rfl ?_
  refine e_if_ne (tgt := 40) (pc' := 29) dX6_reads_26 (by decide) rfl h (fun h => ?_) (fun h => ?_)
  · refine e_aload_n (pc' := 41) (i := 0) rfl rfl dX6_reads_40 rfl ?_
    refine e_getR (a := 0) (b := 6) (k0 := 1) (pc' := 44) dX6_reads_41 rfl rfl (Nat.le_of_ble_eq_true rfl) rfl mw_336 rfl ?_
    refine e_getIN (a := 6) (n := 100) (k0 := 4) (pc' := 47) dX6_reads_44 rfl rfl (Nat.le_of_ble_eq_true rfl) rfl mw_144 rfl ?_
    refine e_aload_n (pc' := 48) (i := 0) rfl rfl dX6_reads_47 rfl ?_
    refine e_getR (a := 0) (b := 1) (k0 := 0) (pc' := 51) dX6_reads_48 rfl rfl (Nat.le_of_ble_eq_true rfl) rfl mw_335 rfl ?_
    refine e_getIN (a := 1) (n := 20) (k0 := 4) (pc' := 54) dX6_reads_51 rfl rfl (Nat.le_of_ble_eq_true rfl) rfl mw_144 rfl ?_
    refine e_isub (pc' := 55) dX6_reads_54 rfl ?_
    refine e_lt h (fun v10 h => ?_)
    refine e_istore_n (pc' := 56) (i := 1) (lc' := [some (.ref 0), some (.int v10)]) rfl dX6_reads_55 rfl (Nat.le_of_ble_eq_true rfl) rfl rfl ?_
    refine e_aload_n (pc' := 57) (i := 0) rfl rfl dX6_reads_56 rfl ?_
    obtain ⟨I12, A13, L14, hF11, h⟩ := g_b1_e h
    refine e_callV_v (pc' := 60) dX6_reads_57 rfl mw_405 mv_X6_leaveState rfl (Nat.le_of_ble_eq_true rfl) (Nat.le_of_ble_eq_true rfl) rfl (Nat.le_of_ble_eq_true rfl) rfl (c_X6_leaveState hF11) rfl ?_
    refine e_aload_n (pc' := 61) (i := 0) rfl rfl dX6_reads_60 rfl ?_
    refine e_getR (a := 0) (b := 1) (k0 := 0) (pc' := 64) dX6_reads_61 rfl rfl (Nat.le_of_ble_eq_true rfl) rfl mw_335 rfl ?_
    refine e_aload_n (pc' := 65) (i := 0) rfl rfl dX6_reads_64 rfl ?_
    refine e_getR (a := 0) (b := 6) (k0 := 1) (pc' := 68) dX6_reads_65 rfl rfl (Nat.le_of_ble_eq_true rfl) rfl mw_336 rfl ?_
    obtain ⟨I16, A17, L18, hF15, h⟩ := g_b1_e h
    refine e_callVN_v (pc' := 71) dX6_reads_68 rfl mw_720 mv_X2_copyFrom rfl (Nat.le_of_ble_eq_true rfl) (Nat.le_of_ble_eq_true rfl) rfl (Nat.le_of_ble_eq_true rfl) rfl (c_X2_copyFrom_1_6 hF15) rfl ?_
    refine e_iload_n (pc' := 72) (i := 1) rfl rfl dX6_reads_71 rfl ?_
    obtain ⟨rfl, rfl, rfl, rfl⟩ := g_re4 h
    exact e_iret dX6_reads_72
  · refine e_bipush (v := (-10)) (pc' := 31) (by decide) dX6_reads_29 rfl ?_
    refine e_aload_n (pc' := 32) (i := 0) rfl rfl dX6_reads_31 rfl ?_
    refine e_getR (a := 0) (b := 57) (k0 := 6) (pc' := 35) dX6_reads_32 rfl rfl (Nat.le_of_ble_eq_true rfl) rfl mw_341 rfl ?_
    refine e_getIN (a := 57) (n := 914) (k0 := 2) (pc' := 38) dX6_reads_35 rfl rfl (Nat.le_of_ble_eq_true rfl) rfl mw_301 rfl ?_
    refine e_isub (pc' := 39) dX6_reads_38 rfl ?_
    obtain ⟨rfl, rfl, rfl, rfl⟩ := g_re4 h
    exact e_iret dX6_reads_39
set_option maxHeartbeats 4000000 in
set_option maxRecDepth 100000 in
theorem c_X2_copyFrom_1_13  {I : Nat → Int32} {A : Nat → Nat → Int32} {L : Nat → Int64} {I' : Nat → Int32} {A' : Nat → Nat → Int32} {L' : Nat → Int64} (h : f_X2_copyFrom 1 13  I A L = some (I', A', L')) : GM yX2_copyFrom cX2_copyFrom 2 none 1 [.ref 1, .ref 13] I A L (none, (I', A', L')) := by
  refine gm_of (n := 0) (lc := [some (.ref 1), some (.ref 13)]) (by decide +kernel) rfl (fun _ => Nat.le_of_ble_eq_true rfl) ?_
  change Ev RX2 cX2_copyFrom 2 none 1 0 [some (.ref 1), some (.ref 13)] [] I A L _
  unfold f_X2_copyFrom at h
  refine e_aload_n (pc' := 1) (i := 1) rfl rfl dX2_copyFrom_0 rfl ?_
  refine e_ifnonnull (tgt := 5) dX2_copyFrom_1 (by decide) ?_
  refine e_aload_n (pc' := 6) (i := 0) rfl rfl dX2_copyFrom_5 rfl ?_
  refine e_aload_n (pc' := 7) (i := 1) rfl rfl dX2_copyFrom_6 rfl ?_
  refine e_getI (a := 13) (n := 212) (k0 := 4) (pc' := 10) dX2_copyFrom_7 rfl rfl (Nat.le_of_ble_eq_true rfl) rfl mw_142 rfl ?_
  refine e_putI (a := 1) (n := 20) (k0 := 4) (pc' := 13) dX2_copyFrom_10 rfl rfl (Nat.le_of_ble_eq_true rfl) rfl mw_142 rfl rfl g_pI rfl rfl ?_
  refine e_ltI h (fun I1 h => ?_)
  refine e_aload_n (pc' := 14) (i := 1) rfl rfl dX2_copyFrom_13 rfl ?_
  refine e_getR (a := 13) (b := 14) (k0 := 0) (pc' := 17) dX2_copyFrom_14 rfl rfl (Nat.le_of_ble_eq_true rfl) rfl mw_126 rfl ?_
  refine e_iconst (v := 0) (pc' := 18) (by decide) dX2_copyFrom_17 rfl ?_
  refine e_aload_n (pc' := 19) (i := 0) rfl rfl dX2_copyFrom_18 rfl ?_
  refine e_getR (a := 1) (b := 2) (k0 := 0) (pc' := 22) dX2_copyFrom_19 rfl rfl (Nat.le_of_ble_eq_true rfl) rfl mw_126 rfl ?_
  refine e_iconst (v := 0) (pc' := 23) (by decide) dX2_copyFrom_22 rfl ?_
  refine e_aload_n (pc' := 24) (i := 0) rfl rfl dX2_copyFrom_23 rfl ?_
  refine e_getI (a := 1) (n := 20) (k0 := 4) (pc' := 27) dX2_copyFrom_24 rfl rfl (Nat.le_of_ble_eq_true rfl) rfl mw_142 rfl ?_
  refine e_copy (pc' := 30) (n0 := 32) (n1 := 32) dX2_copyFrom_27 rfl mw_417 mw_419 mw_418 mw_108 (Nat.le_of_ble_eq_true rfl) (Nat.le_of_ble_eq_true rfl) rfl rfl h (fun h => ?_)
  refine e_ltA h (fun A2 h => ?_)
  refine e_aload_n (pc' := 31) (i := 1) rfl rfl dX2_copyFrom_30 rfl ?_
  refine e_getR (a := 13) (b := 15) (k0 := 1) (pc' := 34) dX2_copyFrom_31 rfl rfl (Nat.le_of_ble_eq_true rfl) rfl mw_130 rfl ?_
  refine e_iconst (v := 0) (pc' := 35) (by decide) dX2_copyFrom_34 rfl ?_
  refine e_aload_n (pc' := 36) (i := 0) rfl rfl dX2_copyFrom_35 rfl ?_
  refine e_getR (a := 1) (b := 3) (k0 := 1) (pc' := 39) dX2_copyFrom_36 rfl rfl (Nat.le_of_ble_eq_true rfl) rfl mw_130 rfl ?_
  refine e_iconst (v := 0) (pc' := 40) (by decide) dX2_copyFrom_39 rfl ?_
  refine e_aload_n (pc' := 41) (i := 0) rfl rfl dX2_copyFrom_40 rfl ?_
  refine e_getI (a := 1) (n := 20) (k0 := 4) (pc' := 44) dX2_copyFrom_41 rfl rfl (Nat.le_of_ble_eq_true rfl) rfl mw_142 rfl ?_
  refine e_copy (pc' := 47) (n0 := 32) (n1 := 32) dX2_copyFrom_44 rfl mw_417 mw_419 mw_418 mw_108 (Nat.le_of_ble_eq_true rfl) (Nat.le_of_ble_eq_true rfl) rfl rfl h (fun h => ?_)
  refine e_ltA h (fun A3 h => ?_)
  refine e_aload_n (pc' := 48) (i := 1) rfl rfl dX2_copyFrom_47 rfl ?_
  refine e_getR (a := 13) (b := 16) (k0 := 2) (pc' := 51) dX2_copyFrom_48 rfl rfl (Nat.le_of_ble_eq_true rfl) rfl mw_134 rfl ?_
  refine e_iconst (v := 0) (pc' := 52) (by decide) dX2_copyFrom_51 rfl ?_
  refine e_aload_n (pc' := 53) (i := 0) rfl rfl dX2_copyFrom_52 rfl ?_
  refine e_getR (a := 1) (b := 4) (k0 := 2) (pc' := 56) dX2_copyFrom_53 rfl rfl (Nat.le_of_ble_eq_true rfl) rfl mw_134 rfl ?_
  refine e_iconst (v := 0) (pc' := 57) (by decide) dX2_copyFrom_56 rfl ?_
  refine e_aload_n (pc' := 58) (i := 0) rfl rfl dX2_copyFrom_57 rfl ?_
  refine e_getI (a := 1) (n := 20) (k0 := 4) (pc' := 61) dX2_copyFrom_58 rfl rfl (Nat.le_of_ble_eq_true rfl) rfl mw_142 rfl ?_
  refine e_copy (pc' := 64) (n0 := 32) (n1 := 32) dX2_copyFrom_61 rfl mw_417 mw_419 mw_418 mw_108 (Nat.le_of_ble_eq_true rfl) (Nat.le_of_ble_eq_true rfl) rfl rfl h (fun h => ?_)
  refine e_ltA h (fun A4 h => ?_)
  refine e_aload_n (pc' := 65) (i := 1) rfl rfl dX2_copyFrom_64 rfl ?_
  refine e_getR (a := 13) (b := 17) (k0 := 3) (pc' := 68) dX2_copyFrom_65 rfl rfl (Nat.le_of_ble_eq_true rfl) rfl mw_138 rfl ?_
  refine e_iconst (v := 0) (pc' := 69) (by decide) dX2_copyFrom_68 rfl ?_
  refine e_aload_n (pc' := 70) (i := 0) rfl rfl dX2_copyFrom_69 rfl ?_
  refine e_getR (a := 1) (b := 5) (k0 := 3) (pc' := 73) dX2_copyFrom_70 rfl rfl (Nat.le_of_ble_eq_true rfl) rfl mw_138 rfl ?_
  refine e_iconst (v := 0) (pc' := 74) (by decide) dX2_copyFrom_73 rfl ?_
  refine e_aload_n (pc' := 75) (i := 0) rfl rfl dX2_copyFrom_74 rfl ?_
  refine e_getI (a := 1) (n := 20) (k0 := 4) (pc' := 78) dX2_copyFrom_75 rfl rfl (Nat.le_of_ble_eq_true rfl) rfl mw_142 rfl ?_
  refine e_copy (pc' := 81) (n0 := 32) (n1 := 32) dX2_copyFrom_78 rfl mw_417 mw_419 mw_418 mw_108 (Nat.le_of_ble_eq_true rfl) (Nat.le_of_ble_eq_true rfl) rfl rfl h (fun h => ?_)
  refine e_ltA h (fun A5 h => ?_)
  obtain ⟨rfl, rfl, rfl⟩ := g_re3 h
  exact e_vret dX2_copyFrom_81
set_option maxHeartbeats 4000000 in
set_option maxRecDepth 100000 in
theorem c_X2_copyFrom_1_18  {I : Nat → Int32} {A : Nat → Nat → Int32} {L : Nat → Int64} {I' : Nat → Int32} {A' : Nat → Nat → Int32} {L' : Nat → Int64} (h : f_X2_copyFrom 1 18  I A L = some (I', A', L')) : GM yX2_copyFrom cX2_copyFrom 2 none 1 [.ref 1, .ref 18] I A L (none, (I', A', L')) := by
  refine gm_of (n := 0) (lc := [some (.ref 1), some (.ref 18)]) (by decide +kernel) rfl (fun _ => Nat.le_of_ble_eq_true rfl) ?_
  change Ev RX2 cX2_copyFrom 2 none 1 0 [some (.ref 1), some (.ref 18)] [] I A L _
  unfold f_X2_copyFrom at h
  refine e_aload_n (pc' := 1) (i := 1) rfl rfl dX2_copyFrom_0 rfl ?_
  refine e_ifnonnull (tgt := 5) dX2_copyFrom_1 (by decide) ?_
  refine e_aload_n (pc' := 6) (i := 0) rfl rfl dX2_copyFrom_5 rfl ?_
  refine e_aload_n (pc' := 7) (i := 1) rfl rfl dX2_copyFrom_6 rfl ?_
  refine e_getI (a := 18) (n := 292) (k0 := 4) (pc' := 10) dX2_copyFrom_7 rfl rfl (Nat.le_of_ble_eq_true rfl) rfl mw_142 rfl ?_
  refine e_putI (a := 1) (n := 20) (k0 := 4) (pc' := 13) dX2_copyFrom_10 rfl rfl (Nat.le_of_ble_eq_true rfl) rfl mw_142 rfl rfl g_pI rfl rfl ?_
  refine e_ltI h (fun I1 h => ?_)
  refine e_aload_n (pc' := 14) (i := 1) rfl rfl dX2_copyFrom_13 rfl ?_
  refine e_getR (a := 18) (b := 19) (k0 := 0) (pc' := 17) dX2_copyFrom_14 rfl rfl (Nat.le_of_ble_eq_true rfl) rfl mw_126 rfl ?_
  refine e_iconst (v := 0) (pc' := 18) (by decide) dX2_copyFrom_17 rfl ?_
  refine e_aload_n (pc' := 19) (i := 0) rfl rfl dX2_copyFrom_18 rfl ?_
  refine e_getR (a := 1) (b := 2) (k0 := 0) (pc' := 22) dX2_copyFrom_19 rfl rfl (Nat.le_of_ble_eq_true rfl) rfl mw_126 rfl ?_
  refine e_iconst (v := 0) (pc' := 23) (by decide) dX2_copyFrom_22 rfl ?_
  refine e_aload_n (pc' := 24) (i := 0) rfl rfl dX2_copyFrom_23 rfl ?_
  refine e_getI (a := 1) (n := 20) (k0 := 4) (pc' := 27) dX2_copyFrom_24 rfl rfl (Nat.le_of_ble_eq_true rfl) rfl mw_142 rfl ?_
  refine e_copy (pc' := 30) (n0 := 32) (n1 := 32) dX2_copyFrom_27 rfl mw_417 mw_419 mw_418 mw_108 (Nat.le_of_ble_eq_true rfl) (Nat.le_of_ble_eq_true rfl) rfl rfl h (fun h => ?_)
  refine e_ltA h (fun A2 h => ?_)
  refine e_aload_n (pc' := 31) (i := 1) rfl rfl dX2_copyFrom_30 rfl ?_
  refine e_getR (a := 18) (b := 20) (k0 := 1) (pc' := 34) dX2_copyFrom_31 rfl rfl (Nat.le_of_ble_eq_true rfl) rfl mw_130 rfl ?_
  refine e_iconst (v := 0) (pc' := 35) (by decide) dX2_copyFrom_34 rfl ?_
  refine e_aload_n (pc' := 36) (i := 0) rfl rfl dX2_copyFrom_35 rfl ?_
  refine e_getR (a := 1) (b := 3) (k0 := 1) (pc' := 39) dX2_copyFrom_36 rfl rfl (Nat.le_of_ble_eq_true rfl) rfl mw_130 rfl ?_
  refine e_iconst (v := 0) (pc' := 40) (by decide) dX2_copyFrom_39 rfl ?_
  refine e_aload_n (pc' := 41) (i := 0) rfl rfl dX2_copyFrom_40 rfl ?_
  refine e_getI (a := 1) (n := 20) (k0 := 4) (pc' := 44) dX2_copyFrom_41 rfl rfl (Nat.le_of_ble_eq_true rfl) rfl mw_142 rfl ?_
  refine e_copy (pc' := 47) (n0 := 32) (n1 := 32) dX2_copyFrom_44 rfl mw_417 mw_419 mw_418 mw_108 (Nat.le_of_ble_eq_true rfl) (Nat.le_of_ble_eq_true rfl) rfl rfl h (fun h => ?_)
  refine e_ltA h (fun A3 h => ?_)
  refine e_aload_n (pc' := 48) (i := 1) rfl rfl dX2_copyFrom_47 rfl ?_
  refine e_getR (a := 18) (b := 21) (k0 := 2) (pc' := 51) dX2_copyFrom_48 rfl rfl (Nat.le_of_ble_eq_true rfl) rfl mw_134 rfl ?_
  refine e_iconst (v := 0) (pc' := 52) (by decide) dX2_copyFrom_51 rfl ?_
  refine e_aload_n (pc' := 53) (i := 0) rfl rfl dX2_copyFrom_52 rfl ?_
  refine e_getR (a := 1) (b := 4) (k0 := 2) (pc' := 56) dX2_copyFrom_53 rfl rfl (Nat.le_of_ble_eq_true rfl) rfl mw_134 rfl ?_
  refine e_iconst (v := 0) (pc' := 57) (by decide) dX2_copyFrom_56 rfl ?_
  refine e_aload_n (pc' := 58) (i := 0) rfl rfl dX2_copyFrom_57 rfl ?_
  refine e_getI (a := 1) (n := 20) (k0 := 4) (pc' := 61) dX2_copyFrom_58 rfl rfl (Nat.le_of_ble_eq_true rfl) rfl mw_142 rfl ?_
  refine e_copy (pc' := 64) (n0 := 32) (n1 := 32) dX2_copyFrom_61 rfl mw_417 mw_419 mw_418 mw_108 (Nat.le_of_ble_eq_true rfl) (Nat.le_of_ble_eq_true rfl) rfl rfl h (fun h => ?_)
  refine e_ltA h (fun A4 h => ?_)
  refine e_aload_n (pc' := 65) (i := 1) rfl rfl dX2_copyFrom_64 rfl ?_
  refine e_getR (a := 18) (b := 22) (k0 := 3) (pc' := 68) dX2_copyFrom_65 rfl rfl (Nat.le_of_ble_eq_true rfl) rfl mw_138 rfl ?_
  refine e_iconst (v := 0) (pc' := 69) (by decide) dX2_copyFrom_68 rfl ?_
  refine e_aload_n (pc' := 70) (i := 0) rfl rfl dX2_copyFrom_69 rfl ?_
  refine e_getR (a := 1) (b := 5) (k0 := 3) (pc' := 73) dX2_copyFrom_70 rfl rfl (Nat.le_of_ble_eq_true rfl) rfl mw_138 rfl ?_
  refine e_iconst (v := 0) (pc' := 74) (by decide) dX2_copyFrom_73 rfl ?_
  refine e_aload_n (pc' := 75) (i := 0) rfl rfl dX2_copyFrom_74 rfl ?_
  refine e_getI (a := 1) (n := 20) (k0 := 4) (pc' := 78) dX2_copyFrom_75 rfl rfl (Nat.le_of_ble_eq_true rfl) rfl mw_142 rfl ?_
  refine e_copy (pc' := 81) (n0 := 32) (n1 := 32) dX2_copyFrom_78 rfl mw_417 mw_419 mw_418 mw_108 (Nat.le_of_ble_eq_true rfl) (Nat.le_of_ble_eq_true rfl) rfl rfl h (fun h => ?_)
  refine e_ltA h (fun A5 h => ?_)
  obtain ⟨rfl, rfl, rfl⟩ := g_re3 h
  exact e_vret dX2_copyFrom_81
set_option maxHeartbeats 4000000 in
set_option maxRecDepth 100000 in
theorem c_X2_copyFrom_1_23  {I : Nat → Int32} {A : Nat → Nat → Int32} {L : Nat → Int64} {I' : Nat → Int32} {A' : Nat → Nat → Int32} {L' : Nat → Int64} (h : f_X2_copyFrom 1 23  I A L = some (I', A', L')) : GM yX2_copyFrom cX2_copyFrom 2 none 1 [.ref 1, .ref 23] I A L (none, (I', A', L')) := by
  refine gm_of (n := 0) (lc := [some (.ref 1), some (.ref 23)]) (by decide +kernel) rfl (fun _ => Nat.le_of_ble_eq_true rfl) ?_
  change Ev RX2 cX2_copyFrom 2 none 1 0 [some (.ref 1), some (.ref 23)] [] I A L _
  unfold f_X2_copyFrom at h
  refine e_aload_n (pc' := 1) (i := 1) rfl rfl dX2_copyFrom_0 rfl ?_
  refine e_ifnonnull (tgt := 5) dX2_copyFrom_1 (by decide) ?_
  refine e_aload_n (pc' := 6) (i := 0) rfl rfl dX2_copyFrom_5 rfl ?_
  refine e_aload_n (pc' := 7) (i := 1) rfl rfl dX2_copyFrom_6 rfl ?_
  refine e_getI (a := 23) (n := 372) (k0 := 4) (pc' := 10) dX2_copyFrom_7 rfl rfl (Nat.le_of_ble_eq_true rfl) rfl mw_142 rfl ?_
  refine e_putI (a := 1) (n := 20) (k0 := 4) (pc' := 13) dX2_copyFrom_10 rfl rfl (Nat.le_of_ble_eq_true rfl) rfl mw_142 rfl rfl g_pI rfl rfl ?_
  refine e_ltI h (fun I1 h => ?_)
  refine e_aload_n (pc' := 14) (i := 1) rfl rfl dX2_copyFrom_13 rfl ?_
  refine e_getR (a := 23) (b := 24) (k0 := 0) (pc' := 17) dX2_copyFrom_14 rfl rfl (Nat.le_of_ble_eq_true rfl) rfl mw_126 rfl ?_
  refine e_iconst (v := 0) (pc' := 18) (by decide) dX2_copyFrom_17 rfl ?_
  refine e_aload_n (pc' := 19) (i := 0) rfl rfl dX2_copyFrom_18 rfl ?_
  refine e_getR (a := 1) (b := 2) (k0 := 0) (pc' := 22) dX2_copyFrom_19 rfl rfl (Nat.le_of_ble_eq_true rfl) rfl mw_126 rfl ?_
  refine e_iconst (v := 0) (pc' := 23) (by decide) dX2_copyFrom_22 rfl ?_
  refine e_aload_n (pc' := 24) (i := 0) rfl rfl dX2_copyFrom_23 rfl ?_
  refine e_getI (a := 1) (n := 20) (k0 := 4) (pc' := 27) dX2_copyFrom_24 rfl rfl (Nat.le_of_ble_eq_true rfl) rfl mw_142 rfl ?_
  refine e_copy (pc' := 30) (n0 := 32) (n1 := 32) dX2_copyFrom_27 rfl mw_417 mw_419 mw_418 mw_108 (Nat.le_of_ble_eq_true rfl) (Nat.le_of_ble_eq_true rfl) rfl rfl h (fun h => ?_)
  refine e_ltA h (fun A2 h => ?_)
  refine e_aload_n (pc' := 31) (i := 1) rfl rfl dX2_copyFrom_30 rfl ?_
  refine e_getR (a := 23) (b := 25) (k0 := 1) (pc' := 34) dX2_copyFrom_31 rfl rfl (Nat.le_of_ble_eq_true rfl) rfl mw_130 rfl ?_
  refine e_iconst (v := 0) (pc' := 35) (by decide) dX2_copyFrom_34 rfl ?_
  refine e_aload_n (pc' := 36) (i := 0) rfl rfl dX2_copyFrom_35 rfl ?_
  refine e_getR (a := 1) (b := 3) (k0 := 1) (pc' := 39) dX2_copyFrom_36 rfl rfl (Nat.le_of_ble_eq_true rfl) rfl mw_130 rfl ?_
  refine e_iconst (v := 0) (pc' := 40) (by decide) dX2_copyFrom_39 rfl ?_
  refine e_aload_n (pc' := 41) (i := 0) rfl rfl dX2_copyFrom_40 rfl ?_
  refine e_getI (a := 1) (n := 20) (k0 := 4) (pc' := 44) dX2_copyFrom_41 rfl rfl (Nat.le_of_ble_eq_true rfl) rfl mw_142 rfl ?_
  refine e_copy (pc' := 47) (n0 := 32) (n1 := 32) dX2_copyFrom_44 rfl mw_417 mw_419 mw_418 mw_108 (Nat.le_of_ble_eq_true rfl) (Nat.le_of_ble_eq_true rfl) rfl rfl h (fun h => ?_)
  refine e_ltA h (fun A3 h => ?_)
  refine e_aload_n (pc' := 48) (i := 1) rfl rfl dX2_copyFrom_47 rfl ?_
  refine e_getR (a := 23) (b := 26) (k0 := 2) (pc' := 51) dX2_copyFrom_48 rfl rfl (Nat.le_of_ble_eq_true rfl) rfl mw_134 rfl ?_
  refine e_iconst (v := 0) (pc' := 52) (by decide) dX2_copyFrom_51 rfl ?_
  refine e_aload_n (pc' := 53) (i := 0) rfl rfl dX2_copyFrom_52 rfl ?_
  refine e_getR (a := 1) (b := 4) (k0 := 2) (pc' := 56) dX2_copyFrom_53 rfl rfl (Nat.le_of_ble_eq_true rfl) rfl mw_134 rfl ?_
  refine e_iconst (v := 0) (pc' := 57) (by decide) dX2_copyFrom_56 rfl ?_
  refine e_aload_n (pc' := 58) (i := 0) rfl rfl dX2_copyFrom_57 rfl ?_
  refine e_getI (a := 1) (n := 20) (k0 := 4) (pc' := 61) dX2_copyFrom_58 rfl rfl (Nat.le_of_ble_eq_true rfl) rfl mw_142 rfl ?_
  refine e_copy (pc' := 64) (n0 := 32) (n1 := 32) dX2_copyFrom_61 rfl mw_417 mw_419 mw_418 mw_108 (Nat.le_of_ble_eq_true rfl) (Nat.le_of_ble_eq_true rfl) rfl rfl h (fun h => ?_)
  refine e_ltA h (fun A4 h => ?_)
  refine e_aload_n (pc' := 65) (i := 1) rfl rfl dX2_copyFrom_64 rfl ?_
  refine e_getR (a := 23) (b := 27) (k0 := 3) (pc' := 68) dX2_copyFrom_65 rfl rfl (Nat.le_of_ble_eq_true rfl) rfl mw_138 rfl ?_
  refine e_iconst (v := 0) (pc' := 69) (by decide) dX2_copyFrom_68 rfl ?_
  refine e_aload_n (pc' := 70) (i := 0) rfl rfl dX2_copyFrom_69 rfl ?_
  refine e_getR (a := 1) (b := 5) (k0 := 3) (pc' := 73) dX2_copyFrom_70 rfl rfl (Nat.le_of_ble_eq_true rfl) rfl mw_138 rfl ?_
  refine e_iconst (v := 0) (pc' := 74) (by decide) dX2_copyFrom_73 rfl ?_
  refine e_aload_n (pc' := 75) (i := 0) rfl rfl dX2_copyFrom_74 rfl ?_
  refine e_getI (a := 1) (n := 20) (k0 := 4) (pc' := 78) dX2_copyFrom_75 rfl rfl (Nat.le_of_ble_eq_true rfl) rfl mw_142 rfl ?_
  refine e_copy (pc' := 81) (n0 := 32) (n1 := 32) dX2_copyFrom_78 rfl mw_417 mw_419 mw_418 mw_108 (Nat.le_of_ble_eq_true rfl) (Nat.le_of_ble_eq_true rfl) rfl rfl h (fun h => ?_)
  refine e_ltA h (fun A5 h => ?_)
  obtain ⟨rfl, rfl, rfl⟩ := g_re3 h
  exact e_vret dX2_copyFrom_81
set_option maxHeartbeats 4000000 in
set_option maxRecDepth 100000 in
theorem c_X2_copyFrom_1_28  {I : Nat → Int32} {A : Nat → Nat → Int32} {L : Nat → Int64} {I' : Nat → Int32} {A' : Nat → Nat → Int32} {L' : Nat → Int64} (h : f_X2_copyFrom 1 28  I A L = some (I', A', L')) : GM yX2_copyFrom cX2_copyFrom 2 none 1 [.ref 1, .ref 28] I A L (none, (I', A', L')) := by
  refine gm_of (n := 0) (lc := [some (.ref 1), some (.ref 28)]) (by decide +kernel) rfl (fun _ => Nat.le_of_ble_eq_true rfl) ?_
  change Ev RX2 cX2_copyFrom 2 none 1 0 [some (.ref 1), some (.ref 28)] [] I A L _
  unfold f_X2_copyFrom at h
  refine e_aload_n (pc' := 1) (i := 1) rfl rfl dX2_copyFrom_0 rfl ?_
  refine e_ifnonnull (tgt := 5) dX2_copyFrom_1 (by decide) ?_
  refine e_aload_n (pc' := 6) (i := 0) rfl rfl dX2_copyFrom_5 rfl ?_
  refine e_aload_n (pc' := 7) (i := 1) rfl rfl dX2_copyFrom_6 rfl ?_
  refine e_getI (a := 28) (n := 452) (k0 := 4) (pc' := 10) dX2_copyFrom_7 rfl rfl (Nat.le_of_ble_eq_true rfl) rfl mw_142 rfl ?_
  refine e_putI (a := 1) (n := 20) (k0 := 4) (pc' := 13) dX2_copyFrom_10 rfl rfl (Nat.le_of_ble_eq_true rfl) rfl mw_142 rfl rfl g_pI rfl rfl ?_
  refine e_ltI h (fun I1 h => ?_)
  refine e_aload_n (pc' := 14) (i := 1) rfl rfl dX2_copyFrom_13 rfl ?_
  refine e_getR (a := 28) (b := 29) (k0 := 0) (pc' := 17) dX2_copyFrom_14 rfl rfl (Nat.le_of_ble_eq_true rfl) rfl mw_126 rfl ?_
  refine e_iconst (v := 0) (pc' := 18) (by decide) dX2_copyFrom_17 rfl ?_
  refine e_aload_n (pc' := 19) (i := 0) rfl rfl dX2_copyFrom_18 rfl ?_
  refine e_getR (a := 1) (b := 2) (k0 := 0) (pc' := 22) dX2_copyFrom_19 rfl rfl (Nat.le_of_ble_eq_true rfl) rfl mw_126 rfl ?_
  refine e_iconst (v := 0) (pc' := 23) (by decide) dX2_copyFrom_22 rfl ?_
  refine e_aload_n (pc' := 24) (i := 0) rfl rfl dX2_copyFrom_23 rfl ?_
  refine e_getI (a := 1) (n := 20) (k0 := 4) (pc' := 27) dX2_copyFrom_24 rfl rfl (Nat.le_of_ble_eq_true rfl) rfl mw_142 rfl ?_
  refine e_copy (pc' := 30) (n0 := 32) (n1 := 32) dX2_copyFrom_27 rfl mw_417 mw_419 mw_418 mw_108 (Nat.le_of_ble_eq_true rfl) (Nat.le_of_ble_eq_true rfl) rfl rfl h (fun h => ?_)
  refine e_ltA h (fun A2 h => ?_)
  refine e_aload_n (pc' := 31) (i := 1) rfl rfl dX2_copyFrom_30 rfl ?_
  refine e_getR (a := 28) (b := 30) (k0 := 1) (pc' := 34) dX2_copyFrom_31 rfl rfl (Nat.le_of_ble_eq_true rfl) rfl mw_130 rfl ?_
  refine e_iconst (v := 0) (pc' := 35) (by decide) dX2_copyFrom_34 rfl ?_
  refine e_aload_n (pc' := 36) (i := 0) rfl rfl dX2_copyFrom_35 rfl ?_
  refine e_getR (a := 1) (b := 3) (k0 := 1) (pc' := 39) dX2_copyFrom_36 rfl rfl (Nat.le_of_ble_eq_true rfl) rfl mw_130 rfl ?_
  refine e_iconst (v := 0) (pc' := 40) (by decide) dX2_copyFrom_39 rfl ?_
  refine e_aload_n (pc' := 41) (i := 0) rfl rfl dX2_copyFrom_40 rfl ?_
  refine e_getI (a := 1) (n := 20) (k0 := 4) (pc' := 44) dX2_copyFrom_41 rfl rfl (Nat.le_of_ble_eq_true rfl) rfl mw_142 rfl ?_
  refine e_copy (pc' := 47) (n0 := 32) (n1 := 32) dX2_copyFrom_44 rfl mw_417 mw_419 mw_418 mw_108 (Nat.le_of_ble_eq_true rfl) (Nat.le_of_ble_eq_true rfl) rfl rfl h (fun h => ?_)
  refine e_ltA h (fun A3 h => ?_)
  refine e_aload_n (pc' := 48) (i := 1) rfl rfl dX2_copyFrom_47 rfl ?_
  refine e_getR (a := 28) (b := 31) (k0 := 2) (pc' := 51) dX2_copyFrom_48 rfl rfl (Nat.le_of_ble_eq_true rfl) rfl mw_134 rfl ?_
  refine e_iconst (v := 0) (pc' := 52) (by decide) dX2_copyFrom_51 rfl ?_
  refine e_aload_n (pc' := 53) (i := 0) rfl rfl dX2_copyFrom_52 rfl ?_
  refine e_getR (a := 1) (b := 4) (k0 := 2) (pc' := 56) dX2_copyFrom_53 rfl rfl (Nat.le_of_ble_eq_true rfl) rfl mw_134 rfl ?_
  refine e_iconst (v := 0) (pc' := 57) (by decide) dX2_copyFrom_56 rfl ?_
  refine e_aload_n (pc' := 58) (i := 0) rfl rfl dX2_copyFrom_57 rfl ?_
  refine e_getI (a := 1) (n := 20) (k0 := 4) (pc' := 61) dX2_copyFrom_58 rfl rfl (Nat.le_of_ble_eq_true rfl) rfl mw_142 rfl ?_
  refine e_copy (pc' := 64) (n0 := 32) (n1 := 32) dX2_copyFrom_61 rfl mw_417 mw_419 mw_418 mw_108 (Nat.le_of_ble_eq_true rfl) (Nat.le_of_ble_eq_true rfl) rfl rfl h (fun h => ?_)
  refine e_ltA h (fun A4 h => ?_)
  refine e_aload_n (pc' := 65) (i := 1) rfl rfl dX2_copyFrom_64 rfl ?_
  refine e_getR (a := 28) (b := 32) (k0 := 3) (pc' := 68) dX2_copyFrom_65 rfl rfl (Nat.le_of_ble_eq_true rfl) rfl mw_138 rfl ?_
  refine e_iconst (v := 0) (pc' := 69) (by decide) dX2_copyFrom_68 rfl ?_
  refine e_aload_n (pc' := 70) (i := 0) rfl rfl dX2_copyFrom_69 rfl ?_
  refine e_getR (a := 1) (b := 5) (k0 := 3) (pc' := 73) dX2_copyFrom_70 rfl rfl (Nat.le_of_ble_eq_true rfl) rfl mw_138 rfl ?_
  refine e_iconst (v := 0) (pc' := 74) (by decide) dX2_copyFrom_73 rfl ?_
  refine e_aload_n (pc' := 75) (i := 0) rfl rfl dX2_copyFrom_74 rfl ?_
  refine e_getI (a := 1) (n := 20) (k0 := 4) (pc' := 78) dX2_copyFrom_75 rfl rfl (Nat.le_of_ble_eq_true rfl) rfl mw_142 rfl ?_
  refine e_copy (pc' := 81) (n0 := 32) (n1 := 32) dX2_copyFrom_78 rfl mw_417 mw_419 mw_418 mw_108 (Nat.le_of_ble_eq_true rfl) (Nat.le_of_ble_eq_true rfl) rfl rfl h (fun h => ?_)
  refine e_ltA h (fun A5 h => ?_)
  obtain ⟨rfl, rfl, rfl⟩ := g_re3 h
  exact e_vret dX2_copyFrom_81
set_option maxHeartbeats 4000000 in
set_option maxRecDepth 100000 in
theorem c_X2_copyFrom_1_33  {I : Nat → Int32} {A : Nat → Nat → Int32} {L : Nat → Int64} {I' : Nat → Int32} {A' : Nat → Nat → Int32} {L' : Nat → Int64} (h : f_X2_copyFrom 1 33  I A L = some (I', A', L')) : GM yX2_copyFrom cX2_copyFrom 2 none 1 [.ref 1, .ref 33] I A L (none, (I', A', L')) := by
  refine gm_of (n := 0) (lc := [some (.ref 1), some (.ref 33)]) (by decide +kernel) rfl (fun _ => Nat.le_of_ble_eq_true rfl) ?_
  change Ev RX2 cX2_copyFrom 2 none 1 0 [some (.ref 1), some (.ref 33)] [] I A L _
  unfold f_X2_copyFrom at h
  refine e_aload_n (pc' := 1) (i := 1) rfl rfl dX2_copyFrom_0 rfl ?_
  refine e_ifnonnull (tgt := 5) dX2_copyFrom_1 (by decide) ?_
  refine e_aload_n (pc' := 6) (i := 0) rfl rfl dX2_copyFrom_5 rfl ?_
  refine e_aload_n (pc' := 7) (i := 1) rfl rfl dX2_copyFrom_6 rfl ?_
  refine e_getI (a := 33) (n := 532) (k0 := 4) (pc' := 10) dX2_copyFrom_7 rfl rfl (Nat.le_of_ble_eq_true rfl) rfl mw_142 rfl ?_
  refine e_putI (a := 1) (n := 20) (k0 := 4) (pc' := 13) dX2_copyFrom_10 rfl rfl (Nat.le_of_ble_eq_true rfl) rfl mw_142 rfl rfl g_pI rfl rfl ?_
  refine e_ltI h (fun I1 h => ?_)
  refine e_aload_n (pc' := 14) (i := 1) rfl rfl dX2_copyFrom_13 rfl ?_
  refine e_getR (a := 33) (b := 34) (k0 := 0) (pc' := 17) dX2_copyFrom_14 rfl rfl (Nat.le_of_ble_eq_true rfl) rfl mw_126 rfl ?_
  refine e_iconst (v := 0) (pc' := 18) (by decide) dX2_copyFrom_17 rfl ?_
  refine e_aload_n (pc' := 19) (i := 0) rfl rfl dX2_copyFrom_18 rfl ?_
  refine e_getR (a := 1) (b := 2) (k0 := 0) (pc' := 22) dX2_copyFrom_19 rfl rfl (Nat.le_of_ble_eq_true rfl) rfl mw_126 rfl ?_
  refine e_iconst (v := 0) (pc' := 23) (by decide) dX2_copyFrom_22 rfl ?_
  refine e_aload_n (pc' := 24) (i := 0) rfl rfl dX2_copyFrom_23 rfl ?_
  refine e_getI (a := 1) (n := 20) (k0 := 4) (pc' := 27) dX2_copyFrom_24 rfl rfl (Nat.le_of_ble_eq_true rfl) rfl mw_142 rfl ?_
  refine e_copy (pc' := 30) (n0 := 32) (n1 := 32) dX2_copyFrom_27 rfl mw_417 mw_419 mw_418 mw_108 (Nat.le_of_ble_eq_true rfl) (Nat.le_of_ble_eq_true rfl) rfl rfl h (fun h => ?_)
  refine e_ltA h (fun A2 h => ?_)
  refine e_aload_n (pc' := 31) (i := 1) rfl rfl dX2_copyFrom_30 rfl ?_
  refine e_getR (a := 33) (b := 35) (k0 := 1) (pc' := 34) dX2_copyFrom_31 rfl rfl (Nat.le_of_ble_eq_true rfl) rfl mw_130 rfl ?_
  refine e_iconst (v := 0) (pc' := 35) (by decide) dX2_copyFrom_34 rfl ?_
  refine e_aload_n (pc' := 36) (i := 0) rfl rfl dX2_copyFrom_35 rfl ?_
  refine e_getR (a := 1) (b := 3) (k0 := 1) (pc' := 39) dX2_copyFrom_36 rfl rfl (Nat.le_of_ble_eq_true rfl) rfl mw_130 rfl ?_
  refine e_iconst (v := 0) (pc' := 40) (by decide) dX2_copyFrom_39 rfl ?_
  refine e_aload_n (pc' := 41) (i := 0) rfl rfl dX2_copyFrom_40 rfl ?_
  refine e_getI (a := 1) (n := 20) (k0 := 4) (pc' := 44) dX2_copyFrom_41 rfl rfl (Nat.le_of_ble_eq_true rfl) rfl mw_142 rfl ?_
  refine e_copy (pc' := 47) (n0 := 32) (n1 := 32) dX2_copyFrom_44 rfl mw_417 mw_419 mw_418 mw_108 (Nat.le_of_ble_eq_true rfl) (Nat.le_of_ble_eq_true rfl) rfl rfl h (fun h => ?_)
  refine e_ltA h (fun A3 h => ?_)
  refine e_aload_n (pc' := 48) (i := 1) rfl rfl dX2_copyFrom_47 rfl ?_
  refine e_getR (a := 33) (b := 36) (k0 := 2) (pc' := 51) dX2_copyFrom_48 rfl rfl (Nat.le_of_ble_eq_true rfl) rfl mw_134 rfl ?_
  refine e_iconst (v := 0) (pc' := 52) (by decide) dX2_copyFrom_51 rfl ?_
  refine e_aload_n (pc' := 53) (i := 0) rfl rfl dX2_copyFrom_52 rfl ?_
  refine e_getR (a := 1) (b := 4) (k0 := 2) (pc' := 56) dX2_copyFrom_53 rfl rfl (Nat.le_of_ble_eq_true rfl) rfl mw_134 rfl ?_
  refine e_iconst (v := 0) (pc' := 57) (by decide) dX2_copyFrom_56 rfl ?_
  refine e_aload_n (pc' := 58) (i := 0) rfl rfl dX2_copyFrom_57 rfl ?_
  refine e_getI (a := 1) (n := 20) (k0 := 4) (pc' := 61) dX2_copyFrom_58 rfl rfl (Nat.le_of_ble_eq_true rfl) rfl mw_142 rfl ?_
  refine e_copy (pc' := 64) (n0 := 32) (n1 := 32) dX2_copyFrom_61 rfl mw_417 mw_419 mw_418 mw_108 (Nat.le_of_ble_eq_true rfl) (Nat.le_of_ble_eq_true rfl) rfl rfl h (fun h => ?_)
  refine e_ltA h (fun A4 h => ?_)
  refine e_aload_n (pc' := 65) (i := 1) rfl rfl dX2_copyFrom_64 rfl ?_
  refine e_getR (a := 33) (b := 37) (k0 := 3) (pc' := 68) dX2_copyFrom_65 rfl rfl (Nat.le_of_ble_eq_true rfl) rfl mw_138 rfl ?_
  refine e_iconst (v := 0) (pc' := 69) (by decide) dX2_copyFrom_68 rfl ?_
  refine e_aload_n (pc' := 70) (i := 0) rfl rfl dX2_copyFrom_69 rfl ?_
  refine e_getR (a := 1) (b := 5) (k0 := 3) (pc' := 73) dX2_copyFrom_70 rfl rfl (Nat.le_of_ble_eq_true rfl) rfl mw_138 rfl ?_
  refine e_iconst (v := 0) (pc' := 74) (by decide) dX2_copyFrom_73 rfl ?_
  refine e_aload_n (pc' := 75) (i := 0) rfl rfl dX2_copyFrom_74 rfl ?_
  refine e_getI (a := 1) (n := 20) (k0 := 4) (pc' := 78) dX2_copyFrom_75 rfl rfl (Nat.le_of_ble_eq_true rfl) rfl mw_142 rfl ?_
  refine e_copy (pc' := 81) (n0 := 32) (n1 := 32) dX2_copyFrom_78 rfl mw_417 mw_419 mw_418 mw_108 (Nat.le_of_ble_eq_true rfl) (Nat.le_of_ble_eq_true rfl) rfl rfl h (fun h => ?_)
  refine e_ltA h (fun A5 h => ?_)
  obtain ⟨rfl, rfl, rfl⟩ := g_re3 h
  exact e_vret dX2_copyFrom_81
set_option maxHeartbeats 4000000 in
set_option maxRecDepth 100000 in
theorem c_X5_takeBack_1  {I : Nat → Int32} {A : Nat → Nat → Int32} {L : Nat → Int64} {I' : Nat → Int32} {A' : Nat → Nat → Int32} {L' : Nat → Int64} (h : f_X5_takeBack 1  I A L = some (I', A', L')) : GM yX5_takeBack cX5_takeBack 2 none 2 [.ref 11, .ref 1] I A L (none, (I', A', L')) := by
  refine gm_of (n := 0) (lc := [some (.ref 11), some (.ref 1)]) (by decide +kernel) rfl (fun _ => Nat.le_of_ble_eq_true rfl) ?_
  change Ev RX5 cX5_takeBack 2 none 2 0 [some (.ref 11), some (.ref 1)] [] I A L _
  unfold f_X5_takeBack at h
  refine e_aload_n (pc' := 1) (i := 1) rfl rfl dX5_takeBack_0 rfl ?_
  refine e_aload_n (pc' := 2) (i := 0) rfl rfl dX5_takeBack_1 rfl ?_
  refine e_getR (a := 11) (b := 12) (k0 := 0) (pc' := 5) dX5_takeBack_2 rfl rfl (Nat.le_of_ble_eq_true rfl) rfl mw_168 rfl ?_
  refine e_aload_n (pc' := 6) (i := 0) rfl rfl dX5_takeBack_5 rfl ?_
  refine e_getI (a := 11) (n := 177) (k0 := 1) (pc' := 9) dX5_takeBack_6 rfl rfl (Nat.le_of_ble_eq_true rfl) rfl mw_169 rfl ?_
  refine e_ring (pc' := 10) dX5_takeBack_9 rfl h (fun h hj1 => ?_)
  rcases (show (Int32.toNatClampNeg (I 177)) = 0 ∨ (Int32.toNatClampNeg (I 177)) = 1 ∨ (Int32.toNatClampNeg (I 177)) = 2 ∨ (Int32.toNatClampNeg (I 177)) = 3 ∨ (Int32.toNatClampNeg (I 177)) = 4 by omega) with hq2 | hq9 | hq16 | hq23 | hq30
  · rw [hq2] at h ⊢
    obtain ⟨I4, A5, L6, hF3, h⟩ := g_b1_e h
    refine e_callVN_v (pc' := 13) dX5_takeBack_10 rfl mw_413 mv_X2_copyFrom rfl (Nat.le_of_ble_eq_true rfl) (Nat.le_of_ble_eq_true rfl) rfl (Nat.le_of_ble_eq_true rfl) rfl (c_X2_copyFrom_1_13 hF3) rfl ?_
    refine e_aload_n (pc' := 14) (i := 0) rfl rfl dX5_takeBack_13 rfl ?_
    refine e_aload_n (pc' := 15) (i := 0) rfl rfl dX5_takeBack_14 rfl ?_
    refine e_getI (a := 11) (n := 177) (k0 := 1) (pc' := 18) dX5_takeBack_15 rfl rfl (Nat.le_of_ble_eq_true rfl) rfl mw_169 rfl ?_
    refine e_iconst (v := 5) (pc' := 19) (by decide) dX5_takeBack_18 rfl ?_
    refine e_iadd (pc' := 20) dX5_takeBack_19 rfl ?_
    refine e_iconst (v := 1) (pc' := 21) (by decide) dX5_takeBack_20 rfl ?_
    refine e_isub (pc' := 22) dX5_takeBack_21 rfl ?_
    refine e_iconst (v := 5) (pc' := 23) (by decide) dX5_takeBack_22 rfl ?_
    refine e_irem (pc' := 24) (by decide) dX5_takeBack_23 rfl ?_
    refine e_putI (a := 11) (n := 177) (k0 := 1) (pc' := 27) dX5_takeBack_24 rfl rfl (Nat.le_of_ble_eq_true rfl) rfl mw_169 rfl rfl g_pI rfl rfl ?_
    refine e_ltI h (fun I7 h => ?_)
    refine e_aload_n (pc' := 28) (i := 0) rfl rfl dX5_takeBack_27 rfl ?_
    refine e_dup (pc' := 29) rfl dX5_takeBack_28 rfl ?_
    refine e_getI (a := 11) (n := 178) (k0 := 2) (pc' := 32) dX5_takeBack_29 rfl rfl (Nat.le_of_ble_eq_true rfl) rfl mw_170 rfl ?_
    refine e_iconst (v := 1) (pc' := 33) (by decide) dX5_takeBack_32 rfl ?_
    refine e_isub (pc' := 34) dX5_takeBack_33 rfl ?_
    refine e_putI (a := 11) (n := 178) (k0 := 2) (pc' := 37) dX5_takeBack_34 rfl rfl (Nat.le_of_ble_eq_true rfl) rfl mw_170 rfl rfl g_pI rfl rfl ?_
    refine e_ltI h (fun I8 h => ?_)
    obtain ⟨rfl, rfl, rfl⟩ := g_re3 h
    exact e_vret dX5_takeBack_37
  · rw [hq9] at h ⊢
    obtain ⟨I11, A12, L13, hF10, h⟩ := g_b1_e h
    refine e_callVN_v (pc' := 13) dX5_takeBack_10 rfl mw_413 mv_X2_copyFrom rfl (Nat.le_of_ble_eq_true rfl) (Nat.le_of_ble_eq_true rfl) rfl (Nat.le_of_ble_eq_true rfl) rfl (c_X2_copyFrom_1_18 hF10) rfl ?_
    refine e_aload_n (pc' := 14) (i := 0) rfl rfl dX5_takeBack_13 rfl ?_
    refine e_aload_n (pc' := 15) (i := 0) rfl rfl dX5_takeBack_14 rfl ?_
    refine e_getI (a := 11) (n := 177) (k0 := 1) (pc' := 18) dX5_takeBack_15 rfl rfl (Nat.le_of_ble_eq_true rfl) rfl mw_169 rfl ?_
    refine e_iconst (v := 5) (pc' := 19) (by decide) dX5_takeBack_18 rfl ?_
    refine e_iadd (pc' := 20) dX5_takeBack_19 rfl ?_
    refine e_iconst (v := 1) (pc' := 21) (by decide) dX5_takeBack_20 rfl ?_
    refine e_isub (pc' := 22) dX5_takeBack_21 rfl ?_
    refine e_iconst (v := 5) (pc' := 23) (by decide) dX5_takeBack_22 rfl ?_
    refine e_irem (pc' := 24) (by decide) dX5_takeBack_23 rfl ?_
    refine e_putI (a := 11) (n := 177) (k0 := 1) (pc' := 27) dX5_takeBack_24 rfl rfl (Nat.le_of_ble_eq_true rfl) rfl mw_169 rfl rfl g_pI rfl rfl ?_
    refine e_ltI h (fun I14 h => ?_)
    refine e_aload_n (pc' := 28) (i := 0) rfl rfl dX5_takeBack_27 rfl ?_
    refine e_dup (pc' := 29) rfl dX5_takeBack_28 rfl ?_
    refine e_getI (a := 11) (n := 178) (k0 := 2) (pc' := 32) dX5_takeBack_29 rfl rfl (Nat.le_of_ble_eq_true rfl) rfl mw_170 rfl ?_
    refine e_iconst (v := 1) (pc' := 33) (by decide) dX5_takeBack_32 rfl ?_
    refine e_isub (pc' := 34) dX5_takeBack_33 rfl ?_
    refine e_putI (a := 11) (n := 178) (k0 := 2) (pc' := 37) dX5_takeBack_34 rfl rfl (Nat.le_of_ble_eq_true rfl) rfl mw_170 rfl rfl g_pI rfl rfl ?_
    refine e_ltI h (fun I15 h => ?_)
    obtain ⟨rfl, rfl, rfl⟩ := g_re3 h
    exact e_vret dX5_takeBack_37
  · rw [hq16] at h ⊢
    obtain ⟨I18, A19, L20, hF17, h⟩ := g_b1_e h
    refine e_callVN_v (pc' := 13) dX5_takeBack_10 rfl mw_413 mv_X2_copyFrom rfl (Nat.le_of_ble_eq_true rfl) (Nat.le_of_ble_eq_true rfl) rfl (Nat.le_of_ble_eq_true rfl) rfl (c_X2_copyFrom_1_23 hF17) rfl ?_
    refine e_aload_n (pc' := 14) (i := 0) rfl rfl dX5_takeBack_13 rfl ?_
    refine e_aload_n (pc' := 15) (i := 0) rfl rfl dX5_takeBack_14 rfl ?_
    refine e_getI (a := 11) (n := 177) (k0 := 1) (pc' := 18) dX5_takeBack_15 rfl rfl (Nat.le_of_ble_eq_true rfl) rfl mw_169 rfl ?_
    refine e_iconst (v := 5) (pc' := 19) (by decide) dX5_takeBack_18 rfl ?_
    refine e_iadd (pc' := 20) dX5_takeBack_19 rfl ?_
    refine e_iconst (v := 1) (pc' := 21) (by decide) dX5_takeBack_20 rfl ?_
    refine e_isub (pc' := 22) dX5_takeBack_21 rfl ?_
    refine e_iconst (v := 5) (pc' := 23) (by decide) dX5_takeBack_22 rfl ?_
    refine e_irem (pc' := 24) (by decide) dX5_takeBack_23 rfl ?_
    refine e_putI (a := 11) (n := 177) (k0 := 1) (pc' := 27) dX5_takeBack_24 rfl rfl (Nat.le_of_ble_eq_true rfl) rfl mw_169 rfl rfl g_pI rfl rfl ?_
    refine e_ltI h (fun I21 h => ?_)
    refine e_aload_n (pc' := 28) (i := 0) rfl rfl dX5_takeBack_27 rfl ?_
    refine e_dup (pc' := 29) rfl dX5_takeBack_28 rfl ?_
    refine e_getI (a := 11) (n := 178) (k0 := 2) (pc' := 32) dX5_takeBack_29 rfl rfl (Nat.le_of_ble_eq_true rfl) rfl mw_170 rfl ?_
    refine e_iconst (v := 1) (pc' := 33) (by decide) dX5_takeBack_32 rfl ?_
    refine e_isub (pc' := 34) dX5_takeBack_33 rfl ?_
    refine e_putI (a := 11) (n := 178) (k0 := 2) (pc' := 37) dX5_takeBack_34 rfl rfl (Nat.le_of_ble_eq_true rfl) rfl mw_170 rfl rfl g_pI rfl rfl ?_
    refine e_ltI h (fun I22 h => ?_)
    obtain ⟨rfl, rfl, rfl⟩ := g_re3 h
    exact e_vret dX5_takeBack_37
  · rw [hq23] at h ⊢
    obtain ⟨I25, A26, L27, hF24, h⟩ := g_b1_e h
    refine e_callVN_v (pc' := 13) dX5_takeBack_10 rfl mw_413 mv_X2_copyFrom rfl (Nat.le_of_ble_eq_true rfl) (Nat.le_of_ble_eq_true rfl) rfl (Nat.le_of_ble_eq_true rfl) rfl (c_X2_copyFrom_1_28 hF24) rfl ?_
    refine e_aload_n (pc' := 14) (i := 0) rfl rfl dX5_takeBack_13 rfl ?_
    refine e_aload_n (pc' := 15) (i := 0) rfl rfl dX5_takeBack_14 rfl ?_
    refine e_getI (a := 11) (n := 177) (k0 := 1) (pc' := 18) dX5_takeBack_15 rfl rfl (Nat.le_of_ble_eq_true rfl) rfl mw_169 rfl ?_
    refine e_iconst (v := 5) (pc' := 19) (by decide) dX5_takeBack_18 rfl ?_
    refine e_iadd (pc' := 20) dX5_takeBack_19 rfl ?_
    refine e_iconst (v := 1) (pc' := 21) (by decide) dX5_takeBack_20 rfl ?_
    refine e_isub (pc' := 22) dX5_takeBack_21 rfl ?_
    refine e_iconst (v := 5) (pc' := 23) (by decide) dX5_takeBack_22 rfl ?_
    refine e_irem (pc' := 24) (by decide) dX5_takeBack_23 rfl ?_
    refine e_putI (a := 11) (n := 177) (k0 := 1) (pc' := 27) dX5_takeBack_24 rfl rfl (Nat.le_of_ble_eq_true rfl) rfl mw_169 rfl rfl g_pI rfl rfl ?_
    refine e_ltI h (fun I28 h => ?_)
    refine e_aload_n (pc' := 28) (i := 0) rfl rfl dX5_takeBack_27 rfl ?_
    refine e_dup (pc' := 29) rfl dX5_takeBack_28 rfl ?_
    refine e_getI (a := 11) (n := 178) (k0 := 2) (pc' := 32) dX5_takeBack_29 rfl rfl (Nat.le_of_ble_eq_true rfl) rfl mw_170 rfl ?_
    refine e_iconst (v := 1) (pc' := 33) (by decide) dX5_takeBack_32 rfl ?_
    refine e_isub (pc' := 34) dX5_takeBack_33 rfl ?_
    refine e_putI (a := 11) (n := 178) (k0 := 2) (pc' := 37) dX5_takeBack_34 rfl rfl (Nat.le_of_ble_eq_true rfl) rfl mw_170 rfl rfl g_pI rfl rfl ?_
    refine e_ltI h (fun I29 h => ?_)
    obtain ⟨rfl, rfl, rfl⟩ := g_re3 h
    exact e_vret dX5_takeBack_37
  · rw [hq30] at h ⊢
    obtain ⟨I32, A33, L34, hF31, h⟩ := g_b1_e h
    refine e_callVN_v (pc' := 13) dX5_takeBack_10 rfl mw_413 mv_X2_copyFrom rfl (Nat.le_of_ble_eq_true rfl) (Nat.le_of_ble_eq_true rfl) rfl (Nat.le_of_ble_eq_true rfl) rfl (c_X2_copyFrom_1_33 hF31) rfl ?_
    refine e_aload_n (pc' := 14) (i := 0) rfl rfl dX5_takeBack_13 rfl ?_
    refine e_aload_n (pc' := 15) (i := 0) rfl rfl dX5_takeBack_14 rfl ?_
    refine e_getI (a := 11) (n := 177) (k0 := 1) (pc' := 18) dX5_takeBack_15 rfl rfl (Nat.le_of_ble_eq_true rfl) rfl mw_169 rfl ?_
    refine e_iconst (v := 5) (pc' := 19) (by decide) dX5_takeBack_18 rfl ?_
    refine e_iadd (pc' := 20) dX5_takeBack_19 rfl ?_
    refine e_iconst (v := 1) (pc' := 21) (by decide) dX5_takeBack_20 rfl ?_
    refine e_isub (pc' := 22) dX5_takeBack_21 rfl ?_
    refine e_iconst (v := 5) (pc' := 23) (by decide) dX5_takeBack_22 rfl ?_
    refine e_irem (pc' := 24) (by decide) dX5_takeBack_23 rfl ?_
    refine e_putI (a := 11) (n := 177) (k0 := 1) (pc' := 27) dX5_takeBack_24 rfl rfl (Nat.le_of_ble_eq_true rfl) rfl mw_169 rfl rfl g_pI rfl rfl ?_
    refine e_ltI h (fun I35 h => ?_)
    refine e_aload_n (pc' := 28) (i := 0) rfl rfl dX5_takeBack_27 rfl ?_
    refine e_dup (pc' := 29) rfl dX5_takeBack_28 rfl ?_
    refine e_getI (a := 11) (n := 178) (k0 := 2) (pc' := 32) dX5_takeBack_29 rfl rfl (Nat.le_of_ble_eq_true rfl) rfl mw_170 rfl ?_
    refine e_iconst (v := 1) (pc' := 33) (by decide) dX5_takeBack_32 rfl ?_
    refine e_isub (pc' := 34) dX5_takeBack_33 rfl ?_
    refine e_putI (a := 11) (n := 178) (k0 := 2) (pc' := 37) dX5_takeBack_34 rfl rfl (Nat.le_of_ble_eq_true rfl) rfl mw_170 rfl rfl g_pI rfl rfl ?_
    refine e_ltI h (fun I36 h => ?_)
    obtain ⟨rfl, rfl, rfl⟩ := g_re3 h
    exact e_vret dX5_takeBack_37
set_option maxHeartbeats 4000000 in
set_option maxRecDepth 100000 in
theorem c_X6_back  {I : Nat → Int32} {A : Nat → Nat → Int32} {L : Nat → Int64} {t : Int32} {I' : Nat → Int32} {A' : Nat → Nat → Int32} {L' : Nat → Int64} (h : f_X6_back   I A L = some (t, I', A', L')) : GM yX6_back cX6_back 1 (some .int) 3 [.ref 0] I A L (some (.int t), (I', A', L')) := by
  refine gm_of (n := 0) (lc := [some (.ref 0)]) (by decide +kernel) rfl (fun _ => Nat.le_of_ble_eq_true rfl) ?_
  change Ev RX6 cX6_back 1 (some .int) 3 0 [some (.ref 0)] [] I A L _
  unfold f_X6_back at h
  refine e_aload_n (pc' := 1) (i := 0) rfl rfl dX6_back_0 rfl ?_
  refine e_getR (a := 0) (b := 11) (k0 := 2) (pc' := 4) dX6_back_1 rfl rfl (Nat.le_of_ble_eq_true rfl) rfl mw_337 rfl ?_
  refine e_getIN (a := 11) (n := 178) (k0 := 2) (pc' := 7) dX6_back_4 rfl rfl (Nat.le_of_ble_eq_true rfl) rfl mw_171 rfl ?_
  refine e_if_gt (tgt := 15) (pc' := 10) dX6_back_7 (by decide) rfl h (fun h => ?_) (fun h => ?_)
  · refine e_aload_n (pc' := 16) (i := 0) rfl rfl dX6_back_15 rfl ?_
    refine e_getR (a := 0) (b := 11) (k0 := 2) (pc' := 19) dX6_back_16 rfl rfl (Nat.le_of_ble_eq_true rfl) rfl mw_337 rfl ?_
    refine e_aload_n (pc' := 20) (i := 0) rfl rfl dX6_back_19 rfl ?_
    refine e_getR (a := 0) (b := 1) (k0 := 0) (pc' := 23) dX6_back_20 rfl rfl (Nat.le_of_ble_eq_true rfl) rfl mw_335 rfl ?_
    obtain ⟨I2, A3, L4, hF1, h⟩ := g_b1_e h
    refine e_callVN_v (pc' := 26) dX6_back_23 rfl mw_765 mv_X5_takeBack rfl (Nat.le_of_ble_eq_true rfl) (Nat.le_of_ble_eq_true rfl) rfl (Nat.le_of_ble_eq_true rfl) rfl (c_X5_takeBack_1 hF1) rfl ?_
    refine e_aload_n (pc' := 27) (i := 0) rfl rfl dX6_back_26 rfl ?_
    obtain ⟨I6, A7, L8, hF5, h⟩ := g_b1_e h
    refine e_callV_v (pc' := 30) dX6_back_27 rfl mw_423 mv_X6_forgetCrystal rfl (Nat.le_of_ble_eq_true rfl) (Nat.le_of_ble_eq_true rfl) rfl (Nat.le_of_ble_eq_true rfl) rfl (c_X6_forgetCrystal hF5) rfl ?_
    refine e_aload_n (pc' := 31) (i := 0) rfl rfl dX6_back_30 rfl ?_
    refine e_getR (a := 0) (b := 11) (k0 := 2) (pc' := 34) dX6_back_31 rfl rfl (Nat.le_of_ble_eq_true rfl) rfl mw_337 rfl ?_
    refine e_getIN (a := 11) (n := 178) (k0 := 2) (pc' := 37) dX6_back_34 rfl rfl (Nat.le_of_ble_eq_true rfl) rfl mw_171 rfl ?_
    obtain ⟨rfl, rfl, rfl, rfl⟩ := g_re4 h
    exact e_iret dX6_back_37
  · refine e_aload_n (pc' := 11) (i := 0) rfl rfl dX6_back_10 rfl ?_
    obtain ⟨v13, I10, A11, L12, hF9, h⟩ := g_b2_e h
    refine e_callV_i (pc' := 14) dX6_back_11 rfl mw_623 mv_X6_refuseNo rfl (Nat.le_of_ble_eq_true rfl) (Nat.le_of_ble_eq_true rfl) rfl (Nat.le_of_ble_eq_true rfl) rfl (c_X6_refuseNo hF9) rfl ?_
    obtain ⟨rfl, rfl, rfl, rfl⟩ := g_re4 h
    exact e_iret dX6_back_14
set_option maxHeartbeats 4000000 in
set_option maxRecDepth 100000 in
theorem c_X6_howMany (a0 : Int32) {I : Nat → Int32} {A : Nat → Nat → Int32} {L : Nat → Int64} {t : Int32} (h : f_X6_howMany I A L a0 = some t) : GM yX6_howMany cX6_howMany 2 (some .int) 0 [.ref 0, .int a0] I A L (some (.int t), (I, A, L)) := by
  refine gm_of (n := 0) (lc := [some (.ref 0), some (.int a0)]) (by decide +kernel) rfl (fun _ => Nat.le_of_ble_eq_true rfl) ?_
  change Ev RX6 cX6_howMany 2 (some .int) 0 0 [some (.ref 0), some (.int a0)] [] I A L _
  unfold f_X6_howMany at h
  refine e_iload_n (pc' := 1) (i := 1) rfl rfl dX6_howMany_0 rfl ?_
  by_cases q1 : a0 = 0
  · rw [if_pos q1] at h
    refine e_swIn (off := 35) (tgt := 36) dX6_howMany_1 (by rw [q1]; decide) (by rw [q1]; decide) (by rw [q1]; rfl) (by decide) ?_
    refine e_aload_n (pc' := 37) (i := 0) rfl rfl dX6_howMany_36 rfl ?_
    refine e_getI (a := 0) (n := 13) (k0 := 13) (pc' := 40) dX6_howMany_37 rfl rfl (Nat.le_of_ble_eq_true rfl) rfl mw_348 rfl ?_
    obtain rfl := g_re1 h
    exact e_iret dX6_howMany_40
  rw [if_neg q1] at h
  by_cases q2 : a0 = 1
  · rw [if_pos q2] at h
    refine e_swIn (off := 40) (tgt := 41) dX6_howMany_1 (by rw [q2]; decide) (by rw [q2]; decide) (by rw [q2]; rfl) (by decide) ?_
    refine e_aload_n (pc' := 42) (i := 0) rfl rfl dX6_howMany_41 rfl ?_
    refine e_getI (a := 0) (n := 14) (k0 := 14) (pc' := 45) dX6_howMany_42 rfl rfl (Nat.le_of_ble_eq_true rfl) rfl mw_349 rfl ?_
    obtain rfl := g_re1 h
    exact e_iret dX6_howMany_45
  rw [if_neg q2] at h
  by_cases q3 : a0 = 2
  · rw [if_pos q3] at h
    refine e_swIn (off := 45) (tgt := 46) dX6_howMany_1 (by rw [q3]; decide) (by rw [q3]; decide) (by rw [q3]; rfl) (by decide) ?_
    refine e_aload_n (pc' := 47) (i := 0) rfl rfl dX6_howMany_46 rfl ?_
    refine e_getI (a := 0) (n := 15) (k0 := 15) (pc' := 50) dX6_howMany_47 rfl rfl (Nat.le_of_ble_eq_true rfl) rfl mw_350 rfl ?_
    obtain rfl := g_re1 h
    exact e_iret dX6_howMany_50
  rw [if_neg q3] at h
  by_cases q4 : a0 = 3
  · rw [if_pos q4] at h
    refine e_swIn (off := 50) (tgt := 51) dX6_howMany_1 (by rw [q4]; decide) (by rw [q4]; decide) (by rw [q4]; rfl) (by decide) ?_
    refine e_aload_n (pc' := 52) (i := 0) rfl rfl dX6_howMany_51 rfl ?_
    refine e_getR (a := 0) (b := 57) (k0 := 6) (pc' := 55) dX6_howMany_52 rfl rfl (Nat.le_of_ble_eq_true rfl) rfl mw_341 rfl ?_
    refine e_getIN (a := 57) (n := 913) (k0 := 1) (pc' := 58) dX6_howMany_55 rfl rfl (Nat.le_of_ble_eq_true rfl) rfl mw_299 rfl ?_
    obtain rfl := g_re1 h
    exact e_iret dX6_howMany_58
  rw [if_neg q4] at h
  by_cases q5 : a0 = 4
  · rw [if_pos q5] at h
    refine e_swIn (off := 58) (tgt := 59) dX6_howMany_1 (by rw [q5]; decide) (by rw [q5]; decide) (by rw [q5]; rfl) (by decide) ?_
    refine e_aload_n (pc' := 60) (i := 0) rfl rfl dX6_howMany_59 rfl ?_
    refine e_getR (a := 0) (b := 1) (k0 := 0) (pc' := 63) dX6_howMany_60 rfl rfl (Nat.le_of_ble_eq_true rfl) rfl mw_335 rfl ?_
    refine e_getIN (a := 1) (n := 20) (k0 := 4) (pc' := 66) dX6_howMany_63 rfl rfl (Nat.le_of_ble_eq_true rfl) rfl mw_144 rfl ?_
    obtain rfl := g_re1 h
    exact e_iret dX6_howMany_66
  rw [if_neg q5] at h
  refine e_swOut (tgt := 67) dX6_howMany_1 (g_swo4 q1 q2 q3 q4 q5) (by decide) ?_
  refine e_aload_n (pc' := 68) (i := 0) rfl rfl dX6_howMany_67 rfl ?_
  refine e_getR (a := 0) (b := 11) (k0 := 2) (pc' := 71) dX6_howMany_68 rfl rfl (Nat.le_of_ble_eq_true rfl) rfl mw_337 rfl ?_
  refine e_getIN (a := 11) (n := 178) (k0 := 2) (pc' := 74) dX6_howMany_71 rfl rfl (Nat.le_of_ble_eq_true rfl) rfl mw_171 rfl ?_
  obtain rfl := g_re1 h
  exact e_iret dX6_howMany_74
set_option maxHeartbeats 4000000 in
set_option maxRecDepth 100000 in
theorem w_X6_told_p9  : ∀ (I : Nat → Int32) (A : Nat → Nat → Int32) (L : Nat → Int64) (t : (Int32 × gS)), f_X6_told_p9 I A L = some t → Ev RX6 cX6_told 2 (some .int) 1 9 [some (.ref 0), none] [] I A L (some (.int t.1), t.2) := by
  intro  I A L t h
  unfold f_X6_told_p9 at h
  refine e_aload_n (pc' := 10) (i := 0) rfl rfl dX6_told_9 rfl ?_
  refine e_bipush (v := (-2)) (pc' := 12) (by decide) dX6_told_10 rfl ?_
  obtain ⟨v5, I2, A3, L4, hF1, h⟩ := g_b2_e h
  refine e_callV_i (pc' := 15) dX6_told_12 rfl mw_397 mv_X6_refuseBad rfl (Nat.le_of_ble_eq_true rfl) (Nat.le_of_ble_eq_true rfl) rfl (Nat.le_of_ble_eq_true rfl) rfl (c_X6_refuseBad _ hF1) rfl ?_
  obtain rfl := g_re1 h
  exact e_iret dX6_told_15
set_option maxHeartbeats 4000000 in
set_option maxRecDepth 100000 in
theorem c_X6_told (a0 : Int32) {I : Nat → Int32} {A : Nat → Nat → Int32} {L : Nat → Int64} {t : Int32} {I' : Nat → Int32} {A' : Nat → Nat → Int32} {L' : Nat → Int64} (h : f_X6_told  a0 I A L = some (t, I', A', L')) : GM yX6_told cX6_told 2 (some .int) 1 [.ref 0, .int a0] I A L (some (.int t), (I', A', L')) := by
  refine gm_of (n := 0) (lc := [some (.ref 0), some (.int a0)]) (by decide +kernel) rfl (fun _ => Nat.le_of_ble_eq_true rfl) ?_
  change Ev RX6 cX6_told 2 (some .int) 1 0 [some (.ref 0), some (.int a0)] [] I A L _
  unfold f_X6_told at h
  refine e_iload_n (pc' := 1) (i := 1) rfl rfl dX6_told_0 rfl ?_
  refine e_if_lt (tgt := 9) (pc' := 4) dX6_told_1 (by decide) rfl h (fun h => ?_) (fun h => ?_)
  · exact e_weak (lc' := [some (.ref 0), none]) (gle_s (gle_n gle_0)) (w_X6_told_p9  _ _ _ _ h)
  · refine e_iload_n (pc' := 5) (i := 1) rfl rfl dX6_told_4 rfl ?_
    refine e_iconst (v := 5) (pc' := 6) (by decide) dX6_told_5 rfl ?_
    refine e_icmp_le (tgt := 16) (pc' := 9) dX6_told_6 (by decide) rfl h (fun h => ?_) (fun h => ?_)
    · refine e_aload_n (pc' := 17) (i := 0) rfl rfl dX6_told_16 rfl ?_
      refine e_iload_n (pc' := 18) (i := 1) rfl rfl dX6_told_17 rfl ?_
      obtain ⟨v2, hF1, h⟩ := g_bd_e h
      refine e_callV_i (pc' := 21) dX6_told_18 rfl mw_773 mv_X6_howMany rfl (Nat.le_of_ble_eq_true rfl) (Nat.le_of_ble_eq_true rfl) rfl (Nat.le_of_ble_eq_true rfl) rfl (c_X6_howMany _ hF1) rfl ?_
      obtain ⟨rfl, rfl, rfl, rfl⟩ := g_re4 h
      exact e_iret dX6_told_21
    · exact e_weak (lc' := [some (.ref 0), none]) (gle_s (gle_n gle_0)) (w_X6_told_p9  _ _ _ _ h)
