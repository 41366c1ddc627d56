set_option maxHeartbeats 4000000 in
set_option maxRecDepth 100000 in
theorem w_X4_placeOf_46_p12 (I : Nat → Int32) (A : Nat → Nat → Int32) (L : Nat → Int64) : ∀ (n : Nat) (x1 : Int32) (x2 : Int32) (x3 : Int32) (x4 : Int32) (x5 : Int32) (x6 : Int32) (x7 : Int32) (t : Int32), f_X4_placeOf_p12 46 I A L n x1 x2 x3 x4 x5 x6 x7 = some t → Ev RX4 cX4_placeOf 9 (some .int) 1 12 [some (.ref 46), some (.int x1), some (.int x2), some (.int x3), some (.int x4), some (.int x5), some (.int x6), some (.int x7), none] [] I A L (some (.int t), (I, A, L)) := by
  intro n
  induction n with
  | zero =>
    intro x1 x2 x3 x4 x5 x6 x7 t h
    cases h
  | succ n ih =>
    intro x1 x2 x3 x4 x5 x6 x7 t h
    rw [f_X4_placeOf_p12] at h
    refine e_iload (pc' := 14) (i := 7) rfl dX4_placeOf_12 rfl ?_
    refine e_bipush (v := 60) (pc' := 16) (by decide) dX4_placeOf_14 rfl ?_
    refine e_icmp_ge (tgt := 68) (pc' := 19) dX4_placeOf_16 (by decide) rfl h (fun h => ?_) (fun h => ?_)
    · refine e_iload (pc' := 70) (i := 5) rfl dX4_placeOf_68 rfl ?_
      obtain rfl := g_re1 h
      exact e_iret dX4_placeOf_70
    · refine e_iload (pc' := 21) (i := 5) rfl dX4_placeOf_19 rfl ?_
      refine e_iload (pc' := 23) (i := 6) rfl dX4_placeOf_21 rfl ?_
      refine e_icmp_ge (tgt := 68) (pc' := 26) dX4_placeOf_23 (by decide) rfl h (fun h => ?_) (fun h => ?_)
      · refine e_iload (pc' := 70) (i := 5) rfl dX4_placeOf_68 rfl ?_
        obtain rfl := g_re1 h
        exact e_iret dX4_placeOf_70
      · refine e_iload (pc' := 28) (i := 5) rfl dX4_placeOf_26 rfl ?_
        refine e_iload (pc' := 30) (i := 6) rfl dX4_placeOf_28 rfl ?_
        refine e_iadd (pc' := 31) dX4_placeOf_30 rfl ?_
        refine e_iconst (v := 2) (pc' := 32) (by decide) dX4_placeOf_31 rfl ?_
        refine e_idiv (pc' := 33) (by decide) dX4_placeOf_32 rfl ?_
        refine e_lt h (fun v1 h => ?_)
        refine e_istore (pc' := 35) (i := 8) (lc' := [some (.ref 46), some (.int x1), some (.int x2), some (.int x3), some (.int x4), some (.int x5), some (.int x6), some (.int x7), some (.int v1)]) dX4_placeOf_33 rfl (Nat.le_of_ble_eq_true rfl) rfl rfl ?_
        refine e_aload_n (pc' := 36) (i := 0) rfl rfl dX4_placeOf_35 rfl ?_
        refine e_iload (pc' := 38) (i := 8) rfl dX4_placeOf_36 rfl ?_
        refine e_iload_n (pc' := 39) (i := 1) rfl rfl dX4_placeOf_38 rfl ?_
        refine e_iload_n (pc' := 40) (i := 2) rfl rfl dX4_placeOf_39 rfl ?_
        refine e_iload_n (pc' := 41) (i := 3) rfl rfl dX4_placeOf_40 rfl ?_
        refine e_iload (pc' := 43) (i := 4) rfl dX4_placeOf_41 rfl ?_
        obtain ⟨v3, hF2, h⟩ := g_bd_e h
        refine e_callV_i (pc' := 46) dX4_placeOf_43 rfl mw_537 mv_X4_order rfl (Nat.le_of_ble_eq_true rfl) (Nat.le_of_ble_eq_true rfl) rfl (Nat.le_of_ble_eq_true rfl) rfl (c_X4_order_46 _ _ _ _ _ hF2) rfl ?_
        refine e_if_ge (tgt := 58) (pc' := 49) dX4_placeOf_46 (by decide) rfl h (fun h => ?_) (fun h => ?_)
        · refine e_iload (pc' := 60) (i := 8) rfl dX4_placeOf_58 rfl ?_
          refine e_istore (pc' := 62) (i := 6) (lc' := [some (.ref 46), some (.int x1), some (.int x2), some (.int x3), some (.int x4), some (.int x5), some (.int v1), some (.int x7), some (.int v1)]) dX4_placeOf_60 rfl (Nat.le_of_ble_eq_true rfl) rfl rfl ?_
          refine e_iinc (pc' := 65) (v := (x7 + 1)) (lc' := [some (.ref 46), some (.int x1), some (.int x2), some (.int x3), some (.int x4), some (.int x5), some (.int v1), some (.int (x7 + 1)), some (.int v1)]) dX4_placeOf_62 rfl rfl rfl (Nat.le_of_ble_eq_true rfl) rfl rfl ?_
          refine e_goto (tgt := 12) dX4_placeOf_65 (by decide) ?_
          exact e_weak (lc' := [some (.ref 46), some (.int x1), some (.int x2), some (.int x3), some (.int x4), some (.int x5), some (.int v1), some (.int (x7 + 1)), none]) (gle_s (gle_s (gle_s (gle_s (gle_s (gle_s (gle_s (gle_s (gle_n gle_0))))))))) (ih _ _ _ _ _ _ _ _ h)
        · refine e_iload (pc' := 51) (i := 8) rfl dX4_placeOf_49 rfl ?_
          refine e_iconst (v := 1) (pc' := 52) (by decide) dX4_placeOf_51 rfl ?_
          refine e_iadd (pc' := 53) dX4_placeOf_52 rfl ?_
          refine e_istore (pc' := 55) (i := 5) (lc' := [some (.ref 46), some (.int x1), some (.int x2), some (.int x3), some (.int x4), some (.int (v1 + 1)), some (.int x6), some (.int x7), some (.int v1)]) dX4_placeOf_53 rfl (Nat.le_of_ble_eq_true rfl) rfl rfl ?_
          refine e_goto (tgt := 62) dX4_placeOf_55 (by decide) ?_
          refine e_iinc (pc' := 65) (v := (x7 + 1)) (lc' := [some (.ref 46), some (.int x1), some (.int x2), some (.int x3), some (.int x4), some (.int (v1 + 1)), some (.int x6), some (.int (x7 + 1)), some (.int v1)]) dX4_placeOf_62 rfl rfl rfl (Nat.le_of_ble_eq_true rfl) rfl rfl ?_
          refine e_goto (tgt := 12) dX4_placeOf_65 (by decide) ?_
          exact e_weak (lc' := [some (.ref 46), some (.int x1), some (.int x2), some (.int x3), some (.int x4), some (.int (v1 + 1)), some (.int x6), some (.int (x7 + 1)), none]) (gle_s (gle_s (gle_s (gle_s (gle_s (gle_s (gle_s (gle_s (gle_n gle_0))))))))) (ih _ _ _ _ _ _ _ _ h)
set_option maxHeartbeats 4000000 in
set_option maxRecDepth 100000 in
theorem c_X4_placeOf_46 (a0 : Int32) (a1 : Int32) (a2 : Int32) (a3 : Int32) {I : Nat → Int32} {A : Nat → Nat → Int32} {L : Nat → Int64} {t : Int32} (h : f_X4_placeOf 46 I A L a0 a1 a2 a3 = some t) : GM yX4_placeOf cX4_placeOf 9 (some .int) 1 [.ref 46, .int a0, .int a1, .int a2, .int a3] I A L (some (.int t), (I, A, L)) := by
  refine gm_of (n := 4) (lc := [some (.ref 46), some (.int a0), some (.int a1), some (.int a2), some (.int a3), none, none, none, none]) (by decide +kernel) rfl (fun _ => Nat.le_of_ble_eq_true rfl) ?_
  change Ev RX4 cX4_placeOf 9 (some .int) 1 0 [some (.ref 46), some (.int a0), some (.int a1), some (.int a2), some (.int a3), none, none, none, none] [] I A L _
  unfold f_X4_placeOf at h
  refine e_iconst (v := 0) (pc' := 1) (by decide) dX4_placeOf_0 rfl ?_
  refine e_istore (pc' := 3) (i := 5) (lc' := [some (.ref 46), some (.int a0), some (.int a1), some (.int a2), some (.int a3), some (.int 0), none, none, none]) dX4_placeOf_1 rfl (Nat.le_of_ble_eq_true rfl) rfl rfl ?_
  refine e_aload_n (pc' := 4) (i := 0) rfl rfl dX4_placeOf_3 rfl ?_
  refine e_getI (a := 46) (n := 743) (k0 := 7) (pc' := 7) dX4_placeOf_4 rfl rfl (Nat.le_of_ble_eq_true rfl) rfl mw_246 rfl ?_
  refine e_lt h (fun v1 h => ?_)
  refine e_istore (pc' := 9) (i := 6) (lc' := [some (.ref 46), some (.int a0), some (.int a1), some (.int a2), some (.int a3), some (.int 0), some (.int v1), none, none]) dX4_placeOf_7 rfl (Nat.le_of_ble_eq_true rfl) rfl rfl ?_
  refine e_iconst (v := 0) (pc' := 10) (by decide) dX4_placeOf_9 rfl ?_
  refine e_istore (pc' := 12) (i := 7) (lc' := [some (.ref 46), some (.int a0), some (.int a1), some (.int a2), some (.int a3), some (.int 0), some (.int v1), some (.int 0), none]) dX4_placeOf_10 rfl (Nat.le_of_ble_eq_true rfl) rfl rfl ?_
  exact e_weak (lc' := [some (.ref 46), some (.int a0), some (.int a1), some (.int a2), some (.int a3), some (.int 0), some (.int v1), some (.int 0), none]) (gle_s (gle_s (gle_s (gle_s (gle_s (gle_s (gle_s (gle_s (gle_n gle_0))))))))) (w_X4_placeOf_46_p12 I A L  _ _ _ _ _ _ _ _ _ h)
set_option maxHeartbeats 4000000 in
set_option maxRecDepth 100000 in
theorem w_X4_keepPoint_46_p166  : ∀ (x3 : Int32) (x4 : Int32) (x5 : Int32) (x6 : Int32) (x8 : Int32) (I : Nat → Int32) (A : Nat → Nat → Int32) (L : Nat → Int64) (t : gS), f_X4_keepPoint_p166 46 x3 x4 x5 x6 x8 I A L = some t → Ev RX4 cX4_keepPoint 9 none 2 166 [some (.ref 46), none, none, some (.int x3), some (.int x4), some (.int x5), some (.int x6), none, some (.int x8)] [] I A L (none, t) := by
  intro x3 x4 x5 x6 x8 I A L t h
  unfold f_X4_keepPoint_p166 at h
  refine e_aload_n (pc' := 167) (i := 0) rfl rfl dX4_keepPoint_166 rfl ?_
  refine e_iload (pc' := 169) (i := 8) rfl dX4_keepPoint_167 rfl ?_
  refine e_iload_n (pc' := 170) (i := 3) rfl rfl dX4_keepPoint_169 rfl ?_
  refine e_iload (pc' := 172) (i := 4) rfl dX4_keepPoint_170 rfl ?_
  refine e_iload (pc' := 174) (i := 5) rfl dX4_keepPoint_172 rfl ?_
  refine e_iload (pc' := 176) (i := 6) rfl dX4_keepPoint_174 rfl ?_
  obtain ⟨I2, A3, L4, hF1, h⟩ := g_b1_e h
  refine e_callV_v (pc' := 179) dX4_keepPoint_176 rfl mw_541 mv_X4_putCorner rfl (Nat.le_of_ble_eq_true rfl) (Nat.le_of_ble_eq_true rfl) rfl (Nat.le_of_ble_eq_true rfl) rfl (c_X4_putCorner_46 _ _ _ _ _ hF1) rfl ?_
  obtain rfl := g_re1 h
  exact e_vret dX4_keepPoint_179
set_option maxHeartbeats 4000000 in
set_option maxRecDepth 100000 in
theorem c_X4_keepPoint_46 (a0 : Int32) (a1 : Int32) {I : Nat → Int32} {A : Nat → Nat → Int32} {L : Nat → Int64} {I' : Nat → Int32} {A' : Nat → Nat → Int32} {L' : Nat → Int64} (h : f_X4_keepPoint 46 a0 a1 I A L = some (I', A', L')) : GM yX4_keepPoint cX4_keepPoint 9 none 2 [.ref 46, .int a0, .int a1] I A L (none, (I', A', L')) := by
  refine gm_of (n := 6) (lc := [some (.ref 46), some (.int a0), some (.int a1), none, none, none, none, none, none]) (by decide +kernel) rfl (fun _ => Nat.le_of_ble_eq_true rfl) ?_
  change Ev RX4 cX4_keepPoint 9 none 2 0 [some (.ref 46), some (.int a0), some (.int a1), none, none, none, none, none, none] [] I A L _
  unfold f_X4_keepPoint at h
  refine e_aload_n (pc' := 1) (i := 0) rfl rfl dX4_keepPoint_0 rfl ?_
  refine e_getR (a := 46) (b := 53) (k0 := 6) (pc' := 4) dX4_keepPoint_1 rfl rfl (Nat.le_of_ble_eq_true rfl) rfl mw_245 rfl ?_
  refine e_getIN (a := 53) (n := 851) (k0 := 3) (pc' := 7) dX4_keepPoint_4 rfl rfl (Nat.le_of_ble_eq_true rfl) rfl mw_198 rfl ?_
  refine e_iload_n (pc' := 8) (i := 2) rfl rfl dX4_keepPoint_7 rfl ?_
  refine e_imul (pc' := 9) dX4_keepPoint_8 rfl ?_
  refine e_aload_n (pc' := 10) (i := 0) rfl rfl dX4_keepPoint_9 rfl ?_
  refine e_getR (a := 46) (b := 53) (k0 := 6) (pc' := 13) dX4_keepPoint_10 rfl rfl (Nat.le_of_ble_eq_true rfl) rfl mw_245 rfl ?_
  refine e_getIN (a := 53) (n := 848) (k0 := 0) (pc' := 16) dX4_keepPoint_13 rfl rfl (Nat.le_of_ble_eq_true rfl) rfl mw_192 rfl ?_
  refine e_iload_n (pc' := 17) (i := 1) rfl rfl dX4_keepPoint_16 rfl ?_
  refine e_imul (pc' := 18) dX4_keepPoint_17 rfl ?_
  refine e_iadd (pc' := 19) dX4_keepPoint_18 rfl ?_
  refine e_lt h (fun v1 h => ?_)
  refine e_istore_n (pc' := 20) (i := 3) (lc' := [some (.ref 46), some (.int a0), some (.int a1), some (.int v1), none, none, none, none, none]) rfl dX4_keepPoint_19 rfl (Nat.le_of_ble_eq_true rfl) rfl rfl ?_
  refine e_aload_n (pc' := 21) (i := 0) rfl rfl dX4_keepPoint_20 rfl ?_
  refine e_getR (a := 46) (b := 53) (k0 := 6) (pc' := 24) dX4_keepPoint_21 rfl rfl (Nat.le_of_ble_eq_true rfl) rfl mw_245 rfl ?_
  refine e_getIN (a := 53) (n := 852) (k0 := 4) (pc' := 27) dX4_keepPoint_24 rfl rfl (Nat.le_of_ble_eq_true rfl) rfl mw_200 rfl ?_
  refine e_iload_n (pc' := 28) (i := 2) rfl rfl dX4_keepPoint_27 rfl ?_
  refine e_imul (pc' := 29) dX4_keepPoint_28 rfl ?_
  refine e_aload_n (pc' := 30) (i := 0) rfl rfl dX4_keepPoint_29 rfl ?_
  refine e_getR (a := 46) (b := 53) (k0 := 6) (pc' := 33) dX4_keepPoint_30 rfl rfl (Nat.le_of_ble_eq_true rfl) rfl mw_245 rfl ?_
  refine e_getIN (a := 53) (n := 849) (k0 := 1) (pc' := 36) dX4_keepPoint_33 rfl rfl (Nat.le_of_ble_eq_true rfl) rfl mw_194 rfl ?_
  refine e_iload_n (pc' := 37) (i := 1) rfl rfl dX4_keepPoint_36 rfl ?_
  refine e_imul (pc' := 38) dX4_keepPoint_37 rfl ?_
  refine e_iadd (pc' := 39) dX4_keepPoint_38 rfl ?_
  refine e_lt h (fun v2 h => ?_)
  refine e_istore (pc' := 41) (i := 4) (lc' := [some (.ref 46), some (.int a0), some (.int a1), some (.int v1), some (.int v2), none, none, none, none]) dX4_keepPoint_39 rfl (Nat.le_of_ble_eq_true rfl) rfl rfl ?_
  refine e_aload_n (pc' := 42) (i := 0) rfl rfl dX4_keepPoint_41 rfl ?_
  refine e_getR (a := 46) (b := 53) (k0 := 6) (pc' := 45) dX4_keepPoint_42 rfl rfl (Nat.le_of_ble_eq_true rfl) rfl mw_245 rfl ?_
  refine e_getIN (a := 53) (n := 853) (k0 := 5) (pc' := 48) dX4_keepPoint_45 rfl rfl (Nat.le_of_ble_eq_true rfl) rfl mw_202 rfl ?_
  refine e_iload_n (pc' := 49) (i := 2) rfl rfl dX4_keepPoint_48 rfl ?_
  refine e_imul (pc' := 50) dX4_keepPoint_49 rfl ?_
  refine e_aload_n (pc' := 51) (i := 0) rfl rfl dX4_keepPoint_50 rfl ?_
  refine e_getR (a := 46) (b := 53) (k0 := 6) (pc' := 54) dX4_keepPoint_51 rfl rfl (Nat.le_of_ble_eq_true rfl) rfl mw_245 rfl ?_
  refine e_getIN (a := 53) (n := 850) (k0 := 2) (pc' := 57) dX4_keepPoint_54 rfl rfl (Nat.le_of_ble_eq_true rfl) rfl mw_196 rfl ?_
  refine e_iload_n (pc' := 58) (i := 1) rfl rfl dX4_keepPoint_57 rfl ?_
  refine e_imul (pc' := 59) dX4_keepPoint_58 rfl ?_
  refine e_iadd (pc' := 60) dX4_keepPoint_59 rfl ?_
  refine e_lt h (fun v3 h => ?_)
  refine e_istore (pc' := 62) (i := 5) (lc' := [some (.ref 46), some (.int a0), some (.int a1), some (.int v1), some (.int v2), some (.int v3), none, none, none]) dX4_keepPoint_60 rfl (Nat.le_of_ble_eq_true rfl) rfl rfl ?_
  refine e_aload_n (pc' := 63) (i := 0) rfl rfl dX4_keepPoint_62 rfl ?_
  refine e_getR (a := 46) (b := 53) (k0 := 6) (pc' := 66) dX4_keepPoint_63 rfl rfl (Nat.le_of_ble_eq_true rfl) rfl mw_245 rfl ?_
  refine e_getIN (a := 53) (n := 854) (k0 := 6) (pc' := 69) dX4_keepPoint_66 rfl rfl (Nat.le_of_ble_eq_true rfl) rfl mw_204 rfl ?_
  refine e_iload_n (pc' := 70) (i := 2) rfl rfl dX4_keepPoint_69 rfl ?_
  refine e_imul (pc' := 71) dX4_keepPoint_70 rfl ?_
  refine e_lt h (fun v4 h => ?_)
  refine e_istore (pc' := 73) (i := 6) (lc' := [some (.ref 46), some (.int a0), some (.int a1), some (.int v1), some (.int v2), some (.int v3), some (.int v4), none, none]) dX4_keepPoint_71 rfl (Nat.le_of_ble_eq_true rfl) rfl rfl ?_
  refine e_iload_n (pc' := 74) (i := 3) rfl rfl dX4_keepPoint_73 rfl ?_
  refine e_iload (pc' := 76) (i := 4) rfl dX4_keepPoint_74 rfl ?_
  obtain ⟨v6, hF5, h⟩ := g_bd_e h
  refine e_callSN_i (pc' := 79) dX4_keepPoint_76 rfl mw_527 ms_X6_commonDivisor rfl (Nat.le_of_ble_eq_true rfl) (Nat.le_of_ble_eq_true rfl) (c_X6_commonDivisor _ _ hF5) rfl ?_
  refine e_iload (pc' := 81) (i := 5) rfl dX4_keepPoint_79 rfl ?_
  refine e_iload (pc' := 83) (i := 6) rfl dX4_keepPoint_81 rfl ?_
  obtain ⟨v8, hF7, h⟩ := g_bd_e h
  refine e_callSN_i (pc' := 86) dX4_keepPoint_83 rfl mw_527 ms_X6_commonDivisor rfl (Nat.le_of_ble_eq_true rfl) (Nat.le_of_ble_eq_true rfl) (c_X6_commonDivisor _ _ hF7) rfl ?_
  obtain ⟨v10, hF9, h⟩ := g_bd_e h
  refine e_callSN_i (pc' := 89) dX4_keepPoint_86 rfl mw_527 ms_X6_commonDivisor rfl (Nat.le_of_ble_eq_true rfl) (Nat.le_of_ble_eq_true rfl) (c_X6_commonDivisor _ _ hF9) rfl ?_
  refine e_istore (pc' := 91) (i := 7) (lc' := [some (.ref 46), some (.int a0), some (.int a1), some (.int v1), some (.int v2), some (.int v3), some (.int v4), some (.int v10), none]) dX4_keepPoint_89 rfl (Nat.le_of_ble_eq_true rfl) rfl rfl ?_
  refine e_iload (pc' := 93) (i := 6) rfl dX4_keepPoint_91 rfl ?_
  refine e_if_le (tgt := 101) (pc' := 96) dX4_keepPoint_93 (by decide) rfl h (fun h => ?_) (fun h => ?_)
  · obtain ⟨rfl, rfl, rfl⟩ := g_re3 h
    exact e_vret dX4_keepPoint_101
  · refine e_iload (pc' := 98) (i := 7) rfl dX4_keepPoint_96 rfl ?_
    refine e_if_gt (tgt := 102) (pc' := 101) dX4_keepPoint_98 (by decide) rfl h (fun h => ?_) (fun h => ?_)
    · refine e_iload_n (pc' := 103) (i := 3) rfl rfl dX4_keepPoint_102 rfl ?_
      refine e_iload (pc' := 105) (i := 7) rfl dX4_keepPoint_103 rfl ?_
      obtain ⟨hz11, h⟩ := g_dv_e h
      refine e_idiv (pc' := 106) hz11 dX4_keepPoint_105 rfl ?_
      refine e_istore_n (pc' := 107) (i := 3) (lc' := [some (.ref 46), some (.int a0), some (.int a1), some (.int (v1 / v10)), some (.int v2), some (.int v3), some (.int v4), some (.int v10), none]) rfl dX4_keepPoint_106 rfl (Nat.le_of_ble_eq_true rfl) rfl rfl ?_
      refine e_iload (pc' := 109) (i := 4) rfl dX4_keepPoint_107 rfl ?_
      refine e_iload (pc' := 111) (i := 7) rfl dX4_keepPoint_109 rfl ?_
      obtain ⟨hz12, h⟩ := g_dv_e h
      refine e_idiv (pc' := 112) hz12 dX4_keepPoint_111 rfl ?_
      refine e_istore (pc' := 114) (i := 4) (lc' := [some (.ref 46), some (.int a0), some (.int a1), some (.int (v1 / v10)), some (.int (v2 / v10)), some (.int v3), some (.int v4), some (.int v10), none]) dX4_keepPoint_112 rfl (Nat.le_of_ble_eq_true rfl) rfl rfl ?_
      refine e_iload (pc' := 116) (i := 5) rfl dX4_keepPoint_114 rfl ?_
      refine e_iload (pc' := 118) (i := 7) rfl dX4_keepPoint_116 rfl ?_
      obtain ⟨hz13, h⟩ := g_dv_e h
      refine e_idiv (pc' := 119) hz13 dX4_keepPoint_118 rfl ?_
      refine e_istore (pc' := 121) (i := 5) (lc' := [some (.ref 46), some (.int a0), some (.int a1), some (.int (v1 / v10)), some (.int (v2 / v10)), some (.int (v3 / v10)), some (.int v4), some (.int v10), none]) dX4_keepPoint_119 rfl (Nat.le_of_ble_eq_true rfl) rfl rfl ?_
      refine e_iload (pc' := 123) (i := 6) rfl dX4_keepPoint_121 rfl ?_
      refine e_iload (pc' := 125) (i := 7) rfl dX4_keepPoint_123 rfl ?_
      obtain ⟨hz14, h⟩ := g_dv_e h
      refine e_idiv (pc' := 126) hz14 dX4_keepPoint_125 rfl ?_
      refine e_istore (pc' := 128) (i := 6) (lc' := [some (.ref 46), some (.int a0), some (.int a1), some (.int (v1 / v10)), some (.int (v2 / v10)), some (.int (v3 / v10)), some (.int (v4 / v10)), some (.int v10), none]) dX4_keepPoint_126 rfl (Nat.le_of_ble_eq_true rfl) rfl rfl ?_
      refine e_aload_n (pc' := 129) (i := 0) rfl rfl dX4_keepPoint_128 rfl ?_
      refine e_iload_n (pc' := 130) (i := 3) rfl rfl dX4_keepPoint_129 rfl ?_
      refine e_iload (pc' := 132) (i := 4) rfl dX4_keepPoint_130 rfl ?_
      refine e_iload (pc' := 134) (i := 5) rfl dX4_keepPoint_132 rfl ?_
      refine e_iload (pc' := 136) (i := 6) rfl dX4_keepPoint_134 rfl ?_
      obtain ⟨v16, hF15, h⟩ := g_bd_e h
      refine e_callV_i (pc' := 139) dX4_keepPoint_136 rfl mw_533 mv_X4_placeOf rfl (Nat.le_of_ble_eq_true rfl) (Nat.le_of_ble_eq_true rfl) rfl (Nat.le_of_ble_eq_true rfl) rfl (c_X4_placeOf_46 _ _ _ _ hF15) rfl ?_
      refine e_istore (pc' := 141) (i := 8) (lc' := [some (.ref 46), some (.int a0), some (.int a1), some (.int (v1 / v10)), some (.int (v2 / v10)), some (.int (v3 / v10)), some (.int (v4 / v10)), some (.int v10), some (.int v16)]) dX4_keepPoint_139 rfl (Nat.le_of_ble_eq_true rfl) rfl rfl ?_
      refine e_iload (pc' := 143) (i := 8) rfl dX4_keepPoint_141 rfl ?_
      refine e_aload_n (pc' := 144) (i := 0) rfl rfl dX4_keepPoint_143 rfl ?_
      refine e_getI (a := 46) (n := 743) (k0 := 7) (pc' := 147) dX4_keepPoint_144 rfl rfl (Nat.le_of_ble_eq_true rfl) rfl mw_246 rfl ?_
      refine e_icmp_ge (tgt := 166) (pc' := 150) dX4_keepPoint_147 (by decide) rfl h (fun h => ?_) (fun h => ?_)
      · exact e_weak (lc' := [some (.ref 46), none, none, some (.int (v1 / v10)), some (.int (v2 / v10)), some (.int (v3 / v10)), some (.int (v4 / v10)), none, some (.int v16)]) (gle_s (gle_n (gle_n (gle_s (gle_s (gle_s (gle_s (gle_n (gle_s gle_0))))))))) (w_X4_keepPoint_46_p166  _ _ _ _ _ _ _ _ _ h)
      · refine e_aload_n (pc' := 151) (i := 0) rfl rfl dX4_keepPoint_150 rfl ?_
        refine e_iload (pc' := 153) (i := 8) rfl dX4_keepPoint_151 rfl ?_
        refine e_iload_n (pc' := 154) (i := 3) rfl rfl dX4_keepPoint_153 rfl ?_
        refine e_iload (pc' := 156) (i := 4) rfl dX4_keepPoint_154 rfl ?_
        refine e_iload (pc' := 158) (i := 5) rfl dX4_keepPoint_156 rfl ?_
        refine e_iload (pc' := 160) (i := 6) rfl dX4_keepPoint_158 rfl ?_
        obtain ⟨v18, hF17, h⟩ := g_bd_e h
        refine e_callV_i (pc' := 163) dX4_keepPoint_160 rfl mw_537 mv_X4_order rfl (Nat.le_of_ble_eq_true rfl) (Nat.le_of_ble_eq_true rfl) rfl (Nat.le_of_ble_eq_true rfl) rfl (c_X4_order_46 _ _ _ _ _ hF17) rfl ?_
        refine e_if_eq (tgt := 179) (pc' := 166) dX4_keepPoint_163 (by decide) rfl h (fun h => ?_) (fun h => ?_)
        · obtain ⟨rfl, rfl, rfl⟩ := g_re3 h
          exact e_vret dX4_keepPoint_179
        · exact e_weak (lc' := [some (.ref 46), none, none, some (.int (v1 / v10)), some (.int (v2 / v10)), some (.int (v3 / v10)), some (.int (v4 / v10)), none, some (.int v16)]) (gle_s (gle_n (gle_n (gle_s (gle_s (gle_s (gle_s (gle_n (gle_s gle_0))))))))) (w_X4_keepPoint_46_p166  _ _ _ _ _ _ _ _ _ h)
    · obtain ⟨rfl, rfl, rfl⟩ := g_re3 h
      exact e_vret dX4_keepPoint_101
set_option maxHeartbeats 4000000 in
set_option maxRecDepth 100000 in
theorem w_X4_cut_46_1_p20  (k7 : Int32 → Int32 → (Nat → Int32) → (Nat → Nat → Int32) → (Nat → Int64) → Option gS) (hk7 : ∀ (x2 : Int32) (x3 : Int32) (I : Nat → Int32) (A : Nat → Nat → Int32) (L : Nat → Int64) (t : gS), k7 x2 x3 I A L = some t → Ev RX4 cX4_cut 5 none 3 7 [some (.ref 46), some (.ref 1), some (.int x2), some (.int x3), none] [] I A L (none, t)) : ∀ (n : Nat) (x2 : Int32) (x3 : Int32) (x4 : Int32) (I : Nat → Int32) (A : Nat → Nat → Int32) (L : Nat → Int64) (t : gS), f_X4_cut_p20 46 1 k7 n x2 x3 x4 I A L = some t → Ev RX4 cX4_cut 5 none 3 20 [some (.ref 46), some (.ref 1), some (.int x2), some (.int x3), some (.int x4)] [] I A L (none, t) := by
  intro n
  induction n with
  | zero =>
    intro x2 x3 x4 I A L t h
    cases h
  | succ n ih =>
    intro x2 x3 x4 I A L t h
    rw [f_X4_cut_p20] at h
    refine e_iload (pc' := 22) (i := 4) rfl dX4_cut_20 rfl ?_
    refine e_aload_n (pc' := 23) (i := 1) rfl rfl dX4_cut_22 rfl ?_
    refine e_getIN (a := 1) (n := 20) (k0 := 4) (pc' := 26) dX4_cut_23 rfl rfl (Nat.le_of_ble_eq_true rfl) rfl mw_143 rfl ?_
    refine e_icmp_ge (tgt := 108) (pc' := 29) dX4_cut_26 (by decide) rfl h (fun h => ?_) (fun h => ?_)
    · refine e_iinc (pc' := 111) (v := (x3 + 1)) (lc' := [some (.ref 46), some (.ref 1), some (.int x2), some (.int (x3 + 1)), some (.int x4)]) dX4_cut_108 rfl rfl rfl (Nat.le_of_ble_eq_true rfl) rfl rfl ?_
      refine e_goto (tgt := 7) dX4_cut_111 (by decide) ?_
      exact e_weak (lc' := [some (.ref 46), some (.ref 1), some (.int x2), some (.int (x3 + 1)), none]) (gle_s (gle_s (gle_s (gle_s (gle_n gle_0))))) (hk7 _ _ _ _ _ _ h)
    · refine e_iload_n (pc' := 30) (i := 3) rfl rfl dX4_cut_29 rfl ?_
      refine e_iload_n (pc' := 31) (i := 2) rfl rfl dX4_cut_30 rfl ?_
      refine e_icmp_eq (tgt := 102) (pc' := 34) dX4_cut_31 (by decide) rfl h (fun h => ?_) (fun h => ?_)
      · refine e_iinc (pc' := 105) (v := (x4 + 1)) (lc' := [some (.ref 46), some (.ref 1), some (.int x2), some (.int x3), some (.int (x4 + 1))]) dX4_cut_102 rfl rfl rfl (Nat.le_of_ble_eq_true rfl) rfl rfl ?_
        refine e_goto (tgt := 20) dX4_cut_105 (by decide) ?_
        exact e_weak (lc' := [some (.ref 46), some (.ref 1), some (.int x2), some (.int x3), some (.int (x4 + 1))]) (gle_s (gle_s (gle_s (gle_s (gle_s gle_0))))) (ih _ _ _ _ _ _ _ h)
      · refine e_iload (pc' := 36) (i := 4) rfl dX4_cut_34 rfl ?_
        refine e_iload_n (pc' := 37) (i := 2) rfl rfl dX4_cut_36 rfl ?_
        refine e_icmp_eq (tgt := 102) (pc' := 40) dX4_cut_37 (by decide) rfl h (fun h => ?_) (fun h => ?_)
        · refine e_iinc (pc' := 105) (v := (x4 + 1)) (lc' := [some (.ref 46), some (.ref 1), some (.int x2), some (.int x3), some (.int (x4 + 1))]) dX4_cut_102 rfl rfl rfl (Nat.le_of_ble_eq_true rfl) rfl rfl ?_
          refine e_goto (tgt := 20) dX4_cut_105 (by decide) ?_
          exact e_weak (lc' := [some (.ref 46), some (.ref 1), some (.int x2), some (.int x3), some (.int (x4 + 1))]) (gle_s (gle_s (gle_s (gle_s (gle_s gle_0))))) (ih _ _ _ _ _ _ _ h)
        · refine e_aload_n (pc' := 41) (i := 0) rfl rfl dX4_cut_40 rfl ?_
          refine e_getR (a := 46) (b := 53) (k0 := 6) (pc' := 44) dX4_cut_41 rfl rfl (Nat.le_of_ble_eq_true rfl) rfl mw_245 rfl ?_
          refine e_aload_n (pc' := 45) (i := 1) rfl rfl dX4_cut_44 rfl ?_
          refine e_iload_n (pc' := 46) (i := 3) rfl rfl dX4_cut_45 rfl ?_
          refine e_iload (pc' := 48) (i := 4) rfl dX4_cut_46 rfl ?_
          obtain ⟨v5, I2, A3, L4, hF1, h⟩ := g_b2_e h
          refine e_callVN_i (pc' := 51) dX4_cut_48 rfl mw_511 mv_X1_lay rfl (Nat.le_of_ble_eq_true rfl) (Nat.le_of_ble_eq_true rfl) rfl (Nat.le_of_ble_eq_true rfl) rfl (c_X1_lay_53_1 _ _ hF1) rfl ?_
          refine e_if_eq (tgt := 102) (pc' := 54) dX4_cut_51 (by decide) rfl h (fun h => ?_) (fun h => ?_)
          · refine e_iinc (pc' := 105) (v := (x4 + 1)) (lc' := [some (.ref 46), some (.ref 1), some (.int x2), some (.int x3), some (.int (x4 + 1))]) dX4_cut_102 rfl rfl rfl (Nat.le_of_ble_eq_true rfl) rfl rfl ?_
            refine e_goto (tgt := 20) dX4_cut_105 (by decide) ?_
            exact e_weak (lc' := [some (.ref 46), some (.ref 1), some (.int x2), some (.int x3), some (.int (x4 + 1))]) (gle_s (gle_s (gle_s (gle_s (gle_s gle_0))))) (ih _ _ _ _ _ _ _ h)
          · refine e_aload_n (pc' := 55) (i := 0) rfl rfl dX4_cut_54 rfl ?_
            refine e_getR (a := 46) (b := 53) (k0 := 6) (pc' := 58) dX4_cut_55 rfl rfl (Nat.le_of_ble_eq_true rfl) rfl mw_245 rfl ?_
            refine e_aload_n (pc' := 59) (i := 1) rfl rfl dX4_cut_58 rfl ?_
            refine e_iload_n (pc' := 60) (i := 2) rfl rfl dX4_cut_59 rfl ?_
            obtain ⟨v10, I7, A8, L9, hF6, h⟩ := g_b2_e h
            refine e_callVN_i (pc' := 63) dX4_cut_60 rfl mw_515 mv_X1_isLeftBy rfl (Nat.le_of_ble_eq_true rfl) (Nat.le_of_ble_eq_true rfl) rfl (Nat.le_of_ble_eq_true rfl) rfl (c_X1_isLeftBy_53_1 _ hF6) rfl ?_
            refine e_if_eq (tgt := 102) (pc' := 66) dX4_cut_63 (by decide) rfl h (fun h => ?_) (fun h => ?_)
            · refine e_iinc (pc' := 105) (v := (x4 + 1)) (lc' := [some (.ref 46), some (.ref 1), some (.int x2), some (.int x3), some (.int (x4 + 1))]) dX4_cut_102 rfl rfl rfl (Nat.le_of_ble_eq_true rfl) rfl rfl ?_
              refine e_goto (tgt := 20) dX4_cut_105 (by decide) ?_
              exact e_weak (lc' := [some (.ref 46), some (.ref 1), some (.int x2), some (.int x3), some (.int (x4 + 1))]) (gle_s (gle_s (gle_s (gle_s (gle_s gle_0))))) (ih _ _ _ _ _ _ _ h)
            · refine e_aload_n (pc' := 67) (i := 0) rfl rfl dX4_cut_66 rfl ?_
              refine e_aload_n (pc' := 68) (i := 0) rfl rfl dX4_cut_67 rfl ?_
              refine e_getR (a := 46) (b := 53) (k0 := 6) (pc' := 71) dX4_cut_68 rfl rfl (Nat.le_of_ble_eq_true rfl) rfl mw_245 rfl ?_
              refine e_getIN (a := 53) (n := 855) (k0 := 7) (pc' := 74) dX4_cut_71 rfl rfl (Nat.le_of_ble_eq_true rfl) rfl mw_205 rfl ?_
              refine e_aload_n (pc' := 75) (i := 0) rfl rfl dX4_cut_74 rfl ?_
              refine e_getR (a := 46) (b := 53) (k0 := 6) (pc' := 78) dX4_cut_75 rfl rfl (Nat.le_of_ble_eq_true rfl) rfl mw_245 rfl ?_
              refine e_getIN (a := 53) (n := 856) (k0 := 8) (pc' := 81) dX4_cut_78 rfl rfl (Nat.le_of_ble_eq_true rfl) rfl mw_207 rfl ?_
              obtain ⟨I12, A13, L14, hF11, h⟩ := g_b1_e h
              refine e_callV_v (pc' := 84) dX4_cut_81 rfl mw_523 mv_X4_keepPoint rfl (Nat.le_of_ble_eq_true rfl) (Nat.le_of_ble_eq_true rfl) rfl (Nat.le_of_ble_eq_true rfl) rfl (c_X4_keepPoint_46 _ _ hF11) rfl ?_
              refine e_aload_n (pc' := 85) (i := 0) rfl rfl dX4_cut_84 rfl ?_
              refine e_aload_n (pc' := 86) (i := 0) rfl rfl dX4_cut_85 rfl ?_
              refine e_getR (a := 46) (b := 53) (k0 := 6) (pc' := 89) dX4_cut_86 rfl rfl (Nat.le_of_ble_eq_true rfl) rfl mw_245 rfl ?_
              refine e_getIN (a := 53) (n := 857) (k0 := 9) (pc' := 92) dX4_cut_89 rfl rfl (Nat.le_of_ble_eq_true rfl) rfl mw_209 rfl ?_
              refine e_aload_n (pc' := 93) (i := 0) rfl rfl dX4_cut_92 rfl ?_
              refine e_getR (a := 46) (b := 53) (k0 := 6) (pc' := 96) dX4_cut_93 rfl rfl (Nat.le_of_ble_eq_true rfl) rfl mw_245 rfl ?_
              refine e_getIN (a := 53) (n := 858) (k0 := 10) (pc' := 99) dX4_cut_96 rfl rfl (Nat.le_of_ble_eq_true rfl) rfl mw_211 rfl ?_
              obtain ⟨I16, A17, L18, hF15, h⟩ := g_b1_e h
              refine e_callV_v (pc' := 102) dX4_cut_99 rfl mw_523 mv_X4_keepPoint rfl (Nat.le_of_ble_eq_true rfl) (Nat.le_of_ble_eq_true rfl) rfl (Nat.le_of_ble_eq_true rfl) rfl (c_X4_keepPoint_46 _ _ hF15) rfl ?_
              refine e_iinc (pc' := 105) (v := (x4 + 1)) (lc' := [some (.ref 46), some (.ref 1), some (.int x2), some (.int x3), some (.int (x4 + 1))]) dX4_cut_102 rfl rfl rfl (Nat.le_of_ble_eq_true rfl) rfl rfl ?_
              refine e_goto (tgt := 20) dX4_cut_105 (by decide) ?_
              exact e_weak (lc' := [some (.ref 46), some (.ref 1), some (.int x2), some (.int x3), some (.int (x4 + 1))]) (gle_s (gle_s (gle_s (gle_s (gle_s gle_0))))) (ih _ _ _ _ _ _ _ h)
set_option maxHeartbeats 4000000 in
set_option maxRecDepth 100000 in
theorem w_X4_cut_46_1_p7  : ∀ (n : Nat) (x2 : Int32) (x3 : Int32) (I : Nat → Int32) (A : Nat → Nat → Int32) (L : Nat → Int64) (t : gS), f_X4_cut_p7 46 1 n x2 x3 I A L = some t → Ev RX4 cX4_cut 5 none 3 7 [some (.ref 46), some (.ref 1), some (.int x2), some (.int x3), none] [] I A L (none, t) := by
  intro n
  induction n with
  | zero =>
    intro x2 x3 I A L t h
    cases h
  | succ n ih =>
    intro x2 x3 I A L t h
    rw [f_X4_cut_p7] at h
    refine e_iload_n (pc' := 8) (i := 3) rfl rfl dX4_cut_7 rfl ?_
    refine e_aload_n (pc' := 9) (i := 1) rfl rfl dX4_cut_8 rfl ?_
    refine e_getIN (a := 1) (n := 20) (k0 := 4) (pc' := 12) dX4_cut_9 rfl rfl (Nat.le_of_ble_eq_true rfl) rfl mw_143 rfl ?_
    refine e_icmp_ge (tgt := 114) (pc' := 15) dX4_cut_12 (by decide) rfl h (fun h => ?_) (fun h => ?_)
    · obtain rfl := g_re1 h
      exact e_vret dX4_cut_114
    · refine e_iload_n (pc' := 16) (i := 3) rfl rfl dX4_cut_15 rfl ?_
      refine e_iconst (v := 1) (pc' := 17) (by decide) dX4_cut_16 rfl ?_
      refine e_iadd (pc' := 18) dX4_cut_17 rfl ?_
      refine e_istore (pc' := 20) (i := 4) (lc' := [some (.ref 46), some (.ref 1), some (.int x2), some (.int x3), some (.int (x3 + 1))]) dX4_cut_18 rfl (Nat.le_of_ble_eq_true rfl) rfl rfl ?_
      exact e_weak (lc' := [some (.ref 46), some (.ref 1), some (.int x2), some (.int x3), some (.int (x3 + 1))]) (gle_s (gle_s (gle_s (gle_s (gle_s gle_0))))) (w_X4_cut_46_1_p20 _ ih _ _ _ _ _ _ _ _ h)
set_option maxHeartbeats 4000000 in
set_option maxRecDepth 100000 in
theorem c_X4_cut_46_1 (a0 : Int32) {I : Nat → Int32} {A : Nat → Nat → Int32} {L : Nat → Int64} {I' : Nat → Int32} {A' : Nat → Nat → Int32} {L' : Nat → Int64} (h : f_X4_cut 46 1 a0 I A L = some (I', A', L')) : GM yX4_cut cX4_cut 5 none 3 [.ref 46, .ref 1, .int a0] I A L (none, (I', A', L')) := by
  refine gm_of (n := 2) (lc := [some (.ref 46), some (.ref 1), some (.int a0), none, none]) (by decide +kernel) rfl (fun _ => Nat.le_of_ble_eq_true rfl) ?_
  change Ev RX4 cX4_cut 5 none 3 0 [some (.ref 46), some (.ref 1), some (.int a0), none, none] [] I A L _
  unfold f_X4_cut at h
  refine e_aload_n (pc' := 1) (i := 0) rfl rfl dX4_cut_0 rfl ?_
  refine e_iconst (v := 0) (pc' := 2) (by decide) dX4_cut_1 rfl ?_
  refine e_putI (a := 46) (n := 743) (k0 := 7) (pc' := 5) dX4_cut_2 rfl rfl (Nat.le_of_ble_eq_true rfl) rfl mw_246 rfl rfl g_pI rfl rfl ?_
  refine e_ltI h (fun I1 h => ?_)
  refine e_iconst (v := 0) (pc' := 6) (by decide) dX4_cut_5 rfl ?_
  refine e_istore_n (pc' := 7) (i := 3) (lc' := [some (.ref 46), some (.ref 1), some (.int a0), some (.int 0), none]) rfl dX4_cut_6 rfl (Nat.le_of_ble_eq_true rfl) rfl rfl ?_
  exact e_weak (lc' := [some (.ref 46), some (.ref 1), some (.int a0), some (.int 0), none]) (gle_s (gle_s (gle_s (gle_s (gle_n gle_0))))) (w_X4_cut_46_1_p7  _ _ _ _ _ _ _ h)
set_option maxHeartbeats 4000000 in
set_option maxRecDepth 100000 in
theorem c_X6_cornersWithout_38 (a0 : Int32) {I : Nat → Int32} {A : Nat → Nat → Int32} {L : Nat → Int64} {t : Int32} {I' : Nat → Int32} {A' : Nat → Nat → Int32} {L' : Nat → Int64} (h : f_X6_cornersWithout 38 a0 I A L = some (t, I', A', L')) : GM yX6_cornersWithout cX6_cornersWithout 3 (some .int) 4 [.ref 0, .int a0, .ref 38] I A L (some (.int t), (I', A', L')) := by
  refine gm_of (n := 0) (lc := [some (.ref 0), some (.int a0), some (.ref 38)]) (by decide +kernel) rfl (fun _ => Nat.le_of_ble_eq_true rfl) ?_
  change Ev RX6 cX6_cornersWithout 3 (some .int) 4 0 [some (.ref 0), some (.int a0), some (.ref 38)] [] I A L _
  unfold f_X6_cornersWithout at h
  refine e_aload_n (pc' := 1) (i := 2) rfl rfl dX6_cornersWithout_0 rfl ?_
  refine e_iload_n (pc' := 2) (i := 1) rfl rfl dX6_cornersWithout_1 rfl ?_
  obtain ⟨v2, hF1, h⟩ := g_bd_e h
  refine e_callVN_i (pc' := 5) dX6_cornersWithout_2 rfl mw_576 mv_X4_isShown rfl (Nat.le_of_ble_eq_true rfl) (Nat.le_of_ble_eq_true rfl) rfl (Nat.le_of_ble_eq_true rfl) rfl (c_X4_isShown_38 _ hF1) rfl ?_
  refine e_if_ne (tgt := 13) (pc' := 8) dX6_cornersWithout_5 (by decide) rfl h (fun h => ?_) (fun h => ?_)
  · refine e_aload_n (pc' := 14) (i := 0) rfl rfl dX6_cornersWithout_13 rfl ?_
    refine e_getR (a := 0) (b := 46) (k0 := 4) (pc' := 17) dX6_cornersWithout_14 rfl rfl (Nat.le_of_ble_eq_true rfl) rfl mw_339 rfl ?_
    refine e_aload_n (pc' := 18) (i := 0) rfl rfl dX6_cornersWithout_17 rfl ?_
    refine e_getR (a := 0) (b := 1) (k0 := 0) (pc' := 21) dX6_cornersWithout_18 rfl rfl (Nat.le_of_ble_eq_true rfl) rfl mw_335 rfl ?_
    refine e_iload_n (pc' := 22) (i := 1) rfl rfl dX6_cornersWithout_21 rfl ?_
    obtain ⟨I4, A5, L6, hF3, h⟩ := g_b1_e h
    refine e_callVN_v (pc' := 25) dX6_cornersWithout_22 rfl mw_507 mv_X4_cut rfl (Nat.le_of_ble_eq_true rfl) (Nat.le_of_ble_eq_true rfl) rfl (Nat.le_of_ble_eq_true rfl) rfl (c_X4_cut_46_1 _ hF3) rfl ?_
    refine e_aload_n (pc' := 26) (i := 0) rfl rfl dX6_cornersWithout_25 rfl ?_
    refine e_getR (a := 0) (b := 46) (k0 := 4) (pc' := 29) dX6_cornersWithout_26 rfl rfl (Nat.le_of_ble_eq_true rfl) rfl mw_339 rfl ?_
    refine e_getIN (a := 46) (n := 743) (k0 := 7) (pc' := 32) dX6_cornersWithout_29 rfl rfl (Nat.le_of_ble_eq_true rfl) rfl mw_247 rfl ?_
    obtain ⟨rfl, rfl, rfl, rfl⟩ := g_re4 h
    exact e_iret dX6_cornersWithout_32
  · refine e_aload_n (pc' := 9) (i := 2) rfl rfl dX6_cornersWithout_8 rfl ?_
    refine e_getIN (a := 38) (n := 615) (k0 := 7) (pc' := 12) dX6_cornersWithout_9 rfl rfl (Nat.le_of_ble_eq_true rfl) rfl mw_247 rfl ?_
    obtain ⟨rfl, rfl, rfl, rfl⟩ := g_re4 h
    exact e_iret dX6_cornersWithout_12
set_option maxHeartbeats 4000000 in
set_option maxRecDepth 100000 in
theorem w_X6_findSpare_p18  : ∀ (n : Nat) (x2 : Int32) (I : Nat → Int32) (A : Nat → Nat → Int32) (L : Nat → Int64) (t : gS), f_X6_findSpare_p18 n x2 I A L = some t → Ev RX6 cX6_findSpare 4 none 5 18 [some (.ref 0), some (.ref 38), some (.int x2), none] [] I A L (none, t) := by
  intro n
  induction n with
  | zero =>
    intro x2 I A L t h
    cases h
  | succ n ih =>
    intro x2 I A L t h
    rw [f_X6_findSpare_p18] at h
    refine e_iload_n (pc' := 19) (i := 2) rfl rfl dX6_findSpare_18 rfl ?_
    refine e_aload_n (pc' := 20) (i := 0) rfl rfl dX6_findSpare_19 rfl ?_
    refine e_getR (a := 0) (b := 1) (k0 := 0) (pc' := 23) dX6_findSpare_20 rfl rfl (Nat.le_of_ble_eq_true rfl) rfl mw_335 rfl ?_
    refine e_getIN (a := 1) (n := 20) (k0 := 4) (pc' := 26) dX6_findSpare_23 rfl rfl (Nat.le_of_ble_eq_true rfl) rfl mw_144 rfl ?_
    refine e_icmp_ge (tgt := 60) (pc' := 29) dX6_findSpare_26 (by decide) rfl h (fun h => ?_) (fun h => ?_)
    · refine e_aload_n (pc' := 61) (i := 0) rfl rfl dX6_findSpare_60 rfl ?_
      refine e_iconst (v := 1) (pc' := 62) (by decide) dX6_findSpare_61 rfl ?_
      refine e_putI (a := 0) (n := 8) (k0 := 8) (pc' := 65) dX6_findSpare_62 rfl rfl (Nat.le_of_ble_eq_true rfl) rfl mw_343 rfl rfl g_pZ rfl rfl ?_
      refine e_ltI h (fun I1 h => ?_)
      obtain rfl := g_re1 h
      exact e_vret dX6_findSpare_65
    · refine e_aload_n (pc' := 30) (i := 0) rfl rfl dX6_findSpare_29 rfl ?_
      refine e_iload_n (pc' := 31) (i := 2) rfl rfl dX6_findSpare_30 rfl ?_
      refine e_aload_n (pc' := 32) (i := 1) rfl rfl dX6_findSpare_31 rfl ?_
      obtain ⟨v6, I3, A4, L5, hF2, h⟩ := g_b2_e h
      refine e_callV_i (pc' := 35) dX6_findSpare_32 rfl mw_704 mv_X6_cornersWithout rfl (Nat.le_of_ble_eq_true rfl) (Nat.le_of_ble_eq_true rfl) rfl (Nat.le_of_ble_eq_true rfl) rfl (c_X6_cornersWithout_38 _ hF2) rfl ?_
      refine e_istore_n (pc' := 36) (i := 3) (lc' := [some (.ref 0), some (.ref 38), some (.int x2), some (.int v6)]) rfl dX6_findSpare_35 rfl (Nat.le_of_ble_eq_true rfl) rfl rfl ?_
      refine e_iload_n (pc' := 37) (i := 3) rfl rfl dX6_findSpare_36 rfl ?_
      refine e_aload_n (pc' := 38) (i := 0) rfl rfl dX6_findSpare_37 rfl ?_
      refine e_getI (a := 0) (n := 10) (k0 := 10) (pc' := 41) dX6_findSpare_38 rfl rfl (Nat.le_of_ble_eq_true rfl) rfl mw_345 rfl ?_
      refine e_icmp_le (tgt := 54) (pc' := 44) dX6_findSpare_41 (by decide) rfl h (fun h => ?_) (fun h => ?_)
      · refine e_iinc (pc' := 57) (v := (x2 + 1)) (lc' := [some (.ref 0), some (.ref 38), some (.int (x2 + 1)), some (.int v6)]) dX6_findSpare_54 rfl rfl rfl (Nat.le_of_ble_eq_true rfl) rfl rfl ?_
        refine e_goto (tgt := 18) dX6_findSpare_57 (by decide) ?_
        exact e_weak (lc' := [some (.ref 0), some (.ref 38), some (.int (x2 + 1)), none]) (gle_s (gle_s (gle_s (gle_n gle_0)))) (ih _ _ _ _ _ h)
      · refine e_aload_n (pc' := 45) (i := 0) rfl rfl dX6_findSpare_44 rfl ?_
        refine e_iload_n (pc' := 46) (i := 3) rfl rfl dX6_findSpare_45 rfl ?_
        refine e_putI (a := 0) (n := 10) (k0 := 10) (pc' := 49) dX6_findSpare_46 rfl rfl (Nat.le_of_ble_eq_true rfl) rfl mw_345 rfl rfl g_pI rfl rfl ?_
        refine e_ltI h (fun I7 h => ?_)
        refine e_aload_n (pc' := 50) (i := 0) rfl rfl dX6_findSpare_49 rfl ?_
        refine e_iload_n (pc' := 51) (i := 2) rfl rfl dX6_findSpare_50 rfl ?_
        refine e_putI (a := 0) (n := 9) (k0 := 9) (pc' := 54) dX6_findSpare_51 rfl rfl (Nat.le_of_ble_eq_true rfl) rfl mw_344 rfl rfl g_pI rfl rfl ?_
        refine e_ltI h (fun I8 h => ?_)
        refine e_iinc (pc' := 57) (v := (x2 + 1)) (lc' := [some (.ref 0), some (.ref 38), some (.int (x2 + 1)), some (.int v6)]) dX6_findSpare_54 rfl rfl rfl (Nat.le_of_ble_eq_true rfl) rfl rfl ?_
        refine e_goto (tgt := 18) dX6_findSpare_57 (by decide) ?_
        exact e_weak (lc' := [some (.ref 0), some (.ref 38), some (.int (x2 + 1)), none]) (gle_s (gle_s (gle_s (gle_n gle_0)))) (ih _ _ _ _ _ h)
set_option maxHeartbeats 4000000 in
set_option maxRecDepth 100000 in
theorem c_X6_findSpare  {I : Nat → Int32} {A : Nat → Nat → Int32} {L : Nat → Int64} {I' : Nat → Int32} {A' : Nat → Nat → Int32} {L' : Nat → Int64} (h : f_X6_findSpare   I A L = some (I', A', L')) : GM yX6_findSpare cX6_findSpare 4 none 5 [.ref 0] I A L (none, (I', A', L')) := by
  refine gm_of (n := 3) (lc := [some (.ref 0), none, none, none]) (by decide +kernel) rfl (fun _ => Nat.le_of_ble_eq_true rfl) ?_
  change Ev RX6 cX6_findSpare 4 none 5 0 [some (.ref 0), none, none, none] [] I A L _
  unfold f_X6_findSpare at h
  refine e_aload_n (pc' := 1) (i := 0) rfl rfl dX6_findSpare_0 rfl ?_
  obtain ⟨I2, A3, L4, hF1, h⟩ := g_b1_e h
  refine e_callV_a (pc' := 4) dX6_findSpare_1 rfl mw_503 mv_X6_crystal rfl (Nat.le_of_ble_eq_true rfl) (Nat.le_of_ble_eq_true rfl) rfl (Nat.le_of_ble_eq_true rfl) rfl (c_X6_crystal hF1) rfl ?_
  refine e_astore_n (pc' := 5) (i := 1) (lc' := [some (.ref 0), some (.ref 38), none, none]) rfl dX6_findSpare_4 rfl (Nat.le_of_ble_eq_true rfl) rfl rfl ?_
  refine e_aload_n (pc' := 6) (i := 0) rfl rfl dX6_findSpare_5 rfl ?_
  refine e_iconst (v := (-1)) (pc' := 7) (by decide) dX6_findSpare_6 rfl ?_
  refine e_putI (a := 0) (n := 9) (k0 := 9) (pc' := 10) dX6_findSpare_7 rfl rfl (Nat.le_of_ble_eq_true rfl) rfl mw_344 rfl rfl g_pI rfl rfl ?_
  refine e_ltI h (fun I5 h => ?_)
  refine e_aload_n (pc' := 11) (i := 0) rfl rfl dX6_findSpare_10 rfl ?_
  refine e_iconst (v := (-1)) (pc' := 12) (by decide) dX6_findSpare_11 rfl ?_
  refine e_putI (a := 0) (n := 10) (k0 := 10) (pc' := 15) dX6_findSpare_12 rfl rfl (Nat.le_of_ble_eq_true rfl) rfl mw_345 rfl rfl g_pI rfl rfl ?_
  refine e_ltI h (fun I6 h => ?_)
  refine e_bipush (v := 6) (pc' := 17) (by decide) dX6_findSpare_15 rfl ?_
  refine e_istore_n (pc' := 18) (i := 2) (lc' := [some (.ref 0), some (.ref 38), some (.int 6), none]) rfl dX6_findSpare_17 rfl (Nat.le_of_ble_eq_true rfl) rfl rfl ?_
  exact e_weak (lc' := [some (.ref 0), some (.ref 38), some (.int 6), none]) (gle_s (gle_s (gle_s (gle_n gle_0)))) (w_X6_findSpare_p18  _ _ _ _ _ _ h)
set_option maxHeartbeats 4000000 in
set_option maxRecDepth 100000 in
theorem w_X6_spare_p44  : ∀ (x1 : Int32) (I : Nat → Int32) (A : Nat → Nat → Int32) (L : Nat → Int64) (t : (Int32 × gS)), f_X6_spare_p44 x1 I A L = some t → Ev RX6 cX6_spare 2 (some .int) 6 44 [some (.ref 0), some (.int x1)] [] I A L (some (.int t.1), t.2) := by
  intro x1 I A L t h
  unfold f_X6_spare_p44 at h
  refine e_iload_n (pc' := 45) (i := 1) rfl rfl dX6_spare_44 rfl ?_
  refine e_if_ne (tgt := 55) (pc' := 48) dX6_spare_45 (by decide) rfl h (fun h => ?_) (fun h => ?_)
  · refine e_aload_n (pc' := 56) (i := 0) rfl rfl dX6_spare_55 rfl ?_
    refine e_getI (a := 0) (n := 10) (k0 := 10) (pc' := 59) dX6_spare_56 rfl rfl (Nat.le_of_ble_eq_true rfl) rfl mw_345 rfl ?_
    obtain rfl := g_re1 h
    exact e_iret dX6_spare_59
  · refine e_aload_n (pc' := 49) (i := 0) rfl rfl dX6_spare_48 rfl ?_
    refine e_getI (a := 0) (n := 9) (k0 := 9) (pc' := 52) dX6_spare_49 rfl rfl (Nat.le_of_ble_eq_true rfl) rfl mw_344 rfl ?_
    refine e_goto (tgt := 59) dX6_spare_52 (by decide) ?_
    obtain rfl := g_re1 h
    exact e_iret dX6_spare_59
set_option maxHeartbeats 4000000 in
set_option maxRecDepth 100000 in
theorem w_X6_spare_p9  : ∀ (I : Nat → Int32) (A : Nat → Nat → Int32) (L : Nat → Int64) (t : (Int32 × gS)), f_X6_spare_p9 I A L = some t → Ev RX6 cX6_spare 2 (some .int) 6 9 [some (.ref 0), none] [] I A L (some (.int t.1), t.2) := by
  intro  I A L t h
  unfold f_X6_spare_p9 at h
  refine e_aload_n (pc' := 10) (i := 0) rfl rfl dX6_spare_9 rfl ?_
  refine e_bipush (v := (-2)) (pc' := 12) (by decide) dX6_spare_10 rfl ?_
  obtain ⟨v5, I2, A3, L4, hF1, h⟩ := g_b2_e h
  refine e_callV_i (pc' := 15) dX6_spare_12 rfl mw_397 mv_X6_refuseBad rfl (Nat.le_of_ble_eq_true rfl) (Nat.le_of_ble_eq_true rfl) rfl (Nat.le_of_ble_eq_true rfl) rfl (c_X6_refuseBad _ hF1) rfl ?_
  obtain rfl := g_re1 h
  exact e_iret dX6_spare_15
set_option maxHeartbeats 4000000 in
set_option maxRecDepth 100000 in
theorem c_X6_spare (a0 : Int32) {I : Nat → Int32} {A : Nat → Nat → Int32} {L : Nat → Int64} {t : Int32} {I' : Nat → Int32} {A' : Nat → Nat → Int32} {L' : Nat → Int64} (h : f_X6_spare  a0 I A L = some (t, I', A', L')) : GM yX6_spare cX6_spare 2 (some .int) 6 [.ref 0, .int a0] I A L (some (.int t), (I', A', L')) := by
  refine gm_of (n := 0) (lc := [some (.ref 0), some (.int a0)]) (by decide +kernel) rfl (fun _ => Nat.le_of_ble_eq_true rfl) ?_
  change Ev RX6 cX6_spare 2 (some .int) 6 0 [some (.ref 0), some (.int a0)] [] I A L _
  unfold f_X6_spare at h
  refine e_iload_n (pc' := 1) (i := 1) rfl rfl dX6_spare_0 rfl ?_
  refine e_if_lt (tgt := 9) (pc' := 4) dX6_spare_1 (by decide) rfl h (fun h => ?_) (fun h => ?_)
  · exact e_weak (lc' := [some (.ref 0), none]) (gle_s (gle_n gle_0)) (w_X6_spare_p9  _ _ _ _ h)
  · refine e_iload_n (pc' := 5) (i := 1) rfl rfl dX6_spare_4 rfl ?_
    refine e_iconst (v := 1) (pc' := 6) (by decide) dX6_spare_5 rfl ?_
    refine e_icmp_le (tgt := 16) (pc' := 9) dX6_spare_6 (by decide) rfl h (fun h => ?_) (fun h => ?_)
    · refine e_aload_n (pc' := 17) (i := 0) rfl rfl dX6_spare_16 rfl ?_
      refine e_getR (a := 0) (b := 1) (k0 := 0) (pc' := 20) dX6_spare_17 rfl rfl (Nat.le_of_ble_eq_true rfl) rfl mw_335 rfl ?_
      refine e_getIN (a := 1) (n := 20) (k0 := 4) (pc' := 23) dX6_spare_20 rfl rfl (Nat.le_of_ble_eq_true rfl) rfl mw_144 rfl ?_
      refine e_bipush (v := 6) (pc' := 25) (by decide) dX6_spare_23 rfl ?_
      refine e_icmp_gt (tgt := 33) (pc' := 28) dX6_spare_25 (by decide) rfl h (fun h => ?_) (fun h => ?_)
      · refine e_aload_n (pc' := 34) (i := 0) rfl rfl dX6_spare_33 rfl ?_
        refine e_getI (a := 0) (n := 8) (k0 := 8) (pc' := 37) dX6_spare_34 rfl rfl (Nat.le_of_ble_eq_true rfl) rfl mw_343 rfl ?_
        refine e_if_ne (tgt := 44) (pc' := 40) dX6_spare_37 (by decide) rfl h (fun h => ?_) (fun h => ?_)
        · exact e_weak (lc' := [some (.ref 0), some (.int a0)]) (gle_s (gle_s gle_0)) (w_X6_spare_p44  _ _ _ _ _ h)
        · refine e_aload_n (pc' := 41) (i := 0) rfl rfl dX6_spare_40 rfl ?_
          obtain ⟨I2, A3, L4, hF1, h⟩ := g_b1_e h
          refine e_callV_v (pc' := 44) dX6_spare_41 rfl mw_700 mv_X6_findSpare rfl (Nat.le_of_ble_eq_true rfl) (Nat.le_of_ble_eq_true rfl) rfl (Nat.le_of_ble_eq_true rfl) rfl (c_X6_findSpare hF1) rfl ?_
          exact e_weak (lc' := [some (.ref 0), some (.int a0)]) (gle_s (gle_s gle_0)) (w_X6_spare_p44  _ _ _ _ _ h)
      · refine e_aload_n (pc' := 29) (i := 0) rfl rfl dX6_spare_28 rfl ?_
        obtain ⟨v9, I6, A7, L8, hF5, h⟩ := g_b2_e h
        refine e_callV_i (pc' := 32) dX6_spare_29 rfl mw_623 mv_X6_refuseNo rfl (Nat.le_of_ble_eq_true rfl) (Nat.le_of_ble_eq_true rfl) rfl (Nat.le_of_ble_eq_true rfl) rfl (c_X6_refuseNo hF5) rfl ?_
        obtain ⟨rfl, rfl, rfl, rfl⟩ := g_re4 h
        exact e_iret dX6_spare_32
    · exact e_weak (lc' := [some (.ref 0), none]) (gle_s (gle_n gle_0)) (w_X6_spare_p9  _ _ _ _ h)
set_option maxHeartbeats 4000000 in
set_option maxRecDepth 100000 in
theorem w_X6_type_p10  : ∀ (I : Nat → Int32) (A : Nat → Nat → Int32) (L : Nat → Int64) (t : (Int32 × gS)), f_X6_type_p10 I A L = some t → Ev RX6 cX6_type 2 (some .int) 1 10 [some (.ref 0), none] [] I A L (some (.int t.1), t.2) := by
  intro  I A L t h
  unfold f_X6_type_p10 at h
  refine e_aload_n (pc' := 11) (i := 0) rfl rfl dX6_type_10 rfl ?_
  refine e_bipush (v := (-2)) (pc' := 13) (by decide) dX6_type_11 rfl ?_
  obtain ⟨v5, I2, A3, L4, hF1, h⟩ := g_b2_e h
  refine e_callV_i (pc' := 16) dX6_type_13 rfl mw_397 mv_X6_refuseBad rfl (Nat.le_of_ble_eq_true rfl) (Nat.le_of_ble_eq_true rfl) rfl (Nat.le_of_ble_eq_true rfl) rfl (c_X6_refuseBad _ hF1) rfl ?_
  obtain rfl := g_re1 h
  exact e_iret dX6_type_16
set_option maxHeartbeats 4000000 in
set_option maxRecDepth 100000 in
theorem c_X6_type (a0 : Int32) {I : Nat → Int32} {A : Nat → Nat → Int32} {L : Nat → Int64} {t : Int32} {I' : Nat → Int32} {A' : Nat → Nat → Int32} {L' : Nat → Int64} (h : f_X6_type  a0 I A L = some (t, I', A', L')) : GM yX6_type cX6_type 2 (some .int) 1 [.ref 0, .int a0] I A L (some (.int t), (I', A', L')) := by
  refine gm_of (n := 0) (lc := [some (.ref 0), some (.int a0)]) (by decide +kernel) rfl (fun _ => Nat.le_of_ble_eq_true rfl) ?_
  change Ev RX6 cX6_type 2 (some .int) 1 0 [some (.ref 0), some (.int a0)] [] I A L _
  unfold f_X6_type at h
  refine e_iload_n (pc' := 1) (i := 1) rfl rfl dX6_type_0 rfl ?_
  refine e_if_lt (tgt := 10) (pc' := 4) dX6_type_1 (by decide) rfl h (fun h => ?_) (fun h => ?_)
  · exact e_weak (lc' := [some (.ref 0), none]) (gle_s (gle_n gle_0)) (w_X6_type_p10  _ _ _ _ h)
  · refine e_iload_n (pc' := 5) (i := 1) rfl rfl dX6_type_4 rfl ?_
    refine e_bipush (v := 127) (pc' := 7) (by decide) dX6_type_5 rfl ?_
    refine e_icmp_le (tgt := 17) (pc' := 10) dX6_type_7 (by decide) rfl h (fun h => ?_) (fun h => ?_)
    · refine e_aload_n (pc' := 18) (i := 0) rfl rfl dX6_type_17 rfl ?_
      refine e_getR (a := 0) (b := 57) (k0 := 6) (pc' := 21) dX6_type_18 rfl rfl (Nat.le_of_ble_eq_true rfl) rfl mw_341 rfl ?_
      refine e_getIN (a := 57) (n := 913) (k0 := 1) (pc' := 24) dX6_type_21 rfl rfl (Nat.le_of_ble_eq_true rfl) rfl mw_299 rfl ?_
      refine e_bipush (v := 120) (pc' := 26) (by decide) dX6_type_24 rfl ?_
      refine e_icmp_lt (tgt := 34) (pc' := 29) dX6_type_26 (by decide) rfl h (fun h => ?_) (fun h => ?_)
      · refine e_aload_n (pc' := 35) (i := 0) rfl rfl dX6_type_34 rfl ?_
        refine e_getR (a := 0) (b := 57) (k0 := 6) (pc' := 38) dX6_type_35 rfl rfl (Nat.le_of_ble_eq_true rfl) rfl mw_341 rfl ?_
        refine e_getRN (a := 57) (b := 58) (k0 := 0) (pc' := 41) dX6_type_38 rfl rfl (Nat.le_of_ble_eq_true rfl) rfl mw_297 rfl ?_
        refine e_aload_n (pc' := 42) (i := 0) rfl rfl dX6_type_41 rfl ?_
        refine e_getR (a := 0) (b := 57) (k0 := 6) (pc' := 45) dX6_type_42 rfl rfl (Nat.le_of_ble_eq_true rfl) rfl mw_341 rfl ?_
        refine e_getIN (a := 57) (n := 913) (k0 := 1) (pc' := 48) dX6_type_45 rfl rfl (Nat.le_of_ble_eq_true rfl) rfl mw_299 rfl ?_
        refine e_iload_n (pc' := 49) (i := 1) rfl rfl dX6_type_48 rfl ?_
        refine e_i2b (pc' := 50) dX6_type_49 rfl ?_
        refine e_bast (n := 120) (pc' := 51) dX6_type_50 rfl rfl h (fun h => ?_)
        refine e_ltA h (fun A1 h => ?_)
        refine e_aload_n (pc' := 52) (i := 0) rfl rfl dX6_type_51 rfl ?_
        refine e_getR (a := 0) (b := 57) (k0 := 6) (pc' := 55) dX6_type_52 rfl rfl (Nat.le_of_ble_eq_true rfl) rfl mw_341 rfl ?_
        refine e_dup (pc' := 56) rfl dX6_type_55 rfl ?_
        refine e_getIN (a := 57) (n := 913) (k0 := 1) (pc' := 59) dX6_type_56 rfl rfl (Nat.le_of_ble_eq_true rfl) rfl mw_299 rfl ?_
        refine e_iconst (v := 1) (pc' := 60) (by decide) dX6_type_59 rfl ?_
        refine e_iadd (pc' := 61) dX6_type_60 rfl ?_
        refine e_putIN (a := 57) (n := 913) (k0 := 1) (pc' := 64) dX6_type_61 rfl rfl (Nat.le_of_ble_eq_true rfl) rfl mw_299 rfl rfl g_pI rfl rfl ?_
        refine e_ltI h (fun I2 h => ?_)
        refine e_aload_n (pc' := 65) (i := 0) rfl rfl dX6_type_64 rfl ?_
        refine e_getR (a := 0) (b := 57) (k0 := 6) (pc' := 68) dX6_type_65 rfl rfl (Nat.le_of_ble_eq_true rfl) rfl mw_341 rfl ?_
        refine e_getIN (a := 57) (n := 913) (k0 := 1) (pc' := 71) dX6_type_68 rfl rfl (Nat.le_of_ble_eq_true rfl) rfl mw_299 rfl ?_
        obtain ⟨rfl, rfl, rfl, rfl⟩ := g_re4 h
        exact e_iret dX6_type_71
      · refine e_aload_n (pc' := 30) (i := 0) rfl rfl dX6_type_29 rfl ?_
        obtain ⟨v7, I4, A5, L6, hF3, h⟩ := g_b2_e h
        refine e_callV_i (pc' := 33) dX6_type_30 rfl mw_401 mv_X6_refuseFull rfl (Nat.le_of_ble_eq_true rfl) (Nat.le_of_ble_eq_true rfl) rfl (Nat.le_of_ble_eq_true rfl) rfl (c_X6_refuseFull hF3) rfl ?_
        obtain ⟨rfl, rfl, rfl, rfl⟩ := g_re4 h
        exact e_iret dX6_type_33
    · exact e_weak (lc' := [some (.ref 0), none]) (gle_s (gle_n gle_0)) (w_X6_type_p10  _ _ _ _ h)
set_option maxHeartbeats 4000000 in
set_option maxRecDepth 100000 in
theorem c_X6_clear  {I : Nat → Int32} {A : Nat → Nat → Int32} {L : Nat → Int64} {t : Int32} {I' : Nat → Int32} {A' : Nat → Nat → Int32} {L' : Nat → Int64} (h : f_X6_clear   I A L = some (t, I', A', L')) : GM yX6_clear cX6_clear 2 (some .int) 0 [.ref 0] I A L (some (.int t), (I', A', L')) := by
  refine gm_of (n := 1) (lc := [some (.ref 0), none]) (by decide +kernel) rfl (fun _ => Nat.le_of_ble_eq_true rfl) ?_
  change Ev RX6 cX6_clear 2 (some .int) 0 0 [some (.ref 0), none] [] I A L _
  unfold f_X6_clear at h
  refine e_aload_n (pc' := 1) (i := 0) rfl rfl dX6_clear_0 rfl ?_
  refine e_getR (a := 0) (b := 57) (k0 := 6) (pc' := 4) dX6_clear_1 rfl rfl (Nat.le_of_ble_eq_true rfl) rfl mw_341 rfl ?_
  refine e_getIN (a := 57) (n := 913) (k0 := 1) (pc' := 7) dX6_clear_4 rfl rfl (Nat.le_of_ble_eq_true rfl) rfl mw_299 rfl ?_
  refine e_istore_n (pc' := 8) (i := 1) (lc' := [some (.ref 0), some (.int (I 913))]) rfl dX6_clear_7 rfl (Nat.le_of_ble_eq_true rfl) rfl rfl ?_
  refine e_aload_n (pc' := 9) (i := 0) rfl rfl dX6_clear_8 rfl ?_
  refine e_getR (a := 0) (b := 57) (k0 := 6) (pc' := 12) dX6_clear_9 rfl rfl (Nat.le_of_ble_eq_true rfl) rfl mw_341 rfl ?_
  refine e_iconst (v := 0) (pc' := 13) (by decide) dX6_clear_12 rfl ?_
  refine e_putIN (a := 57) (n := 913) (k0 := 1) (pc' := 16) dX6_clear_13 rfl rfl (Nat.le_of_ble_eq_true rfl) rfl mw_299 rfl rfl g_pI rfl rfl ?_
  refine e_ltI h (fun I1 h => ?_)
  refine e_iload_n (pc' := 17) (i := 1) rfl rfl dX6_clear_16 rfl ?_
  obtain ⟨rfl, rfl, rfl, rfl⟩ := g_re4 h
  exact e_iret dX6_clear_17
set_option maxHeartbeats 4000000 in
set_option maxRecDepth 100000 in
theorem c_X2_copyFrom_6_1  {I : Nat → Int32} {A : Nat → Nat → Int32} {L : Nat → Int64} {I' : Nat → Int32} {A' : Nat → Nat → Int32} {L' : Nat → Int64} (h : f_X2_copyFrom 6 1  I A L = some (I', A', L')) : GM yX2_copyFrom cX2_copyFrom 2 none 1 [.ref 6, .ref 1] I A L (none, (I', A', L')) := by
  refine gm_of (n := 0) (lc := [some (.ref 6), some (.ref 1)]) (by decide +kernel) rfl (fun _ => Nat.le_of_ble_eq_true rfl) ?_
  change Ev RX2 cX2_copyFrom 2 none 1 0 [some (.ref 6), some (.ref 1)] [] I A L _
  unfold f_X2_copyFrom at h
  refine e_aload_n (pc' := 1) (i := 1) rfl rfl dX2_copyFrom_0 rfl ?_
  refine e_ifnonnull (tgt := 5) dX2_copyFrom_1 (by decide) ?_
  refine e_aload_n (pc' := 6) (i := 0) rfl rfl dX2_copyFrom_5 rfl ?_
  refine e_aload_n (pc' := 7) (i := 1) rfl rfl dX2_copyFrom_6 rfl ?_
  refine e_getI (a := 1) (n := 20) (k0 := 4) (pc' := 10) dX2_copyFrom_7 rfl rfl (Nat.le_of_ble_eq_true rfl) rfl mw_142 rfl ?_
  refine e_putI (a := 6) (n := 100) (k0 := 4) (pc' := 13) dX2_copyFrom_10 rfl rfl (Nat.le_of_ble_eq_true rfl) rfl mw_142 rfl rfl g_pI rfl rfl ?_
  refine e_ltI h (fun I1 h => ?_)
  refine e_aload_n (pc' := 14) (i := 1) rfl rfl dX2_copyFrom_13 rfl ?_
  refine e_getR (a := 1) (b := 2) (k0 := 0) (pc' := 17) dX2_copyFrom_14 rfl rfl (Nat.le_of_ble_eq_true rfl) rfl mw_126 rfl ?_
  refine e_iconst (v := 0) (pc' := 18) (by decide) dX2_copyFrom_17 rfl ?_
  refine e_aload_n (pc' := 19) (i := 0) rfl rfl dX2_copyFrom_18 rfl ?_
  refine e_getR (a := 6) (b := 7) (k0 := 0) (pc' := 22) dX2_copyFrom_19 rfl rfl (Nat.le_of_ble_eq_true rfl) rfl mw_126 rfl ?_
  refine e_iconst (v := 0) (pc' := 23) (by decide) dX2_copyFrom_22 rfl ?_
  refine e_aload_n (pc' := 24) (i := 0) rfl rfl dX2_copyFrom_23 rfl ?_
  refine e_getI (a := 6) (n := 100) (k0 := 4) (pc' := 27) dX2_copyFrom_24 rfl rfl (Nat.le_of_ble_eq_true rfl) rfl mw_142 rfl ?_
  refine e_copy (pc' := 30) (n0 := 32) (n1 := 32) dX2_copyFrom_27 rfl mw_417 mw_419 mw_418 mw_108 (Nat.le_of_ble_eq_true rfl) (Nat.le_of_ble_eq_true rfl) rfl rfl h (fun h => ?_)
  refine e_ltA h (fun A2 h => ?_)
  refine e_aload_n (pc' := 31) (i := 1) rfl rfl dX2_copyFrom_30 rfl ?_
  refine e_getR (a := 1) (b := 3) (k0 := 1) (pc' := 34) dX2_copyFrom_31 rfl rfl (Nat.le_of_ble_eq_true rfl) rfl mw_130 rfl ?_
  refine e_iconst (v := 0) (pc' := 35) (by decide) dX2_copyFrom_34 rfl ?_
  refine e_aload_n (pc' := 36) (i := 0) rfl rfl dX2_copyFrom_35 rfl ?_
  refine e_getR (a := 6) (b := 8) (k0 := 1) (pc' := 39) dX2_copyFrom_36 rfl rfl (Nat.le_of_ble_eq_true rfl) rfl mw_130 rfl ?_
  refine e_iconst (v := 0) (pc' := 40) (by decide) dX2_copyFrom_39 rfl ?_
  refine e_aload_n (pc' := 41) (i := 0) rfl rfl dX2_copyFrom_40 rfl ?_
  refine e_getI (a := 6) (n := 100) (k0 := 4) (pc' := 44) dX2_copyFrom_41 rfl rfl (Nat.le_of_ble_eq_true rfl) rfl mw_142 rfl ?_
  refine e_copy (pc' := 47) (n0 := 32) (n1 := 32) dX2_copyFrom_44 rfl mw_417 mw_419 mw_418 mw_108 (Nat.le_of_ble_eq_true rfl) (Nat.le_of_ble_eq_true rfl) rfl rfl h (fun h => ?_)
  refine e_ltA h (fun A3 h => ?_)
  refine e_aload_n (pc' := 48) (i := 1) rfl rfl dX2_copyFrom_47 rfl ?_
  refine e_getR (a := 1) (b := 4) (k0 := 2) (pc' := 51) dX2_copyFrom_48 rfl rfl (Nat.le_of_ble_eq_true rfl) rfl mw_134 rfl ?_
  refine e_iconst (v := 0) (pc' := 52) (by decide) dX2_copyFrom_51 rfl ?_
  refine e_aload_n (pc' := 53) (i := 0) rfl rfl dX2_copyFrom_52 rfl ?_
  refine e_getR (a := 6) (b := 9) (k0 := 2) (pc' := 56) dX2_copyFrom_53 rfl rfl (Nat.le_of_ble_eq_true rfl) rfl mw_134 rfl ?_
  refine e_iconst (v := 0) (pc' := 57) (by decide) dX2_copyFrom_56 rfl ?_
  refine e_aload_n (pc' := 58) (i := 0) rfl rfl dX2_copyFrom_57 rfl ?_
  refine e_getI (a := 6) (n := 100) (k0 := 4) (pc' := 61) dX2_copyFrom_58 rfl rfl (Nat.le_of_ble_eq_true rfl) rfl mw_142 rfl ?_
  refine e_copy (pc' := 64) (n0 := 32) (n1 := 32) dX2_copyFrom_61 rfl mw_417 mw_419 mw_418 mw_108 (Nat.le_of_ble_eq_true rfl) (Nat.le_of_ble_eq_true rfl) rfl rfl h (fun h => ?_)
  refine e_ltA h (fun A4 h => ?_)
  refine e_aload_n (pc' := 65) (i := 1) rfl rfl dX2_copyFrom_64 rfl ?_
  refine e_getR (a := 1) (b := 5) (k0 := 3) (pc' := 68) dX2_copyFrom_65 rfl rfl (Nat.le_of_ble_eq_true rfl) rfl mw_138 rfl ?_
  refine e_iconst (v := 0) (pc' := 69) (by decide) dX2_copyFrom_68 rfl ?_
  refine e_aload_n (pc' := 70) (i := 0) rfl rfl dX2_copyFrom_69 rfl ?_
  refine e_getR (a := 6) (b := 10) (k0 := 3) (pc' := 73) dX2_copyFrom_70 rfl rfl (Nat.le_of_ble_eq_true rfl) rfl mw_138 rfl ?_
  refine e_iconst (v := 0) (pc' := 74) (by decide) dX2_copyFrom_73 rfl ?_
  refine e_aload_n (pc' := 75) (i := 0) rfl rfl dX2_copyFrom_74 rfl ?_
  refine e_getI (a := 6) (n := 100) (k0 := 4) (pc' := 78) dX2_copyFrom_75 rfl rfl (Nat.le_of_ble_eq_true rfl) rfl mw_142 rfl ?_
  refine e_copy (pc' := 81) (n0 := 32) (n1 := 32) dX2_copyFrom_78 rfl mw_417 mw_419 mw_418 mw_108 (Nat.le_of_ble_eq_true rfl) (Nat.le_of_ble_eq_true rfl) rfl rfl h (fun h => ?_)
  refine e_ltA h (fun A5 h => ?_)
  obtain ⟨rfl, rfl, rfl⟩ := g_re3 h
  exact e_vret dX2_copyFrom_81
set_option maxHeartbeats 4000000 in
set_option maxRecDepth 100000 in
theorem w_X3_look_p38  : ∀ (I : Nat → Int32) (A : Nat → Nat → Int32) (L : Nat → Int64) (t : (Int32 × gS)), f_X3_look_p38 I A L = some t → Ev RX3 cX3_look 1 (some .int) 0 38 [some (.ref 57)] [] I A L (some (.int t.1), t.2) := by
  intro  I A L t h
  unfold f_X3_look_p38 at h
  refine e_aload_n (pc' := 39) (i := 0) rfl rfl dX3_look_38 rfl ?_
  refine e_getI (a := 57) (n := 914) (k0 := 2) (pc' := 42) dX3_look_39 rfl rfl (Nat.le_of_ble_eq_true rfl) rfl mw_300 rfl ?_
  refine e_aload_n (pc' := 43) (i := 0) rfl rfl dX3_look_42 rfl ?_
  refine e_getI (a := 57) (n := 913) (k0 := 1) (pc' := 46) dX3_look_43 rfl rfl (Nat.le_of_ble_eq_true rfl) rfl mw_298 rfl ?_
  refine e_icmp_ge (tgt := 61) (pc' := 49) dX3_look_46 (by decide) rfl h (fun h => ?_) (fun h => ?_)
  · refine e_iconst (v := (-1)) (pc' := 62) (by decide) dX3_look_61 rfl ?_
    obtain rfl := g_re1 h
    exact e_iret dX3_look_62
  · refine e_aload_n (pc' := 50) (i := 0) rfl rfl dX3_look_49 rfl ?_
    refine e_getR (a := 57) (b := 58) (k0 := 0) (pc' := 53) dX3_look_50 rfl rfl (Nat.le_of_ble_eq_true rfl) rfl mw_296 rfl ?_
    refine e_aload_n (pc' := 54) (i := 0) rfl rfl dX3_look_53 rfl ?_
    refine e_getI (a := 57) (n := 914) (k0 := 2) (pc' := 57) dX3_look_54 rfl rfl (Nat.le_of_ble_eq_true rfl) rfl mw_300 rfl ?_
    refine e_bald (n := 120) (pc' := 58) dX3_look_57 rfl rfl h (fun h => ?_)
    refine e_goto (tgt := 62) dX3_look_58 (by decide) ?_
    obtain rfl := g_re1 h
    exact e_iret dX3_look_62
set_option maxHeartbeats 4000000 in
set_option maxRecDepth 100000 in
theorem w_X3_look_p0  : ∀ (n : Nat) (I : Nat → Int32) (A : Nat → Nat → Int32) (L : Nat → Int64) (t : (Int32 × gS)), f_X3_look_p0 n I A L = some t → Ev RX3 cX3_look 1 (some .int) 0 0 [some (.ref 57)] [] I A L (some (.int t.1), t.2) := by
  intro n
  induction n with
  | zero =>
    intro  I A L t h
    cases h
  | succ n ih =>
    intro  I A L t h
    rw [f_X3_look_p0] at h
    refine e_aload_n (pc' := 1) (i := 0) rfl rfl dX3_look_0 rfl ?_
    refine e_getI (a := 57) (n := 914) (k0 := 2) (pc' := 4) dX3_look_1 rfl rfl (Nat.le_of_ble_eq_true rfl) rfl mw_300 rfl ?_
    refine e_aload_n (pc' := 5) (i := 0) rfl rfl dX3_look_4 rfl ?_
    refine e_getI (a := 57) (n := 913) (k0 := 1) (pc' := 8) dX3_look_5 rfl rfl (Nat.le_of_ble_eq_true rfl) rfl mw_298 rfl ?_
    refine e_icmp_ge (tgt := 38) (pc' := 11) dX3_look_8 (by decide) rfl h (fun h => ?_) (fun h => ?_)
    · exact e_weak (lc' := [some (.ref 57)]) (gle_s gle_0) (w_X3_look_p38  _ _ _ _ h)
    · refine e_aload_n (pc' := 12) (i := 0) rfl rfl dX3_look_11 rfl ?_
      refine e_getR (a := 57) (b := 58) (k0 := 0) (pc' := 15) dX3_look_12 rfl rfl (Nat.le_of_ble_eq_true rfl) rfl mw_296 rfl ?_
      refine e_aload_n (pc' := 16) (i := 0) rfl rfl dX3_look_15 rfl ?_
      refine e_getI (a := 57) (n := 914) (k0 := 2) (pc' := 19) dX3_look_16 rfl rfl (Nat.le_of_ble_eq_true rfl) rfl mw_300 rfl ?_
      refine e_bald (n := 120) (pc' := 20) dX3_look_19 rfl rfl h (fun h => ?_)
      refine e_bipush (v := 32) (pc' := 22) (by decide) dX3_look_20 rfl ?_
      refine e_icmp_ne (tgt := 38) (pc' := 25) dX3_look_22 (by decide) rfl h (fun h => ?_) (fun h => ?_)
      · exact e_weak (lc' := [some (.ref 57)]) (gle_s gle_0) (w_X3_look_p38  _ _ _ _ h)
      · refine e_aload_n (pc' := 26) (i := 0) rfl rfl dX3_look_25 rfl ?_
        refine e_dup (pc' := 27) rfl dX3_look_26 rfl ?_
        refine e_getI (a := 57) (n := 914) (k0 := 2) (pc' := 30) dX3_look_27 rfl rfl (Nat.le_of_ble_eq_true rfl) rfl mw_300 rfl ?_
        refine e_iconst (v := 1) (pc' := 31) (by decide) dX3_look_30 rfl ?_
        refine e_iadd (pc' := 32) dX3_look_31 rfl ?_
        refine e_putI (a := 57) (n := 914) (k0 := 2) (pc' := 35) dX3_look_32 rfl rfl (Nat.le_of_ble_eq_true rfl) rfl mw_300 rfl rfl g_pI rfl rfl ?_
        refine e_ltI h (fun I1 h => ?_)
        refine e_goto (tgt := 0) dX3_look_35 (by decide) ?_
        exact e_weak (lc' := [some (.ref 57)]) (gle_s gle_0) (ih _ _ _ _ h)
set_option maxHeartbeats 4000000 in
set_option maxRecDepth 100000 in
theorem c_X3_look  {I : Nat → Int32} {A : Nat → Nat → Int32} {L : Nat → Int64} {t : Int32} {I' : Nat → Int32} {A' : Nat → Nat → Int32} {L' : Nat → Int64} (h : f_X3_look   I A L = some (t, I', A', L')) : GM yX3_look cX3_look 1 (some .int) 0 [.ref 57] I A L (some (.int t), (I', A', L')) := by
  refine gm_of (n := 0) (lc := [some (.ref 57)]) (by decide +kernel) rfl (fun _ => Nat.le_of_ble_eq_true rfl) ?_
  change Ev RX3 cX3_look 1 (some .int) 0 0 [some (.ref 57)] [] I A L _
  unfold f_X3_look at h
  exact e_weak (lc' := [some (.ref 57)]) (gle_s gle_0) (w_X3_look_p0  _ _ _ _ _ h)
set_option maxHeartbeats 4000000 in
set_option maxRecDepth 100000 in
theorem w_X3_readFigure_p36  : ∀ (x1 : Int32) (x2 : Int32) (I : Nat → Int32) (A : Nat → Nat → Int32) (L : Nat → Int64) (t : (Int32 × gS)), f_X3_readFigure_p36 x1 x2 I A L = some t → Ev RX3 cX3_readFigure 3 (some .boolean) 1 36 [some (.ref 57), some (.int x1), some (.int x2)] [] I A L (some (.int t.1), t.2) := by
  intro x1 x2 I A L t h
  unfold f_X3_readFigure_p36 at h
  refine e_iload_n (pc' := 37) (i := 1) rfl rfl dX3_readFigure_36 rfl ?_
  refine e_bipush (v := 48) (pc' := 39) (by decide) dX3_readFigure_37 rfl ?_
  refine e_icmp_lt (tgt := 48) (pc' := 42) dX3_readFigure_39 (by decide) rfl h (fun h => ?_) (fun h => ?_)
  · refine e_iconst (v := 0) (pc' := 49) (by decide) dX3_readFigure_48 rfl ?_
    obtain rfl := g_re1 h
    exact e_zret dX3_readFigure_49 (by decide)
  · refine e_iload_n (pc' := 43) (i := 1) rfl rfl dX3_readFigure_42 rfl ?_
    refine e_bipush (v := 51) (pc' := 45) (by decide) dX3_readFigure_43 rfl ?_
    refine e_icmp_le (tgt := 50) (pc' := 48) dX3_readFigure_45 (by decide) rfl h (fun h => ?_) (fun h => ?_)
    · refine e_aload_n (pc' := 51) (i := 0) rfl rfl dX3_readFigure_50 rfl ?_
      refine e_iload_n (pc' := 52) (i := 2) rfl rfl dX3_readFigure_51 rfl ?_
      refine e_if_eq (tgt := 62) (pc' := 55) dX3_readFigure_52 (by decide) rfl h (fun h => ?_) (fun h => ?_)
      · refine e_iload_n (pc' := 63) (i := 1) rfl rfl dX3_readFigure_62 rfl ?_
        refine e_bipush (v := 48) (pc' := 65) (by decide) dX3_readFigure_63 rfl ?_
        refine e_isub (pc' := 66) dX3_readFigure_65 rfl ?_
        refine e_putI (a := 57) (n := 920) (k0 := 8) (pc' := 69) dX3_readFigure_66 rfl rfl (Nat.le_of_ble_eq_true rfl) rfl mw_307 rfl rfl g_pI rfl rfl ?_
        refine e_ltI h (fun I1 h => ?_)
        refine e_aload_n (pc' := 70) (i := 0) rfl rfl dX3_readFigure_69 rfl ?_
        refine e_dup (pc' := 71) rfl dX3_readFigure_70 rfl ?_
        refine e_getI (a := 57) (n := 914) (k0 := 2) (pc' := 74) dX3_readFigure_71 rfl rfl (Nat.le_of_ble_eq_true rfl) rfl mw_300 rfl ?_
        refine e_iconst (v := 1) (pc' := 75) (by decide) dX3_readFigure_74 rfl ?_
        refine e_iadd (pc' := 76) dX3_readFigure_75 rfl ?_
        refine e_putI (a := 57) (n := 914) (k0 := 2) (pc' := 79) dX3_readFigure_76 rfl rfl (Nat.le_of_ble_eq_true rfl) rfl mw_300 rfl rfl g_pI rfl rfl ?_
        refine e_ltI h (fun I2 h => ?_)
        refine e_iconst (v := 1) (pc' := 80) (by decide) dX3_readFigure_79 rfl ?_
        obtain rfl := g_re1 h
        exact e_zret dX3_readFigure_80 (by decide)
      · refine e_bipush (v := 48) (pc' := 57) (by decide) dX3_readFigure_55 rfl ?_
        refine e_iload_n (pc' := 58) (i := 1) rfl rfl dX3_readFigure_57 rfl ?_
        refine e_isub (pc' := 59) dX3_readFigure_58 rfl ?_
        refine e_goto (tgt := 66) dX3_readFigure_59 (by decide) ?_
        refine e_putI (a := 57) (n := 920) (k0 := 8) (pc' := 69) dX3_readFigure_66 rfl rfl (Nat.le_of_ble_eq_true rfl) rfl mw_307 rfl rfl g_pI rfl rfl ?_
        refine e_ltI h (fun I3 h => ?_)
        refine e_aload_n (pc' := 70) (i := 0) rfl rfl dX3_readFigure_69 rfl ?_
        refine e_dup (pc' := 71) rfl dX3_readFigure_70 rfl ?_
        refine e_getI (a := 57) (n := 914) (k0 := 2) (pc' := 74) dX3_readFigure_71 rfl rfl (Nat.le_of_ble_eq_true rfl) rfl mw_300 rfl ?_
        refine e_iconst (v := 1) (pc' := 75) (by decide) dX3_readFigure_74 rfl ?_
        refine e_iadd (pc' := 76) dX3_readFigure_75 rfl ?_
        refine e_putI (a := 57) (n := 914) (k0 := 2) (pc' := 79) dX3_readFigure_76 rfl rfl (Nat.le_of_ble_eq_true rfl) rfl mw_300 rfl rfl g_pI rfl rfl ?_
        refine e_ltI h (fun I4 h => ?_)
        refine e_iconst (v := 1) (pc' := 80) (by decide) dX3_readFigure_79 rfl ?_
        obtain rfl := g_re1 h
        exact e_zret dX3_readFigure_80 (by decide)
    · refine e_iconst (v := 0) (pc' := 49) (by decide) dX3_readFigure_48 rfl ?_
      obtain rfl := g_re1 h
      exact e_zret dX3_readFigure_49 (by decide)
set_option maxHeartbeats 4000000 in
set_option maxRecDepth 100000 in
theorem w_X3_readFigure_p16  : ∀ (x1 : Int32) (s0 : Int32) (I : Nat → Int32) (A : Nat → Nat → Int32) (L : Nat → Int64) (t : (Int32 × gS)), f_X3_readFigure_p16 x1 s0 I A L = some t → Ev RX3 cX3_readFigure 3 (some .boolean) 1 16 [some (.ref 57), some (.int x1), none] [.int s0] I A L (some (.int t.1), t.2) := by
  intro x1 s0 I A L t h
  unfold f_X3_readFigure_p16 at h
  refine e_istore_n (pc' := 17) (i := 2) (lc' := [some (.ref 57), some (.int x1), some (.int s0)]) rfl dX3_readFigure_16 rfl (Nat.le_of_ble_eq_true rfl) rfl rfl ?_
  refine e_iload_n (pc' := 18) (i := 2) rfl rfl dX3_readFigure_17 rfl ?_
  refine e_if_eq (tgt := 36) (pc' := 21) dX3_readFigure_18 (by decide) rfl h (fun h => ?_) (fun h => ?_)
  · exact e_weak (lc' := [some (.ref 57), some (.int x1), some (.int s0)]) (gle_s (gle_s (gle_s gle_0))) (w_X3_readFigure_p36  _ _ _ _ _ _ h)
  · refine e_aload_n (pc' := 22) (i := 0) rfl rfl dX3_readFigure_21 rfl ?_
    refine e_dup (pc' := 23) rfl dX3_readFigure_22 rfl ?_
    refine e_getI (a := 57) (n := 914) (k0 := 2) (pc' := 26) dX3_readFigure_23 rfl rfl (Nat.le_of_ble_eq_true rfl) rfl mw_300 rfl ?_
    refine e_iconst (v := 1) (pc' := 27) (by decide) dX3_readFigure_26 rfl ?_
    refine e_iadd (pc' := 28) dX3_readFigure_27 rfl ?_
    refine e_putI (a := 57) (n := 914) (k0 := 2) (pc' := 31) dX3_readFigure_28 rfl rfl (Nat.le_of_ble_eq_true rfl) rfl mw_300 rfl rfl g_pI rfl rfl ?_
    refine e_ltI h (fun I1 h => ?_)
    refine e_aload_n (pc' := 32) (i := 0) rfl rfl dX3_readFigure_31 rfl ?_
    obtain ⟨v6, I3, A4, L5, hF2, h⟩ := g_b2_e h
    refine e_callV_i (pc' := 35) dX3_readFigure_32 rfl mw_737 mv_X3_look rfl (Nat.le_of_ble_eq_true rfl) (Nat.le_of_ble_eq_true rfl) rfl (Nat.le_of_ble_eq_true rfl) rfl (c_X3_look hF2) rfl ?_
    refine e_istore_n (pc' := 36) (i := 1) (lc' := [some (.ref 57), some (.int v6), some (.int s0)]) rfl dX3_readFigure_35 rfl (Nat.le_of_ble_eq_true rfl) rfl rfl ?_
    exact e_weak (lc' := [some (.ref 57), some (.int v6), some (.int s0)]) (gle_s (gle_s (gle_s gle_0))) (w_X3_readFigure_p36  _ _ _ _ _ _ h)
set_option maxHeartbeats 4000000 in
set_option maxRecDepth 100000 in
theorem c_X3_readFigure  {I : Nat → Int32} {A : Nat → Nat → Int32} {L : Nat → Int64} {t : Int32} {I' : Nat → Int32} {A' : Nat → Nat → Int32} {L' : Nat → Int64} (h : f_X3_readFigure   I A L = some (t, I', A', L')) : GM yX3_readFigure cX3_readFigure 3 (some .boolean) 1 [.ref 57] I A L (some (.int t), (I', A', L')) := by
  refine gm_of (n := 2) (lc := [some (.ref 57), none, none]) (by decide +kernel) rfl (fun _ => Nat.le_of_ble_eq_true rfl) ?_
  change Ev RX3 cX3_readFigure 3 (some .boolean) 1 0 [some (.ref 57), none, none] [] I A L _
  unfold f_X3_readFigure at h
  refine e_aload_n (pc' := 1) (i := 0) rfl rfl dX3_readFigure_0 rfl ?_
  obtain ⟨v5, I2, A3, L4, hF1, h⟩ := g_b2_e h
  refine e_callV_i (pc' := 4) dX3_readFigure_1 rfl mw_737 mv_X3_look rfl (Nat.le_of_ble_eq_true rfl) (Nat.le_of_ble_eq_true rfl) rfl (Nat.le_of_ble_eq_true rfl) rfl (c_X3_look hF1) rfl ?_
  refine e_istore_n (pc' := 5) (i := 1) (lc' := [some (.ref 57), some (.int v5), none]) rfl dX3_readFigure_4 rfl (Nat.le_of_ble_eq_true rfl) rfl rfl ?_
  refine e_iload_n (pc' := 6) (i := 1) rfl rfl dX3_readFigure_5 rfl ?_
  refine e_bipush (v := 45) (pc' := 8) (by decide) dX3_readFigure_6 rfl ?_
  refine e_icmp_ne (tgt := 15) (pc' := 11) dX3_readFigure_8 (by decide) rfl h (fun h => ?_) (fun h => ?_)
  · refine e_iconst (v := 0) (pc' := 16) (by decide) dX3_readFigure_15 rfl ?_
    exact e_weak (lc' := [some (.ref 57), some (.int v5), none]) (gle_s (gle_s (gle_n gle_0))) (w_X3_readFigure_p16  _ _ _ _ _ _ h)
  · refine e_iconst (v := 1) (pc' := 12) (by decide) dX3_readFigure_11 rfl ?_
    refine e_goto (tgt := 16) dX3_readFigure_12 (by decide) ?_
    exact e_weak (lc' := [some (.ref 57), some (.int v5), none]) (gle_s (gle_s (gle_n gle_0))) (w_X3_readFigure_p16  _ _ _ _ _ _ h)
set_option maxHeartbeats 4000000 in
set_option maxRecDepth 100000 in
theorem c_X3_readSign  {I : Nat → Int32} {A : Nat → Nat → Int32} {L : Nat → Int64} {t : Int32} {I' : Nat → Int32} {A' : Nat → Nat → Int32} {L' : Nat → Int64} (h : f_X3_readSign   I A L = some (t, I', A', L')) : GM yX3_readSign cX3_readSign 1 (some .boolean) 2 [.ref 57] I A L (some (.int t), (I', A', L')) := by
  refine gm_of (n := 0) (lc := [some (.ref 57)]) (by decide +kernel) rfl (fun _ => Nat.le_of_ble_eq_true rfl) ?_
  change Ev RX3 cX3_readSign 1 (some .boolean) 2 0 [some (.ref 57)] [] I A L _
  unfold f_X3_readSign at h
  refine e_aload_n (pc' := 1) (i := 0) rfl rfl dX3_readSign_0 rfl ?_
  obtain ⟨v5, I2, A3, L4, hF1, h⟩ := g_b2_e h
  refine e_callV_i (pc' := 4) dX3_readSign_1 rfl mw_745 mv_X3_readFigure rfl (Nat.le_of_ble_eq_true rfl) (Nat.le_of_ble_eq_true rfl) rfl (Nat.le_of_ble_eq_true rfl) rfl (c_X3_readFigure hF1) rfl ?_
  refine e_if_ne (tgt := 9) (pc' := 7) dX3_readSign_4 (by decide) rfl h (fun h => ?_) (fun h => ?_)
  · refine e_aload_n (pc' := 10) (i := 0) rfl rfl dX3_readSign_9 rfl ?_
    refine e_aload_n (pc' := 11) (i := 0) rfl rfl dX3_readSign_10 rfl ?_
    refine e_getI (a := 57) (n := 920) (k0 := 8) (pc' := 14) dX3_readSign_11 rfl rfl (Nat.le_of_ble_eq_true rfl) rfl mw_307 rfl ?_
    refine e_putI (a := 57) (n := 916) (k0 := 4) (pc' := 17) dX3_readSign_14 rfl rfl (Nat.le_of_ble_eq_true rfl) rfl mw_303 rfl rfl g_pI rfl rfl ?_
    refine e_ltI h (fun I6 h => ?_)
    refine e_aload_n (pc' := 18) (i := 0) rfl rfl dX3_readSign_17 rfl ?_
    obtain ⟨v11, I8, A9, L10, hF7, h⟩ := g_b2_e h
    refine e_callV_i (pc' := 21) dX3_readSign_18 rfl mw_745 mv_X3_readFigure rfl (Nat.le_of_ble_eq_true rfl) (Nat.le_of_ble_eq_true rfl) rfl (Nat.le_of_ble_eq_true rfl) rfl (c_X3_readFigure hF7) rfl ?_
    refine e_if_ne (tgt := 26) (pc' := 24) dX3_readSign_21 (by decide) rfl h (fun h => ?_) (fun h => ?_)
    · refine e_aload_n (pc' := 27) (i := 0) rfl rfl dX3_readSign_26 rfl ?_
      refine e_aload_n (pc' := 28) (i := 0) rfl rfl dX3_readSign_27 rfl ?_
      refine e_getI (a := 57) (n := 920) (k0 := 8) (pc' := 31) dX3_readSign_28 rfl rfl (Nat.le_of_ble_eq_true rfl) rfl mw_307 rfl ?_
      refine e_putI (a := 57) (n := 917) (k0 := 5) (pc' := 34) dX3_readSign_31 rfl rfl (Nat.le_of_ble_eq_true rfl) rfl mw_304 rfl rfl g_pI rfl rfl ?_
      refine e_ltI h (fun I12 h => ?_)
      refine e_aload_n (pc' := 35) (i := 0) rfl rfl dX3_readSign_34 rfl ?_
      obtain ⟨v17, I14, A15, L16, hF13, h⟩ := g_b2_e h
      refine e_callV_i (pc' := 38) dX3_readSign_35 rfl mw_745 mv_X3_readFigure rfl (Nat.le_of_ble_eq_true rfl) (Nat.le_of_ble_eq_true rfl) rfl (Nat.le_of_ble_eq_true rfl) rfl (c_X3_readFigure hF13) rfl ?_
      refine e_if_ne (tgt := 43) (pc' := 41) dX3_readSign_38 (by decide) rfl h (fun h => ?_) (fun h => ?_)
      · refine e_aload_n (pc' := 44) (i := 0) rfl rfl dX3_readSign_43 rfl ?_
        refine e_aload_n (pc' := 45) (i := 0) rfl rfl dX3_readSign_44 rfl ?_
        refine e_getI (a := 57) (n := 920) (k0 := 8) (pc' := 48) dX3_readSign_45 rfl rfl (Nat.le_of_ble_eq_true rfl) rfl mw_307 rfl ?_
        refine e_putI (a := 57) (n := 918) (k0 := 6) (pc' := 51) dX3_readSign_48 rfl rfl (Nat.le_of_ble_eq_true rfl) rfl mw_305 rfl rfl g_pI rfl rfl ?_
        refine e_ltI h (fun I18 h => ?_)
        refine e_aload_n (pc' := 52) (i := 0) rfl rfl dX3_readSign_51 rfl ?_
        obtain ⟨v23, I20, A21, L22, hF19, h⟩ := g_b2_e h
        refine e_callV_i (pc' := 55) dX3_readSign_52 rfl mw_737 mv_X3_look rfl (Nat.le_of_ble_eq_true rfl) (Nat.le_of_ble_eq_true rfl) rfl (Nat.le_of_ble_eq_true rfl) rfl (c_X3_look hF19) rfl ?_
        refine e_bipush (v := 47) (pc' := 57) (by decide) dX3_readSign_55 rfl ?_
        refine e_icmp_ne (tgt := 78) (pc' := 60) dX3_readSign_57 (by decide) rfl h (fun h => ?_) (fun h => ?_)
        · refine e_iconst (v := 0) (pc' := 79) (by decide) dX3_readSign_78 rfl ?_
          obtain ⟨rfl, rfl, rfl, rfl⟩ := g_re4 h
          exact e_zret dX3_readSign_79 (by decide)
        · refine e_aload_n (pc' := 61) (i := 0) rfl rfl dX3_readSign_60 rfl ?_
          refine e_getI (a := 57) (n := 916) (k0 := 4) (pc' := 64) dX3_readSign_61 rfl rfl (Nat.le_of_ble_eq_true rfl) rfl mw_303 rfl ?_
          refine e_aload_n (pc' := 65) (i := 0) rfl rfl dX3_readSign_64 rfl ?_
          refine e_getI (a := 57) (n := 917) (k0 := 5) (pc' := 68) dX3_readSign_65 rfl rfl (Nat.le_of_ble_eq_true rfl) rfl mw_304 rfl ?_
          refine e_aload_n (pc' := 69) (i := 0) rfl rfl dX3_readSign_68 rfl ?_
          refine e_getI (a := 57) (n := 918) (k0 := 6) (pc' := 72) dX3_readSign_69 rfl rfl (Nat.le_of_ble_eq_true rfl) rfl mw_305 rfl ?_
          obtain ⟨v25, hF24, h⟩ := g_bd_e h
          refine e_callSN_i (pc' := 75) dX3_readSign_72 rfl mw_749 ms_X6_isSign rfl (Nat.le_of_ble_eq_true rfl) (Nat.le_of_ble_eq_true rfl) (c_X6_isSign _ _ _ hF24) rfl ?_
          refine e_if_ne (tgt := 80) (pc' := 78) dX3_readSign_75 (by decide) rfl h (fun h => ?_) (fun h => ?_)
          · refine e_aload_n (pc' := 81) (i := 0) rfl rfl dX3_readSign_80 rfl ?_
            refine e_dup (pc' := 82) rfl dX3_readSign_81 rfl ?_
            refine e_getI (a := 57) (n := 914) (k0 := 2) (pc' := 85) dX3_readSign_82 rfl rfl (Nat.le_of_ble_eq_true rfl) rfl mw_300 rfl ?_
            refine e_iconst (v := 1) (pc' := 86) (by decide) dX3_readSign_85 rfl ?_
            refine e_iadd (pc' := 87) dX3_readSign_86 rfl ?_
            refine e_putI (a := 57) (n := 914) (k0 := 2) (pc' := 90) dX3_readSign_87 rfl rfl (Nat.le_of_ble_eq_true rfl) rfl mw_300 rfl rfl g_pI rfl rfl ?_
            refine e_ltI h (fun I26 h => ?_)
            refine e_iconst (v := 1) (pc' := 91) (by decide) dX3_readSign_90 rfl ?_
            obtain ⟨rfl, rfl, rfl, rfl⟩ := g_re4 h
            exact e_zret dX3_readSign_91 (by decide)
          · refine e_iconst (v := 0) (pc' := 79) (by decide) dX3_readSign_78 rfl ?_
            obtain ⟨rfl, rfl, rfl, rfl⟩ := g_re4 h
            exact e_zret dX3_readSign_79 (by decide)
      · refine e_iconst (v := 0) (pc' := 42) (by decide) dX3_readSign_41 rfl ?_
        obtain ⟨rfl, rfl, rfl, rfl⟩ := g_re4 h
        exact e_zret dX3_readSign_42 (by decide)
    · refine e_iconst (v := 0) (pc' := 25) (by decide) dX3_readSign_24 rfl ?_
      obtain ⟨rfl, rfl, rfl, rfl⟩ := g_re4 h
      exact e_zret dX3_readSign_25 (by decide)
  · refine e_iconst (v := 0) (pc' := 8) (by decide) dX3_readSign_7 rfl ?_
    obtain ⟨rfl, rfl, rfl, rfl⟩ := g_re4 h
    exact e_zret dX3_readSign_8 (by decide)
set_option maxHeartbeats 4000000 in
set_option maxRecDepth 100000 in
theorem w_X3_readOff_p105  : ∀ (x1 : Int32) (I : Nat → Int32) (A : Nat → Nat → Int32) (L : Nat → Int64) (t : (Int32 × gS)), f_X3_readOff_p105 x1 I A L = some t → Ev RX3 cX3_readOff 2 (some .boolean) 1 105 [some (.ref 57), some (.int x1)] [] I A L (some (.int t.1), t.2) := by
  intro x1 I A L t h
  unfold f_X3_readOff_p105 at h
  refine e_aload_n (pc' := 106) (i := 0) rfl rfl dX3_readOff_105 rfl ?_
  refine e_getI (a := 57) (n := 914) (k0 := 2) (pc' := 109) dX3_readOff_106 rfl rfl (Nat.le_of_ble_eq_true rfl) rfl mw_300 rfl ?_
  refine e_iload_n (pc' := 110) (i := 1) rfl rfl dX3_readOff_109 rfl ?_
  refine e_isub (pc' := 111) dX3_readOff_110 rfl ?_
  refine e_iconst (v := 2) (pc' := 112) (by decide) dX3_readOff_111 rfl ?_
  refine e_icmp_gt (tgt := 125) (pc' := 115) dX3_readOff_112 (by decide) rfl h (fun h => ?_) (fun h => ?_)
  · refine e_aload_n (pc' := 126) (i := 0) rfl rfl dX3_readOff_125 rfl ?_
    refine e_iload_n (pc' := 127) (i := 1) rfl rfl dX3_readOff_126 rfl ?_
    refine e_putI (a := 57) (n := 914) (k0 := 2) (pc' := 130) dX3_readOff_127 rfl rfl (Nat.le_of_ble_eq_true rfl) rfl mw_300 rfl rfl g_pI rfl rfl ?_
    refine e_ltI h (fun I1 h => ?_)
    refine e_iconst (v := 0) (pc' := 131) (by decide) dX3_readOff_130 rfl ?_
    obtain rfl := g_re1 h
    exact e_zret dX3_readOff_131 (by decide)
  · refine e_aload_n (pc' := 116) (i := 0) rfl rfl dX3_readOff_115 rfl ?_
    refine e_getI (a := 57) (n := 919) (k0 := 7) (pc' := 119) dX3_readOff_116 rfl rfl (Nat.le_of_ble_eq_true rfl) rfl mw_306 rfl ?_
    obtain ⟨v3, hF2, h⟩ := g_bd_e h
    refine e_callSN_i (pc' := 122) dX3_readOff_119 rfl mw_754 ms_X6_isOff rfl (Nat.le_of_ble_eq_true rfl) (Nat.le_of_ble_eq_true rfl) (c_X6_isOff _ hF2) rfl ?_
    refine e_if_ne (tgt := 132) (pc' := 125) dX3_readOff_122 (by decide) rfl h (fun h => ?_) (fun h => ?_)
    · refine e_iconst (v := 1) (pc' := 133) (by decide) dX3_readOff_132 rfl ?_
      obtain rfl := g_re1 h
      exact e_zret dX3_readOff_133 (by decide)
    · refine e_aload_n (pc' := 126) (i := 0) rfl rfl dX3_readOff_125 rfl ?_
      refine e_iload_n (pc' := 127) (i := 1) rfl rfl dX3_readOff_126 rfl ?_
      refine e_putI (a := 57) (n := 914) (k0 := 2) (pc' := 130) dX3_readOff_127 rfl rfl (Nat.le_of_ble_eq_true rfl) rfl mw_300 rfl rfl g_pI rfl rfl ?_
      refine e_ltI h (fun I4 h => ?_)
      refine e_iconst (v := 0) (pc' := 131) (by decide) dX3_readOff_130 rfl ?_
      obtain rfl := g_re1 h
      exact e_zret dX3_readOff_131 (by decide)
set_option maxHeartbeats 4000000 in
set_option maxRecDepth 100000 in
theorem w_X3_readOff_p15  : ∀ (n : Nat) (x1 : Int32) (I : Nat → Int32) (A : Nat → Nat → Int32) (L : Nat → Int64) (t : (Int32 × gS)), f_X3_readOff_p15 n x1 I A L = some t → Ev RX3 cX3_readOff 2 (some .boolean) 1 15 [some (.ref 57), some (.int x1)] [] I A L (some (.int t.1), t.2) := by
  intro n
  induction n with
  | zero =>
    intro x1 I A L t h
    cases h
  | succ n ih =>
    intro x1 I A L t h
    rw [f_X3_readOff_p15] at h
    refine e_aload_n (pc' := 16) (i := 0) rfl rfl dX3_readOff_15 rfl ?_
    refine e_getI (a := 57) (n := 914) (k0 := 2) (pc' := 19) dX3_readOff_16 rfl rfl (Nat.le_of_ble_eq_true rfl) rfl mw_300 rfl ?_
    refine e_aload_n (pc' := 20) (i := 0) rfl rfl dX3_readOff_19 rfl ?_
    refine e_getI (a := 57) (n := 913) (k0 := 1) (pc' := 23) dX3_readOff_20 rfl rfl (Nat.le_of_ble_eq_true rfl) rfl mw_298 rfl ?_
    refine e_icmp_ge (tgt := 105) (pc' := 26) dX3_readOff_23 (by decide) rfl h (fun h => ?_) (fun h => ?_)
    · exact e_weak (lc' := [some (.ref 57), some (.int x1)]) (gle_s (gle_s gle_0)) (w_X3_readOff_p105  _ _ _ _ _ h)
    · refine e_aload_n (pc' := 27) (i := 0) rfl rfl dX3_readOff_26 rfl ?_
      refine e_getR (a := 57) (b := 58) (k0 := 0) (pc' := 30) dX3_readOff_27 rfl rfl (Nat.le_of_ble_eq_true rfl) rfl mw_296 rfl ?_
      refine e_aload_n (pc' := 31) (i := 0) rfl rfl dX3_readOff_30 rfl ?_
      refine e_getI (a := 57) (n := 914) (k0 := 2) (pc' := 34) dX3_readOff_31 rfl rfl (Nat.le_of_ble_eq_true rfl) rfl mw_300 rfl ?_
      refine e_bald (n := 120) (pc' := 35) dX3_readOff_34 rfl rfl h (fun h => ?_)
      refine e_bipush (v := 48) (pc' := 37) (by decide) dX3_readOff_35 rfl ?_
      refine e_icmp_lt (tgt := 105) (pc' := 40) dX3_readOff_37 (by decide) rfl h (fun h => ?_) (fun h => ?_)
      · exact e_weak (lc' := [some (.ref 57), some (.int x1)]) (gle_s (gle_s gle_0)) (w_X3_readOff_p105  _ _ _ _ _ h)
      · refine e_aload_n (pc' := 41) (i := 0) rfl rfl dX3_readOff_40 rfl ?_
        refine e_getR (a := 57) (b := 58) (k0 := 0) (pc' := 44) dX3_readOff_41 rfl rfl (Nat.le_of_ble_eq_true rfl) rfl mw_296 rfl ?_
        refine e_aload_n (pc' := 45) (i := 0) rfl rfl dX3_readOff_44 rfl ?_
        refine e_getI (a := 57) (n := 914) (k0 := 2) (pc' := 48) dX3_readOff_45 rfl rfl (Nat.le_of_ble_eq_true rfl) rfl mw_300 rfl ?_
        refine e_bald (n := 120) (pc' := 49) dX3_readOff_48 rfl rfl h (fun h => ?_)
        refine e_bipush (v := 57) (pc' := 51) (by decide) dX3_readOff_49 rfl ?_
        refine e_icmp_gt (tgt := 105) (pc' := 54) dX3_readOff_51 (by decide) rfl h (fun h => ?_) (fun h => ?_)
        · exact e_weak (lc' := [some (.ref 57), some (.int x1)]) (gle_s (gle_s gle_0)) (w_X3_readOff_p105  _ _ _ _ _ h)
        · refine e_aload_n (pc' := 55) (i := 0) rfl rfl dX3_readOff_54 rfl ?_
          refine e_aload_n (pc' := 56) (i := 0) rfl rfl dX3_readOff_55 rfl ?_
          refine e_getI (a := 57) (n := 914) (k0 := 2) (pc' := 59) dX3_readOff_56 rfl rfl (Nat.le_of_ble_eq_true rfl) rfl mw_300 rfl ?_
          refine e_iload_n (pc' := 60) (i := 1) rfl rfl dX3_readOff_59 rfl ?_
          refine e_isub (pc' := 61) dX3_readOff_60 rfl ?_
          refine e_iconst (v := 2) (pc' := 62) (by decide) dX3_readOff_61 rfl ?_
          refine e_icmp_ge (tgt := 88) (pc' := 65) dX3_readOff_62 (by decide) rfl h (fun h => ?_) (fun h => ?_)
          · refine e_iconst (v := 0) (pc' := 89) (by decide) dX3_readOff_88 rfl ?_
            refine e_putI (a := 57) (n := 919) (k0 := 7) (pc' := 92) dX3_readOff_89 rfl rfl (Nat.le_of_ble_eq_true rfl) rfl mw_306 rfl rfl g_pI rfl rfl ?_
            refine e_ltI h (fun I1 h => ?_)
            refine e_aload_n (pc' := 93) (i := 0) rfl rfl dX3_readOff_92 rfl ?_
            refine e_dup (pc' := 94) rfl dX3_readOff_93 rfl ?_
            refine e_getI (a := 57) (n := 914) (k0 := 2) (pc' := 97) dX3_readOff_94 rfl rfl (Nat.le_of_ble_eq_true rfl) rfl mw_300 rfl ?_
            refine e_iconst (v := 1) (pc' := 98) (by decide) dX3_readOff_97 rfl ?_
            refine e_iadd (pc' := 99) dX3_readOff_98 rfl ?_
            refine e_putI (a := 57) (n := 914) (k0 := 2) (pc' := 102) dX3_readOff_99 rfl rfl (Nat.le_of_ble_eq_true rfl) rfl mw_300 rfl rfl g_pI rfl rfl ?_
            refine e_ltI h (fun I2 h => ?_)
            refine e_goto (tgt := 15) dX3_readOff_102 (by decide) ?_
            exact e_weak (lc' := [some (.ref 57), some (.int x1)]) (gle_s (gle_s gle_0)) (ih _ _ _ _ _ h)
          · refine e_bipush (v := 10) (pc' := 67) (by decide) dX3_readOff_65 rfl ?_
            refine e_aload_n (pc' := 68) (i := 0) rfl rfl dX3_readOff_67 rfl ?_
            refine e_getI (a := 57) (n := 919) (k0 := 7) (pc' := 71) dX3_readOff_68 rfl rfl (Nat.le_of_ble_eq_true rfl) rfl mw_306 rfl ?_
            refine e_imul (pc' := 72) dX3_readOff_71 rfl ?_
            refine e_aload_n (pc' := 73) (i := 0) rfl rfl dX3_readOff_72 rfl ?_
            refine e_getR (a := 57) (b := 58) (k0 := 0) (pc' := 76) dX3_readOff_73 rfl rfl (Nat.le_of_ble_eq_true rfl) rfl mw_296 rfl ?_
            refine e_aload_n (pc' := 77) (i := 0) rfl rfl dX3_readOff_76 rfl ?_
            refine e_getI (a := 57) (n := 914) (k0 := 2) (pc' := 80) dX3_readOff_77 rfl rfl (Nat.le_of_ble_eq_true rfl) rfl mw_300 rfl ?_
            refine e_bald (n := 120) (pc' := 81) dX3_readOff_80 rfl rfl h (fun h => ?_)
            refine e_iadd (pc' := 82) dX3_readOff_81 rfl ?_
            refine e_bipush (v := 48) (pc' := 84) (by decide) dX3_readOff_82 rfl ?_
            refine e_isub (pc' := 85) dX3_readOff_84 rfl ?_
            refine e_goto (tgt := 89) dX3_readOff_85 (by decide) ?_
            refine e_putI (a := 57) (n := 919) (k0 := 7) (pc' := 92) dX3_readOff_89 rfl rfl (Nat.le_of_ble_eq_true rfl) rfl mw_306 rfl rfl g_pI rfl rfl ?_
            refine e_ltI h (fun I3 h => ?_)
            refine e_aload_n (pc' := 93) (i := 0) rfl rfl dX3_readOff_92 rfl ?_
            refine e_dup (pc' := 94) rfl dX3_readOff_93 rfl ?_
            refine e_getI (a := 57) (n := 914) (k0 := 2) (pc' := 97) dX3_readOff_94 rfl rfl (Nat.le_of_ble_eq_true rfl) rfl mw_300 rfl ?_
            refine e_iconst (v := 1) (pc' := 98) (by decide) dX3_readOff_97 rfl ?_
            refine e_iadd (pc' := 99) dX3_readOff_98 rfl ?_
            refine e_putI (a := 57) (n := 914) (k0 := 2) (pc' := 102) dX3_readOff_99 rfl rfl (Nat.le_of_ble_eq_true rfl) rfl mw_300 rfl rfl g_pI rfl rfl ?_
            refine e_ltI h (fun I4 h => ?_)
            refine e_goto (tgt := 15) dX3_readOff_102 (by decide) ?_
            exact e_weak (lc' := [some (.ref 57), some (.int x1)]) (gle_s (gle_s gle_0)) (ih _ _ _ _ _ h)
set_option maxHeartbeats 4000000 in
set_option maxRecDepth 100000 in
theorem c_X3_readOff  {I : Nat → Int32} {A : Nat → Nat → Int32} {L : Nat → Int64} {t : Int32} {I' : Nat → Int32} {A' : Nat → Nat → Int32} {L' : Nat → Int64} (h : f_X3_readOff   I A L = some (t, I', A', L')) : GM yX3_readOff cX3_readOff 2 (some .boolean) 1 [.ref 57] I A L (some (.int t), (I', A', L')) := by
  refine gm_of (n := 1) (lc := [some (.ref 57), none]) (by decide +kernel) rfl (fun _ => Nat.le_of_ble_eq_true rfl) ?_
  change Ev RX3 cX3_readOff 2 (some .boolean) 1 0 [some (.ref 57), none] [] I A L _
  unfold f_X3_readOff at h
  refine e_aload_n (pc' := 1) (i := 0) rfl rfl dX3_readOff_0 rfl ?_
  obtain ⟨v5, I2, A3, L4, hF1, h⟩ := g_b2_e h
  refine e_callV_i (pc' := 4) dX3_readOff_1 rfl mw_737 mv_X3_look rfl (Nat.le_of_ble_eq_true rfl) (Nat.le_of_ble_eq_true rfl) rfl (Nat.le_of_ble_eq_true rfl) rfl (c_X3_look hF1) rfl ?_
  refine e_pop (pc' := 5) rfl dX3_readOff_4 rfl ?_
  refine e_aload_n (pc' := 6) (i := 0) rfl rfl dX3_readOff_5 rfl ?_
  refine e_getI (a := 57) (n := 914) (k0 := 2) (pc' := 9) dX3_readOff_6 rfl rfl (Nat.le_of_ble_eq_true rfl) rfl mw_300 rfl ?_
  refine e_istore_n (pc' := 10) (i := 1) (lc' := [some (.ref 57), some (.int (I2 914))]) rfl dX3_readOff_9 rfl (Nat.le_of_ble_eq_true rfl) rfl rfl ?_
  refine e_aload_n (pc' := 11) (i := 0) rfl rfl dX3_readOff_10 rfl ?_
  refine e_iconst (v := 0) (pc' := 12) (by decide) dX3_readOff_11 rfl ?_
  refine e_putI (a := 57) (n := 919) (k0 := 7) (pc' := 15) dX3_readOff_12 rfl rfl (Nat.le_of_ble_eq_true rfl) rfl mw_306 rfl rfl g_pI rfl rfl ?_
  refine e_ltI h (fun I6 h => ?_)
  exact e_weak (lc' := [some (.ref 57), some (.int (I2 914))]) (gle_s (gle_s gle_0)) (w_X3_readOff_p15  _ _ _ _ _ _ h)
