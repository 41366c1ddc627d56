set_option maxHeartbeats 4000000 in
set_option maxRecDepth 100000 in
theorem w_X1_isLeftBy_45_1_p2  : ∀ (n : Nat) (x2 : Int32) (x3 : Int32) (I : Nat → Int32) (A : Nat → Nat → Int32) (L : Nat → Int64) (t : (Int32 × gS)), f_X1_isLeftBy_p2 45 1 n x2 x3 I A L = some t → Ev 70 RX1 cX1_isLeftBy 4 (some .boolean) 1 2 [some (.ref 45), some (.ref 1), some (.int x2), some (.int x3)] [] I A L (some (.int t.1), t.2) := by
  intro n
  induction n with
  | zero =>
    intro x2 x3 I A L t h
    cases h
  | succ n ih =>
    intro x2 x3 I A L t h
    rw [f_X1_isLeftBy_p2] at h
    refine e_iload_n (pc' := 3) (i := 3) rfl rfl dX1_isLeftBy_2 rfl ?_
    refine e_aload_n (pc' := 4) (i := 1) rfl rfl dX1_isLeftBy_3 rfl ?_
    refine e_getIN (a := 1) (n := 20) (k0 := 4) (pc' := 7) dX1_isLeftBy_4 rfl rfl (Nat.le_of_ble_eq_true rfl) (Nat.le_of_ble_eq_true rfl) rfl mw_145 rfl ?_
    refine e_icmp_ge (tgt := 32) (pc' := 10) dX1_isLeftBy_7 (by decide) rfl h (fun h => ?_) (fun h => ?_)
    · refine e_iconst (v := 1) (pc' := 33) (by decide) dX1_isLeftBy_32 rfl ?_
      obtain rfl := g_re1 h
      exact e_zret dX1_isLeftBy_33 (by decide)
    · refine e_iload_n (pc' := 11) (i := 3) rfl rfl dX1_isLeftBy_10 rfl ?_
      refine e_iload_n (pc' := 12) (i := 2) rfl rfl dX1_isLeftBy_11 rfl ?_
      refine e_icmp_eq (tgt := 26) (pc' := 15) dX1_isLeftBy_12 (by decide) rfl h (fun h => ?_) (fun h => ?_)
      · refine e_iinc (pc' := 29) (v := (x3 + 1)) (lc' := [some (.ref 45), some (.ref 1), some (.int x2), some (.int (x3 + 1))]) dX1_isLeftBy_26 rfl rfl rfl (Nat.le_of_ble_eq_true rfl) rfl rfl ?_
        refine e_goto (tgt := 2) dX1_isLeftBy_29 (by decide) ?_
        exact e_weak (lc' := [some (.ref 45), some (.ref 1), some (.int x2), some (.int (x3 + 1))]) (gle_s (gle_s (gle_s (gle_s gle_0)))) (ih _ _ _ _ _ _ h)
      · refine e_aload_n (pc' := 16) (i := 0) rfl rfl dX1_isLeftBy_15 rfl ?_
        refine e_aload_n (pc' := 17) (i := 1) rfl rfl dX1_isLeftBy_16 rfl ?_
        refine e_iload_n (pc' := 18) (i := 3) rfl rfl dX1_isLeftBy_17 rfl ?_
        obtain ⟨v5, I2, A3, L4, hF1, h⟩ := g_b2_e h
        refine e_callV_i (pc' := 21) dX1_isLeftBy_18 rfl mw_519 mv_X1_isLeftBehind rfl (Nat.le_of_ble_eq_true rfl) (Nat.le_of_ble_eq_true rfl) rfl (Nat.le_of_ble_eq_true rfl) (Nat.le_of_ble_eq_true rfl) rfl (c_X1_isLeftBehind_45_1 _ hF1) rfl ?_
        refine e_if_ne (tgt := 26) (pc' := 24) dX1_isLeftBy_21 (by decide) rfl h (fun h => ?_) (fun h => ?_)
        · refine e_iinc (pc' := 29) (v := (x3 + 1)) (lc' := [some (.ref 45), some (.ref 1), some (.int x2), some (.int (x3 + 1))]) dX1_isLeftBy_26 rfl rfl rfl (Nat.le_of_ble_eq_true rfl) rfl rfl ?_
          refine e_goto (tgt := 2) dX1_isLeftBy_29 (by decide) ?_
          exact e_weak (lc' := [some (.ref 45), some (.ref 1), some (.int x2), some (.int (x3 + 1))]) (gle_s (gle_s (gle_s (gle_s gle_0)))) (ih _ _ _ _ _ _ h)
        · refine e_iconst (v := 0) (pc' := 25) (by decide) dX1_isLeftBy_24 rfl ?_
          obtain rfl := g_re1 h
          exact e_zret dX1_isLeftBy_25 (by decide)
set_option maxHeartbeats 4000000 in
set_option maxRecDepth 100000 in
theorem c_X1_isLeftBy_45_1 (a0 : Int32) {I : Nat → Int32} {A : Nat → Nat → Int32} {L : Nat → Int64} {t : Int32} {I' : Nat → Int32} {A' : Nat → Nat → Int32} {L' : Nat → Int64} (h : f_X1_isLeftBy 45 1 a0 I A L = some (t, I', A', L')) : GM 70 yX1_isLeftBy cX1_isLeftBy 4 (some .boolean) 1 [.ref 45, .ref 1, .int a0] I A L (some (.int t), (I', A', L')) := by
  refine gm_of (n := 1) (lc := [some (.ref 45), some (.ref 1), some (.int a0), none]) (by decide +kernel) rfl (fun _ => Nat.le_of_ble_eq_true rfl) ?_
  change Ev 70 RX1 cX1_isLeftBy 4 (some .boolean) 1 0 [some (.ref 45), some (.ref 1), some (.int a0), none] [] I A L _
  unfold f_X1_isLeftBy at h
  refine e_iconst (v := 0) (pc' := 1) (by decide) dX1_isLeftBy_0 rfl ?_
  refine e_istore_n (pc' := 2) (i := 3) (lc' := [some (.ref 45), some (.ref 1), some (.int a0), some (.int 0)]) rfl dX1_isLeftBy_1 rfl (Nat.le_of_ble_eq_true rfl) rfl rfl ?_
  exact e_weak (lc' := [some (.ref 45), some (.ref 1), some (.int a0), some (.int 0)]) (gle_s (gle_s (gle_s (gle_s gle_0)))) (w_X1_isLeftBy_45_1_p2  _ _ _ _ _ _ _ h)
set_option maxHeartbeats 4000000 in
set_option maxRecDepth 100000 in
theorem w_X4_putCorner_38_p16  : ∀ (n : Nat) (x1 : Int32) (x2 : Int32) (x3 : Int32) (x4 : Int32) (x5 : Int32) (x6 : Int32) (I : Nat → Int32) (A : Nat → Nat → Int32) (L : Nat → Int64) (t : gS), f_X4_putCorner_p16 38 n x1 x2 x3 x4 x5 x6 I A L = some t → Ev 70 RX4 cX4_putCorner 7 none 0 16 [some (.ref 38), some (.int x1), some (.int x2), some (.int x3), some (.int x4), some (.int x5), some (.int x6)] [] I A L (none, t) := by
  intro n
  induction n with
  | zero =>
    intro x1 x2 x3 x4 x5 x6 I A L t h
    cases h
  | succ n ih =>
    intro x1 x2 x3 x4 x5 x6 I A L t h
    rw [f_X4_putCorner_p16] at h
    refine e_iload (pc' := 18) (i := 6) rfl dX4_putCorner_16 rfl ?_
    refine e_iload_n (pc' := 19) (i := 1) rfl rfl dX4_putCorner_18 rfl ?_
    refine e_icmp_le (tgt := 92) (pc' := 22) dX4_putCorner_19 (by decide) rfl h (fun h => ?_) (fun h => ?_)
    · refine e_aload_n (pc' := 93) (i := 0) rfl rfl dX4_putCorner_92 rfl ?_
      refine e_getR (a := 38) (b := 39) (k0 := 0) (pc' := 96) dX4_putCorner_93 rfl rfl (Nat.le_of_ble_eq_true rfl) (Nat.le_of_ble_eq_true rfl) rfl mw_236 rfl ?_
      refine e_iload_n (pc' := 97) (i := 1) rfl rfl dX4_putCorner_96 rfl ?_
      refine e_iload_n (pc' := 98) (i := 2) rfl rfl dX4_putCorner_97 rfl ?_
      refine e_iast (n := 60) (pc' := 99) dX4_putCorner_98 rfl rfl (Nat.le_of_ble_eq_true rfl) h (fun h => ?_)
      refine e_ltA h (fun A1 h => ?_)
      refine e_aload_n (pc' := 100) (i := 0) rfl rfl dX4_putCorner_99 rfl ?_
      refine e_getR (a := 38) (b := 40) (k0 := 1) (pc' := 103) dX4_putCorner_100 rfl rfl (Nat.le_of_ble_eq_true rfl) (Nat.le_of_ble_eq_true rfl) rfl mw_237 rfl ?_
      refine e_iload_n (pc' := 104) (i := 1) rfl rfl dX4_putCorner_103 rfl ?_
      refine e_iload_n (pc' := 105) (i := 3) rfl rfl dX4_putCorner_104 rfl ?_
      refine e_iast (n := 60) (pc' := 106) dX4_putCorner_105 rfl rfl (Nat.le_of_ble_eq_true rfl) h (fun h => ?_)
      refine e_ltA h (fun A2 h => ?_)
      refine e_aload_n (pc' := 107) (i := 0) rfl rfl dX4_putCorner_106 rfl ?_
      refine e_getR (a := 38) (b := 41) (k0 := 2) (pc' := 110) dX4_putCorner_107 rfl rfl (Nat.le_of_ble_eq_true rfl) (Nat.le_of_ble_eq_true rfl) rfl mw_238 rfl ?_
      refine e_iload_n (pc' := 111) (i := 1) rfl rfl dX4_putCorner_110 rfl ?_
      refine e_iload (pc' := 113) (i := 4) rfl dX4_putCorner_111 rfl ?_
      refine e_iast (n := 60) (pc' := 114) dX4_putCorner_113 rfl rfl (Nat.le_of_ble_eq_true rfl) h (fun h => ?_)
      refine e_ltA h (fun A3 h => ?_)
      refine e_aload_n (pc' := 115) (i := 0) rfl rfl dX4_putCorner_114 rfl ?_
      refine e_getR (a := 38) (b := 42) (k0 := 3) (pc' := 118) dX4_putCorner_115 rfl rfl (Nat.le_of_ble_eq_true rfl) (Nat.le_of_ble_eq_true rfl) rfl mw_239 rfl ?_
      refine e_iload_n (pc' := 119) (i := 1) rfl rfl dX4_putCorner_118 rfl ?_
      refine e_iload (pc' := 121) (i := 5) rfl dX4_putCorner_119 rfl ?_
      refine e_iast (n := 60) (pc' := 122) dX4_putCorner_121 rfl rfl (Nat.le_of_ble_eq_true rfl) h (fun h => ?_)
      refine e_ltA h (fun A4 h => ?_)
      refine e_aload_n (pc' := 123) (i := 0) rfl rfl dX4_putCorner_122 rfl ?_
      refine e_dup (pc' := 124) rfl dX4_putCorner_123 rfl ?_
      refine e_getI (a := 38) (n := 615) (k0 := 7) (pc' := 127) dX4_putCorner_124 rfl rfl (Nat.le_of_ble_eq_true rfl) (Nat.le_of_ble_eq_true rfl) rfl mw_246 rfl ?_
      refine e_iconst (v := 1) (pc' := 128) (by decide) dX4_putCorner_127 rfl ?_
      refine e_iadd (pc' := 129) dX4_putCorner_128 rfl ?_
      refine e_putI (a := 38) (n := 615) (k0 := 7) (pc' := 132) dX4_putCorner_129 rfl rfl (Nat.le_of_ble_eq_true rfl) (Nat.le_of_ble_eq_true rfl) rfl mw_246 rfl rfl g_pI rfl rfl ?_
      refine e_ltI h (fun I5 h => ?_)
      obtain rfl := g_re1 h
      exact e_vret dX4_putCorner_132
    · refine e_aload_n (pc' := 23) (i := 0) rfl rfl dX4_putCorner_22 rfl ?_
      refine e_getR (a := 38) (b := 39) (k0 := 0) (pc' := 26) dX4_putCorner_23 rfl rfl (Nat.le_of_ble_eq_true rfl) (Nat.le_of_ble_eq_true rfl) rfl mw_236 rfl ?_
      refine e_iload (pc' := 28) (i := 6) rfl dX4_putCorner_26 rfl ?_
      refine e_aload_n (pc' := 29) (i := 0) rfl rfl dX4_putCorner_28 rfl ?_
      refine e_getR (a := 38) (b := 39) (k0 := 0) (pc' := 32) dX4_putCorner_29 rfl rfl (Nat.le_of_ble_eq_true rfl) (Nat.le_of_ble_eq_true rfl) rfl mw_236 rfl ?_
      refine e_iload (pc' := 34) (i := 6) rfl dX4_putCorner_32 rfl ?_
      refine e_iconst (v := 1) (pc' := 35) (by decide) dX4_putCorner_34 rfl ?_
      refine e_isub (pc' := 36) dX4_putCorner_35 rfl ?_
      refine e_iald (n := 60) (pc' := 37) dX4_putCorner_36 rfl rfl (Nat.le_of_ble_eq_true rfl) h (fun h => ?_)
      refine e_iast (n := 60) (pc' := 38) dX4_putCorner_37 rfl rfl (Nat.le_of_ble_eq_true rfl) h (fun h => ?_)
      refine e_ltA h (fun A6 h => ?_)
      refine e_aload_n (pc' := 39) (i := 0) rfl rfl dX4_putCorner_38 rfl ?_
      refine e_getR (a := 38) (b := 40) (k0 := 1) (pc' := 42) dX4_putCorner_39 rfl rfl (Nat.le_of_ble_eq_true rfl) (Nat.le_of_ble_eq_true rfl) rfl mw_237 rfl ?_
      refine e_iload (pc' := 44) (i := 6) rfl dX4_putCorner_42 rfl ?_
      refine e_aload_n (pc' := 45) (i := 0) rfl rfl dX4_putCorner_44 rfl ?_
      refine e_getR (a := 38) (b := 40) (k0 := 1) (pc' := 48) dX4_putCorner_45 rfl rfl (Nat.le_of_ble_eq_true rfl) (Nat.le_of_ble_eq_true rfl) rfl mw_237 rfl ?_
      refine e_iload (pc' := 50) (i := 6) rfl dX4_putCorner_48 rfl ?_
      refine e_iconst (v := 1) (pc' := 51) (by decide) dX4_putCorner_50 rfl ?_
      refine e_isub (pc' := 52) dX4_putCorner_51 rfl ?_
      refine e_iald (n := 60) (pc' := 53) dX4_putCorner_52 rfl rfl (Nat.le_of_ble_eq_true rfl) h (fun h => ?_)
      refine e_iast (n := 60) (pc' := 54) dX4_putCorner_53 rfl rfl (Nat.le_of_ble_eq_true rfl) h (fun h => ?_)
      refine e_ltA h (fun A7 h => ?_)
      refine e_aload_n (pc' := 55) (i := 0) rfl rfl dX4_putCorner_54 rfl ?_
      refine e_getR (a := 38) (b := 41) (k0 := 2) (pc' := 58) dX4_putCorner_55 rfl rfl (Nat.le_of_ble_eq_true rfl) (Nat.le_of_ble_eq_true rfl) rfl mw_238 rfl ?_
      refine e_iload (pc' := 60) (i := 6) rfl dX4_putCorner_58 rfl ?_
      refine e_aload_n (pc' := 61) (i := 0) rfl rfl dX4_putCorner_60 rfl ?_
      refine e_getR (a := 38) (b := 41) (k0 := 2) (pc' := 64) dX4_putCorner_61 rfl rfl (Nat.le_of_ble_eq_true rfl) (Nat.le_of_ble_eq_true rfl) rfl mw_238 rfl ?_
      refine e_iload (pc' := 66) (i := 6) rfl dX4_putCorner_64 rfl ?_
      refine e_iconst (v := 1) (pc' := 67) (by decide) dX4_putCorner_66 rfl ?_
      refine e_isub (pc' := 68) dX4_putCorner_67 rfl ?_
      refine e_iald (n := 60) (pc' := 69) dX4_putCorner_68 rfl rfl (Nat.le_of_ble_eq_true rfl) h (fun h => ?_)
      refine e_iast (n := 60) (pc' := 70) dX4_putCorner_69 rfl rfl (Nat.le_of_ble_eq_true rfl) h (fun h => ?_)
      refine e_ltA h (fun A8 h => ?_)
      refine e_aload_n (pc' := 71) (i := 0) rfl rfl dX4_putCorner_70 rfl ?_
      refine e_getR (a := 38) (b := 42) (k0 := 3) (pc' := 74) dX4_putCorner_71 rfl rfl (Nat.le_of_ble_eq_true rfl) (Nat.le_of_ble_eq_true rfl) rfl mw_239 rfl ?_
      refine e_iload (pc' := 76) (i := 6) rfl dX4_putCorner_74 rfl ?_
      refine e_aload_n (pc' := 77) (i := 0) rfl rfl dX4_putCorner_76 rfl ?_
      refine e_getR (a := 38) (b := 42) (k0 := 3) (pc' := 80) dX4_putCorner_77 rfl rfl (Nat.le_of_ble_eq_true rfl) (Nat.le_of_ble_eq_true rfl) rfl mw_239 rfl ?_
      refine e_iload (pc' := 82) (i := 6) rfl dX4_putCorner_80 rfl ?_
      refine e_iconst (v := 1) (pc' := 83) (by decide) dX4_putCorner_82 rfl ?_
      refine e_isub (pc' := 84) dX4_putCorner_83 rfl ?_
      refine e_iald (n := 60) (pc' := 85) dX4_putCorner_84 rfl rfl (Nat.le_of_ble_eq_true rfl) h (fun h => ?_)
      refine e_iast (n := 60) (pc' := 86) dX4_putCorner_85 rfl rfl (Nat.le_of_ble_eq_true rfl) h (fun h => ?_)
      refine e_ltA h (fun A9 h => ?_)
      refine e_iinc (pc' := 89) (v := (x6 + (-1))) (lc' := [some (.ref 38), some (.int x1), some (.int x2), some (.int x3), some (.int x4), some (.int x5), some (.int (x6 + (-1)))]) dX4_putCorner_86 rfl rfl rfl (Nat.le_of_ble_eq_true rfl) rfl rfl ?_
      refine e_goto (tgt := 16) dX4_putCorner_89 (by decide) ?_
      exact e_weak (lc' := [some (.ref 38), some (.int x1), some (.int x2), some (.int x3), some (.int x4), some (.int x5), some (.int (x6 + (-1)))]) (gle_s (gle_s (gle_s (gle_s (gle_s (gle_s (gle_s gle_0))))))) (ih _ _ _ _ _ _ _ _ _ _ h)
set_option maxHeartbeats 4000000 in
set_option maxRecDepth 100000 in
theorem c_X4_putCorner_38 (a0 : Int32) (a1 : Int32) (a2 : Int32) (a3 : Int32) (a4 : Int32) {I : Nat → Int32} {A : Nat → Nat → Int32} {L : Nat → Int64} {I' : Nat → Int32} {A' : Nat → Nat → Int32} {L' : Nat → Int64} (h : f_X4_putCorner 38 a0 a1 a2 a3 a4 I A L = some (I', A', L')) : GM 70 yX4_putCorner cX4_putCorner 7 none 0 [.ref 38, .int a0, .int a1, .int a2, .int a3, .int a4] I A L (none, (I', A', L')) := by
  refine gm_of (n := 1) (lc := [some (.ref 38), some (.int a0), some (.int a1), some (.int a2), some (.int a3), some (.int a4), none]) (by decide +kernel) rfl (fun _ => Nat.le_of_ble_eq_true rfl) ?_
  change Ev 70 RX4 cX4_putCorner 7 none 0 0 [some (.ref 38), some (.int a0), some (.int a1), some (.int a2), some (.int a3), some (.int a4), none] [] I A L _
  unfold f_X4_putCorner at h
  refine e_aload_n (pc' := 1) (i := 0) rfl rfl dX4_putCorner_0 rfl ?_
  refine e_getI (a := 38) (n := 615) (k0 := 7) (pc' := 4) dX4_putCorner_1 rfl rfl (Nat.le_of_ble_eq_true rfl) (Nat.le_of_ble_eq_true rfl) rfl mw_246 rfl ?_
  refine e_bipush (v := 60) (pc' := 6) (by decide) dX4_putCorner_4 rfl ?_
  refine e_icmp_lt (tgt := 10) (pc' := 9) dX4_putCorner_6 (by decide) rfl h (fun h => ?_) (fun h => ?_)
  · refine e_aload_n (pc' := 11) (i := 0) rfl rfl dX4_putCorner_10 rfl ?_
    refine e_getI (a := 38) (n := 615) (k0 := 7) (pc' := 14) dX4_putCorner_11 rfl rfl (Nat.le_of_ble_eq_true rfl) (Nat.le_of_ble_eq_true rfl) rfl mw_246 rfl ?_
    refine e_lt h (fun v1 h => ?_)
    refine e_istore (pc' := 16) (i := 6) (lc' := [some (.ref 38), some (.int a0), some (.int a1), some (.int a2), some (.int a3), some (.int a4), some (.int v1)]) dX4_putCorner_14 rfl (Nat.le_of_ble_eq_true rfl) rfl rfl ?_
    exact e_weak (lc' := [some (.ref 38), some (.int a0), some (.int a1), some (.int a2), some (.int a3), some (.int a4), some (.int v1)]) (gle_s (gle_s (gle_s (gle_s (gle_s (gle_s (gle_s gle_0))))))) (w_X4_putCorner_38_p16  _ _ _ _ _ _ _ _ _ _ _ h)
  · obtain ⟨rfl, rfl, rfl⟩ := g_re3 h
    exact e_vret dX4_putCorner_9
set_option maxHeartbeats 4000000 in
set_option maxRecDepth 100000 in
theorem w_X6_commonDivisor_p13 (I : Nat → Int32) (A : Nat → Nat → Int32) (L : Nat → Int64) : ∀ (n : Nat) (x2 : Int32) (x3 : Int32) (x4 : Int32) (t : Int32), f_X6_commonDivisor_p13 I A L n x2 x3 x4 = some t → Ev 70 RX6 cX6_commonDivisor 6 (some .int) 1 13 [none, none, some (.int x2), some (.int x3), some (.int x4), none] [] I A L (some (.int t), (I, A, L)) := by
  intro n
  induction n with
  | zero =>
    intro x2 x3 x4 t h
    cases h
  | succ n ih =>
    intro x2 x3 x4 t h
    rw [f_X6_commonDivisor_p13] at h
    refine e_iload (pc' := 15) (i := 4) rfl dX6_commonDivisor_13 rfl ?_
    refine e_bipush (v := 64) (pc' := 17) (by decide) dX6_commonDivisor_15 rfl ?_
    refine e_icmp_ge (tgt := 40) (pc' := 20) dX6_commonDivisor_17 (by decide) rfl h (fun h => ?_) (fun h => ?_)
    · refine e_iload_n (pc' := 41) (i := 2) rfl rfl dX6_commonDivisor_40 rfl ?_
      obtain rfl := g_re1 h
      exact e_iret dX6_commonDivisor_41
    · refine e_iload_n (pc' := 21) (i := 3) rfl rfl dX6_commonDivisor_20 rfl ?_
      refine e_if_eq (tgt := 40) (pc' := 24) dX6_commonDivisor_21 (by decide) rfl h (fun h => ?_) (fun h => ?_)
      · refine e_iload_n (pc' := 41) (i := 2) rfl rfl dX6_commonDivisor_40 rfl ?_
        obtain rfl := g_re1 h
        exact e_iret dX6_commonDivisor_41
      · refine e_iload_n (pc' := 25) (i := 2) rfl rfl dX6_commonDivisor_24 rfl ?_
        refine e_iload_n (pc' := 26) (i := 3) rfl rfl dX6_commonDivisor_25 rfl ?_
        obtain ⟨hz1, h⟩ := g_dv_e h
        refine e_irem (pc' := 27) hz1 dX6_commonDivisor_26 rfl ?_
        refine e_lt h (fun v2 h => ?_)
        refine e_istore (pc' := 29) (i := 5) (lc' := [none, none, some (.int x2), some (.int x3), some (.int x4), some (.int v2)]) dX6_commonDivisor_27 rfl (Nat.le_of_ble_eq_true rfl) rfl rfl ?_
        refine e_iload_n (pc' := 30) (i := 3) rfl rfl dX6_commonDivisor_29 rfl ?_
        refine e_istore_n (pc' := 31) (i := 2) (lc' := [none, none, some (.int x3), some (.int x3), some (.int x4), some (.int v2)]) rfl dX6_commonDivisor_30 rfl (Nat.le_of_ble_eq_true rfl) rfl rfl ?_
        refine e_iload (pc' := 33) (i := 5) rfl dX6_commonDivisor_31 rfl ?_
        refine e_istore_n (pc' := 34) (i := 3) (lc' := [none, none, some (.int x3), some (.int v2), some (.int x4), some (.int v2)]) rfl dX6_commonDivisor_33 rfl (Nat.le_of_ble_eq_true rfl) rfl rfl ?_
        refine e_iinc (pc' := 37) (v := (x4 + 1)) (lc' := [none, none, some (.int x3), some (.int v2), some (.int (x4 + 1)), some (.int v2)]) dX6_commonDivisor_34 rfl rfl rfl (Nat.le_of_ble_eq_true rfl) rfl rfl ?_
        refine e_goto (tgt := 13) dX6_commonDivisor_37 (by decide) ?_
        exact e_weak (lc' := [none, none, some (.int x3), some (.int v2), some (.int (x4 + 1)), none]) (gle_n (gle_n (gle_s (gle_s (gle_s (gle_n gle_0)))))) (ih _ _ _ _ h)
set_option maxHeartbeats 4000000 in
set_option maxRecDepth 100000 in
theorem c_X6_commonDivisor (a0 : Int32) (a1 : Int32) {I : Nat → Int32} {A : Nat → Nat → Int32} {L : Nat → Int64} {t : Int32} (h : f_X6_commonDivisor I A L a0 a1 = some t) : GM 70 yX6_commonDivisor cX6_commonDivisor 6 (some .int) 1 [.int a0, .int a1] I A L (some (.int t), (I, A, L)) := by
  refine gm_of (n := 4) (lc := [some (.int a0), some (.int a1), none, none, none, none]) (by decide +kernel) rfl (fun _ => Nat.le_of_ble_eq_true rfl) ?_
  change Ev 70 RX6 cX6_commonDivisor 6 (some .int) 1 0 [some (.int a0), some (.int a1), none, none, none, none] [] I A L _
  unfold f_X6_commonDivisor at h
  refine e_iload_n (pc' := 1) (i := 0) rfl rfl dX6_commonDivisor_0 rfl ?_
  refine e_mabs (pc' := 4) dX6_commonDivisor_1 rfl mw_530 mw_531 mw_109 mw_532 (Nat.le_of_ble_eq_true rfl) (Nat.le_of_ble_eq_true rfl) ?_
  refine e_lt h (fun v1 h => ?_)
  refine e_istore_n (pc' := 5) (i := 2) (lc' := [some (.int a0), some (.int a1), some (.int v1), none, none, none]) rfl dX6_commonDivisor_4 rfl (Nat.le_of_ble_eq_true rfl) rfl rfl ?_
  refine e_iload_n (pc' := 6) (i := 1) rfl rfl dX6_commonDivisor_5 rfl ?_
  refine e_mabs (pc' := 9) dX6_commonDivisor_6 rfl mw_530 mw_531 mw_109 mw_532 (Nat.le_of_ble_eq_true rfl) (Nat.le_of_ble_eq_true rfl) ?_
  refine e_lt h (fun v2 h => ?_)
  refine e_istore_n (pc' := 10) (i := 3) (lc' := [some (.int a0), some (.int a1), some (.int v1), some (.int v2), none, none]) rfl dX6_commonDivisor_9 rfl (Nat.le_of_ble_eq_true rfl) rfl rfl ?_
  refine e_iconst (v := 0) (pc' := 11) (by decide) dX6_commonDivisor_10 rfl ?_
  refine e_istore (pc' := 13) (i := 4) (lc' := [some (.int a0), some (.int a1), some (.int v1), some (.int v2), some (.int 0), none]) dX6_commonDivisor_11 rfl (Nat.le_of_ble_eq_true rfl) rfl rfl ?_
  exact e_weak (lc' := [none, none, some (.int v1), some (.int v2), some (.int 0), none]) (gle_n (gle_n (gle_s (gle_s (gle_s (gle_n gle_0)))))) (w_X6_commonDivisor_p13 I A L  _ _ _ _ _ h)
set_option maxHeartbeats 4000000 in
set_option maxRecDepth 100000 in
theorem c_X4_order_38 (a0 : Int32) (a1 : Int32) (a2 : Int32) (a3 : Int32) (a4 : Int32) {I : Nat → Int32} {A : Nat → Nat → Int32} {L : Nat → Int64} {t : Int32} (h : f_X4_order 38 I A L a0 a1 a2 a3 a4 = some t) : GM 70 yX4_order cX4_order 9 (some .int) 0 [.ref 38, .int a0, .int a1, .int a2, .int a3, .int a4] I A L (some (.int t), (I, A, L)) := by
  refine gm_of (n := 3) (lc := [some (.ref 38), some (.int a0), some (.int a1), some (.int a2), some (.int a3), some (.int a4), none, none, none]) (by decide +kernel) rfl (fun _ => Nat.le_of_ble_eq_true rfl) ?_
  change Ev 70 RX4 cX4_order 9 (some .int) 0 0 [some (.ref 38), some (.int a0), some (.int a1), some (.int a2), some (.int a3), some (.int a4), none, none, none] [] I A L _
  unfold f_X4_order at h
  refine e_aload_n (pc' := 1) (i := 0) rfl rfl dX4_order_0 rfl ?_
  refine e_getR (a := 38) (b := 39) (k0 := 0) (pc' := 4) dX4_order_1 rfl rfl (Nat.le_of_ble_eq_true rfl) (Nat.le_of_ble_eq_true rfl) rfl mw_236 rfl ?_
  refine e_iload_n (pc' := 5) (i := 1) rfl rfl dX4_order_4 rfl ?_
  refine e_iald (n := 60) (pc' := 6) dX4_order_5 rfl rfl (Nat.le_of_ble_eq_true rfl) h (fun h => ?_)
  refine e_iload (pc' := 8) (i := 5) rfl dX4_order_6 rfl ?_
  refine e_imul (pc' := 9) dX4_order_8 rfl ?_
  refine e_iload_n (pc' := 10) (i := 2) rfl rfl dX4_order_9 rfl ?_
  refine e_aload_n (pc' := 11) (i := 0) rfl rfl dX4_order_10 rfl ?_
  refine e_getR (a := 38) (b := 42) (k0 := 3) (pc' := 14) dX4_order_11 rfl rfl (Nat.le_of_ble_eq_true rfl) (Nat.le_of_ble_eq_true rfl) rfl mw_239 rfl ?_
  refine e_iload_n (pc' := 15) (i := 1) rfl rfl dX4_order_14 rfl ?_
  refine e_iald (n := 60) (pc' := 16) dX4_order_15 rfl rfl (Nat.le_of_ble_eq_true rfl) h (fun h => ?_)
  refine e_imul (pc' := 17) dX4_order_16 rfl ?_
  refine e_isub (pc' := 18) dX4_order_17 rfl ?_
  refine e_lt h (fun v1 h => ?_)
  refine e_istore (pc' := 20) (i := 6) (lc' := [some (.ref 38), some (.int a0), some (.int a1), some (.int a2), some (.int a3), some (.int a4), some (.int v1), none, none]) dX4_order_18 rfl (Nat.le_of_ble_eq_true rfl) rfl rfl ?_
  refine e_aload_n (pc' := 21) (i := 0) rfl rfl dX4_order_20 rfl ?_
  refine e_getR (a := 38) (b := 40) (k0 := 1) (pc' := 24) dX4_order_21 rfl rfl (Nat.le_of_ble_eq_true rfl) (Nat.le_of_ble_eq_true rfl) rfl mw_237 rfl ?_
  refine e_iload_n (pc' := 25) (i := 1) rfl rfl dX4_order_24 rfl ?_
  refine e_iald (n := 60) (pc' := 26) dX4_order_25 rfl rfl (Nat.le_of_ble_eq_true rfl) h (fun h => ?_)
  refine e_iload (pc' := 28) (i := 5) rfl dX4_order_26 rfl ?_
  refine e_imul (pc' := 29) dX4_order_28 rfl ?_
  refine e_iload_n (pc' := 30) (i := 3) rfl rfl dX4_order_29 rfl ?_
  refine e_aload_n (pc' := 31) (i := 0) rfl rfl dX4_order_30 rfl ?_
  refine e_getR (a := 38) (b := 42) (k0 := 3) (pc' := 34) dX4_order_31 rfl rfl (Nat.le_of_ble_eq_true rfl) (Nat.le_of_ble_eq_true rfl) rfl mw_239 rfl ?_
  refine e_iload_n (pc' := 35) (i := 1) rfl rfl dX4_order_34 rfl ?_
  refine e_iald (n := 60) (pc' := 36) dX4_order_35 rfl rfl (Nat.le_of_ble_eq_true rfl) h (fun h => ?_)
  refine e_imul (pc' := 37) dX4_order_36 rfl ?_
  refine e_isub (pc' := 38) dX4_order_37 rfl ?_
  refine e_lt h (fun v2 h => ?_)
  refine e_istore (pc' := 40) (i := 7) (lc' := [some (.ref 38), some (.int a0), some (.int a1), some (.int a2), some (.int a3), some (.int a4), some (.int v1), some (.int v2), none]) dX4_order_38 rfl (Nat.le_of_ble_eq_true rfl) rfl rfl ?_
  refine e_aload_n (pc' := 41) (i := 0) rfl rfl dX4_order_40 rfl ?_
  refine e_getR (a := 38) (b := 41) (k0 := 2) (pc' := 44) dX4_order_41 rfl rfl (Nat.le_of_ble_eq_true rfl) (Nat.le_of_ble_eq_true rfl) rfl mw_238 rfl ?_
  refine e_iload_n (pc' := 45) (i := 1) rfl rfl dX4_order_44 rfl ?_
  refine e_iald (n := 60) (pc' := 46) dX4_order_45 rfl rfl (Nat.le_of_ble_eq_true rfl) h (fun h => ?_)
  refine e_iload (pc' := 48) (i := 5) rfl dX4_order_46 rfl ?_
  refine e_imul (pc' := 49) dX4_order_48 rfl ?_
  refine e_iload (pc' := 51) (i := 4) rfl dX4_order_49 rfl ?_
  refine e_aload_n (pc' := 52) (i := 0) rfl rfl dX4_order_51 rfl ?_
  refine e_getR (a := 38) (b := 42) (k0 := 3) (pc' := 55) dX4_order_52 rfl rfl (Nat.le_of_ble_eq_true rfl) (Nat.le_of_ble_eq_true rfl) rfl mw_239 rfl ?_
  refine e_iload_n (pc' := 56) (i := 1) rfl rfl dX4_order_55 rfl ?_
  refine e_iald (n := 60) (pc' := 57) dX4_order_56 rfl rfl (Nat.le_of_ble_eq_true rfl) h (fun h => ?_)
  refine e_imul (pc' := 58) dX4_order_57 rfl ?_
  refine e_isub (pc' := 59) dX4_order_58 rfl ?_
  refine e_lt h (fun v3 h => ?_)
  refine e_istore (pc' := 61) (i := 8) (lc' := [some (.ref 38), some (.int a0), some (.int a1), some (.int a2), some (.int a3), some (.int a4), some (.int v1), some (.int v2), some (.int v3)]) dX4_order_59 rfl (Nat.le_of_ble_eq_true rfl) rfl rfl ?_
  refine e_iload (pc' := 63) (i := 6) rfl dX4_order_61 rfl ?_
  refine e_if_eq (tgt := 71) (pc' := 66) dX4_order_63 (by decide) rfl h (fun h => ?_) (fun h => ?_)
  · refine e_iload (pc' := 73) (i := 7) rfl dX4_order_71 rfl ?_
    refine e_if_eq (tgt := 81) (pc' := 76) dX4_order_73 (by decide) rfl h (fun h => ?_) (fun h => ?_)
    · refine e_iload (pc' := 83) (i := 8) rfl dX4_order_81 rfl ?_
      obtain rfl := g_re1 h
      exact e_iret dX4_order_83
    · refine e_iload (pc' := 78) (i := 7) rfl dX4_order_76 rfl ?_
      refine e_goto (tgt := 83) dX4_order_78 (by decide) ?_
      obtain rfl := g_re1 h
      exact e_iret dX4_order_83
  · refine e_iload (pc' := 68) (i := 6) rfl dX4_order_66 rfl ?_
    refine e_goto (tgt := 83) dX4_order_68 (by decide) ?_
    obtain rfl := g_re1 h
    exact e_iret dX4_order_83
set_option maxHeartbeats 4000000 in
set_option maxRecDepth 100000 in
theorem w_X4_placeOf_38_p12 (I : Nat → Int32) (A : Nat → Nat → Int32) (L : Nat → Int64) : ∀ (n : Nat) (x1 : Int32) (x2 : Int32) (x3 : Int32) (x4 : Int32) (x5 : Int32) (x6 : Int32) (x7 : Int32) (t : Int32), f_X4_placeOf_p12 38 I A L n x1 x2 x3 x4 x5 x6 x7 = some t → Ev 70 RX4 cX4_placeOf 9 (some .int) 1 12 [some (.ref 38), some (.int x1), some (.int x2), some (.int x3), some (.int x4), some (.int x5), some (.int x6), some (.int x7), none] [] I A L (some (.int t), (I, A, L)) := by
  intro n
  induction n with
  | zero =>
    intro x1 x2 x3 x4 x5 x6 x7 t h
    cases h
  | succ n ih =>
    intro x1 x2 x3 x4 x5 x6 x7 t h
    rw [f_X4_placeOf_p12] at h
    refine e_iload (pc' := 14) (i := 7) rfl dX4_placeOf_12 rfl ?_
    refine e_bipush (v := 60) (pc' := 16) (by decide) dX4_placeOf_14 rfl ?_
    refine e_icmp_ge (tgt := 68) (pc' := 19) dX4_placeOf_16 (by decide) rfl h (fun h => ?_) (fun h => ?_)
    · refine e_iload (pc' := 70) (i := 5) rfl dX4_placeOf_68 rfl ?_
      obtain rfl := g_re1 h
      exact e_iret dX4_placeOf_70
    · refine e_iload (pc' := 21) (i := 5) rfl dX4_placeOf_19 rfl ?_
      refine e_iload (pc' := 23) (i := 6) rfl dX4_placeOf_21 rfl ?_
      refine e_icmp_ge (tgt := 68) (pc' := 26) dX4_placeOf_23 (by decide) rfl h (fun h => ?_) (fun h => ?_)
      · refine e_iload (pc' := 70) (i := 5) rfl dX4_placeOf_68 rfl ?_
        obtain rfl := g_re1 h
        exact e_iret dX4_placeOf_70
      · refine e_iload (pc' := 28) (i := 5) rfl dX4_placeOf_26 rfl ?_
        refine e_iload (pc' := 30) (i := 6) rfl dX4_placeOf_28 rfl ?_
        refine e_iadd (pc' := 31) dX4_placeOf_30 rfl ?_
        refine e_iconst (v := 2) (pc' := 32) (by decide) dX4_placeOf_31 rfl ?_
        refine e_idiv (pc' := 33) (by decide) dX4_placeOf_32 rfl ?_
        refine e_lt h (fun v1 h => ?_)
        refine e_istore (pc' := 35) (i := 8) (lc' := [some (.ref 38), some (.int x1), some (.int x2), some (.int x3), some (.int x4), some (.int x5), some (.int x6), some (.int x7), some (.int v1)]) dX4_placeOf_33 rfl (Nat.le_of_ble_eq_true rfl) rfl rfl ?_
        refine e_aload_n (pc' := 36) (i := 0) rfl rfl dX4_placeOf_35 rfl ?_
        refine e_iload (pc' := 38) (i := 8) rfl dX4_placeOf_36 rfl ?_
        refine e_iload_n (pc' := 39) (i := 1) rfl rfl dX4_placeOf_38 rfl ?_
        refine e_iload_n (pc' := 40) (i := 2) rfl rfl dX4_placeOf_39 rfl ?_
        refine e_iload_n (pc' := 41) (i := 3) rfl rfl dX4_placeOf_40 rfl ?_
        refine e_iload (pc' := 43) (i := 4) rfl dX4_placeOf_41 rfl ?_
        obtain ⟨v3, hF2, h⟩ := g_bd_e h
        refine e_callV_i (pc' := 46) dX4_placeOf_43 rfl mw_537 mv_X4_order rfl (Nat.le_of_ble_eq_true rfl) (Nat.le_of_ble_eq_true rfl) rfl (Nat.le_of_ble_eq_true rfl) (Nat.le_of_ble_eq_true rfl) rfl (c_X4_order_38 _ _ _ _ _ hF2) rfl ?_
        refine e_if_ge (tgt := 58) (pc' := 49) dX4_placeOf_46 (by decide) rfl h (fun h => ?_) (fun h => ?_)
        · refine e_iload (pc' := 60) (i := 8) rfl dX4_placeOf_58 rfl ?_
          refine e_istore (pc' := 62) (i := 6) (lc' := [some (.ref 38), some (.int x1), some (.int x2), some (.int x3), some (.int x4), some (.int x5), some (.int v1), some (.int x7), some (.int v1)]) dX4_placeOf_60 rfl (Nat.le_of_ble_eq_true rfl) rfl rfl ?_
          refine e_iinc (pc' := 65) (v := (x7 + 1)) (lc' := [some (.ref 38), some (.int x1), some (.int x2), some (.int x3), some (.int x4), some (.int x5), some (.int v1), some (.int (x7 + 1)), some (.int v1)]) dX4_placeOf_62 rfl rfl rfl (Nat.le_of_ble_eq_true rfl) rfl rfl ?_
          refine e_goto (tgt := 12) dX4_placeOf_65 (by decide) ?_
          exact e_weak (lc' := [some (.ref 38), some (.int x1), some (.int x2), some (.int x3), some (.int x4), some (.int x5), some (.int v1), some (.int (x7 + 1)), none]) (gle_s (gle_s (gle_s (gle_s (gle_s (gle_s (gle_s (gle_s (gle_n gle_0))))))))) (ih _ _ _ _ _ _ _ _ h)
        · refine e_iload (pc' := 51) (i := 8) rfl dX4_placeOf_49 rfl ?_
          refine e_iconst (v := 1) (pc' := 52) (by decide) dX4_placeOf_51 rfl ?_
          refine e_iadd (pc' := 53) dX4_placeOf_52 rfl ?_
          refine e_istore (pc' := 55) (i := 5) (lc' := [some (.ref 38), some (.int x1), some (.int x2), some (.int x3), some (.int x4), some (.int (v1 + 1)), some (.int x6), some (.int x7), some (.int v1)]) dX4_placeOf_53 rfl (Nat.le_of_ble_eq_true rfl) rfl rfl ?_
          refine e_goto (tgt := 62) dX4_placeOf_55 (by decide) ?_
          refine e_iinc (pc' := 65) (v := (x7 + 1)) (lc' := [some (.ref 38), some (.int x1), some (.int x2), some (.int x3), some (.int x4), some (.int (v1 + 1)), some (.int x6), some (.int (x7 + 1)), some (.int v1)]) dX4_placeOf_62 rfl rfl rfl (Nat.le_of_ble_eq_true rfl) rfl rfl ?_
          refine e_goto (tgt := 12) dX4_placeOf_65 (by decide) ?_
          exact e_weak (lc' := [some (.ref 38), some (.int x1), some (.int x2), some (.int x3), some (.int x4), some (.int (v1 + 1)), some (.int x6), some (.int (x7 + 1)), none]) (gle_s (gle_s (gle_s (gle_s (gle_s (gle_s (gle_s (gle_s (gle_n gle_0))))))))) (ih _ _ _ _ _ _ _ _ h)
set_option maxHeartbeats 4000000 in
set_option maxRecDepth 100000 in
theorem c_X4_placeOf_38 (a0 : Int32) (a1 : Int32) (a2 : Int32) (a3 : Int32) {I : Nat → Int32} {A : Nat → Nat → Int32} {L : Nat → Int64} {t : Int32} (h : f_X4_placeOf 38 I A L a0 a1 a2 a3 = some t) : GM 70 yX4_placeOf cX4_placeOf 9 (some .int) 1 [.ref 38, .int a0, .int a1, .int a2, .int a3] I A L (some (.int t), (I, A, L)) := by
  refine gm_of (n := 4) (lc := [some (.ref 38), some (.int a0), some (.int a1), some (.int a2), some (.int a3), none, none, none, none]) (by decide +kernel) rfl (fun _ => Nat.le_of_ble_eq_true rfl) ?_
  change Ev 70 RX4 cX4_placeOf 9 (some .int) 1 0 [some (.ref 38), some (.int a0), some (.int a1), some (.int a2), some (.int a3), none, none, none, none] [] I A L _
  unfold f_X4_placeOf at h
  refine e_iconst (v := 0) (pc' := 1) (by decide) dX4_placeOf_0 rfl ?_
  refine e_istore (pc' := 3) (i := 5) (lc' := [some (.ref 38), some (.int a0), some (.int a1), some (.int a2), some (.int a3), some (.int 0), none, none, none]) dX4_placeOf_1 rfl (Nat.le_of_ble_eq_true rfl) rfl rfl ?_
  refine e_aload_n (pc' := 4) (i := 0) rfl rfl dX4_placeOf_3 rfl ?_
  refine e_getI (a := 38) (n := 615) (k0 := 7) (pc' := 7) dX4_placeOf_4 rfl rfl (Nat.le_of_ble_eq_true rfl) (Nat.le_of_ble_eq_true rfl) rfl mw_246 rfl ?_
  refine e_lt h (fun v1 h => ?_)
  refine e_istore (pc' := 9) (i := 6) (lc' := [some (.ref 38), some (.int a0), some (.int a1), some (.int a2), some (.int a3), some (.int 0), some (.int v1), none, none]) dX4_placeOf_7 rfl (Nat.le_of_ble_eq_true rfl) rfl rfl ?_
  refine e_iconst (v := 0) (pc' := 10) (by decide) dX4_placeOf_9 rfl ?_
  refine e_istore (pc' := 12) (i := 7) (lc' := [some (.ref 38), some (.int a0), some (.int a1), some (.int a2), some (.int a3), some (.int 0), some (.int v1), some (.int 0), none]) dX4_placeOf_10 rfl (Nat.le_of_ble_eq_true rfl) rfl rfl ?_
  exact e_weak (lc' := [some (.ref 38), some (.int a0), some (.int a1), some (.int a2), some (.int a3), some (.int 0), some (.int v1), some (.int 0), none]) (gle_s (gle_s (gle_s (gle_s (gle_s (gle_s (gle_s (gle_s (gle_n gle_0))))))))) (w_X4_placeOf_38_p12 I A L  _ _ _ _ _ _ _ _ _ h)
set_option maxHeartbeats 4000000 in
set_option maxRecDepth 100000 in
theorem w_X4_keepPoint_38_p166  : ∀ (x3 : Int32) (x4 : Int32) (x5 : Int32) (x6 : Int32) (x8 : Int32) (I : Nat → Int32) (A : Nat → Nat → Int32) (L : Nat → Int64) (t : gS), f_X4_keepPoint_p166 38 x3 x4 x5 x6 x8 I A L = some t → Ev 70 RX4 cX4_keepPoint 9 none 2 166 [some (.ref 38), none, none, some (.int x3), some (.int x4), some (.int x5), some (.int x6), none, some (.int x8)] [] I A L (none, t) := by
  intro x3 x4 x5 x6 x8 I A L t h
  unfold f_X4_keepPoint_p166 at h
  refine e_aload_n (pc' := 167) (i := 0) rfl rfl dX4_keepPoint_166 rfl ?_
  refine e_iload (pc' := 169) (i := 8) rfl dX4_keepPoint_167 rfl ?_
  refine e_iload_n (pc' := 170) (i := 3) rfl rfl dX4_keepPoint_169 rfl ?_
  refine e_iload (pc' := 172) (i := 4) rfl dX4_keepPoint_170 rfl ?_
  refine e_iload (pc' := 174) (i := 5) rfl dX4_keepPoint_172 rfl ?_
  refine e_iload (pc' := 176) (i := 6) rfl dX4_keepPoint_174 rfl ?_
  obtain ⟨I2, A3, L4, hF1, h⟩ := g_b1_e h
  refine e_callV_v (pc' := 179) dX4_keepPoint_176 rfl mw_541 mv_X4_putCorner rfl (Nat.le_of_ble_eq_true rfl) (Nat.le_of_ble_eq_true rfl) rfl (Nat.le_of_ble_eq_true rfl) (Nat.le_of_ble_eq_true rfl) rfl (c_X4_putCorner_38 _ _ _ _ _ hF1) rfl ?_
  obtain rfl := g_re1 h
  exact e_vret dX4_keepPoint_179
set_option maxHeartbeats 4000000 in
set_option maxRecDepth 100000 in
theorem c_X4_keepPoint_38 (a0 : Int32) (a1 : Int32) {I : Nat → Int32} {A : Nat → Nat → Int32} {L : Nat → Int64} {I' : Nat → Int32} {A' : Nat → Nat → Int32} {L' : Nat → Int64} (h : f_X4_keepPoint 38 a0 a1 I A L = some (I', A', L')) : GM 70 yX4_keepPoint cX4_keepPoint 9 none 2 [.ref 38, .int a0, .int a1] I A L (none, (I', A', L')) := by
  refine gm_of (n := 6) (lc := [some (.ref 38), some (.int a0), some (.int a1), none, none, none, none, none, none]) (by decide +kernel) rfl (fun _ => Nat.le_of_ble_eq_true rfl) ?_
  change Ev 70 RX4 cX4_keepPoint 9 none 2 0 [some (.ref 38), some (.int a0), some (.int a1), none, none, none, none, none, none] [] I A L _
  unfold f_X4_keepPoint at h
  refine e_aload_n (pc' := 1) (i := 0) rfl rfl dX4_keepPoint_0 rfl ?_
  refine e_getR (a := 38) (b := 45) (k0 := 6) (pc' := 4) dX4_keepPoint_1 rfl rfl (Nat.le_of_ble_eq_true rfl) (Nat.le_of_ble_eq_true rfl) rfl mw_245 rfl ?_
  refine e_getIN (a := 45) (n := 723) (k0 := 3) (pc' := 7) dX4_keepPoint_4 rfl rfl (Nat.le_of_ble_eq_true rfl) (Nat.le_of_ble_eq_true rfl) rfl mw_198 rfl ?_
  refine e_iload_n (pc' := 8) (i := 2) rfl rfl dX4_keepPoint_7 rfl ?_
  refine e_imul (pc' := 9) dX4_keepPoint_8 rfl ?_
  refine e_aload_n (pc' := 10) (i := 0) rfl rfl dX4_keepPoint_9 rfl ?_
  refine e_getR (a := 38) (b := 45) (k0 := 6) (pc' := 13) dX4_keepPoint_10 rfl rfl (Nat.le_of_ble_eq_true rfl) (Nat.le_of_ble_eq_true rfl) rfl mw_245 rfl ?_
  refine e_getIN (a := 45) (n := 720) (k0 := 0) (pc' := 16) dX4_keepPoint_13 rfl rfl (Nat.le_of_ble_eq_true rfl) (Nat.le_of_ble_eq_true rfl) rfl mw_192 rfl ?_
  refine e_iload_n (pc' := 17) (i := 1) rfl rfl dX4_keepPoint_16 rfl ?_
  refine e_imul (pc' := 18) dX4_keepPoint_17 rfl ?_
  refine e_iadd (pc' := 19) dX4_keepPoint_18 rfl ?_
  refine e_lt h (fun v1 h => ?_)
  refine e_istore_n (pc' := 20) (i := 3) (lc' := [some (.ref 38), some (.int a0), some (.int a1), some (.int v1), none, none, none, none, none]) rfl dX4_keepPoint_19 rfl (Nat.le_of_ble_eq_true rfl) rfl rfl ?_
  refine e_aload_n (pc' := 21) (i := 0) rfl rfl dX4_keepPoint_20 rfl ?_
  refine e_getR (a := 38) (b := 45) (k0 := 6) (pc' := 24) dX4_keepPoint_21 rfl rfl (Nat.le_of_ble_eq_true rfl) (Nat.le_of_ble_eq_true rfl) rfl mw_245 rfl ?_
  refine e_getIN (a := 45) (n := 724) (k0 := 4) (pc' := 27) dX4_keepPoint_24 rfl rfl (Nat.le_of_ble_eq_true rfl) (Nat.le_of_ble_eq_true rfl) rfl mw_200 rfl ?_
  refine e_iload_n (pc' := 28) (i := 2) rfl rfl dX4_keepPoint_27 rfl ?_
  refine e_imul (pc' := 29) dX4_keepPoint_28 rfl ?_
  refine e_aload_n (pc' := 30) (i := 0) rfl rfl dX4_keepPoint_29 rfl ?_
  refine e_getR (a := 38) (b := 45) (k0 := 6) (pc' := 33) dX4_keepPoint_30 rfl rfl (Nat.le_of_ble_eq_true rfl) (Nat.le_of_ble_eq_true rfl) rfl mw_245 rfl ?_
  refine e_getIN (a := 45) (n := 721) (k0 := 1) (pc' := 36) dX4_keepPoint_33 rfl rfl (Nat.le_of_ble_eq_true rfl) (Nat.le_of_ble_eq_true rfl) rfl mw_194 rfl ?_
  refine e_iload_n (pc' := 37) (i := 1) rfl rfl dX4_keepPoint_36 rfl ?_
  refine e_imul (pc' := 38) dX4_keepPoint_37 rfl ?_
  refine e_iadd (pc' := 39) dX4_keepPoint_38 rfl ?_
  refine e_lt h (fun v2 h => ?_)
  refine e_istore (pc' := 41) (i := 4) (lc' := [some (.ref 38), some (.int a0), some (.int a1), some (.int v1), some (.int v2), none, none, none, none]) dX4_keepPoint_39 rfl (Nat.le_of_ble_eq_true rfl) rfl rfl ?_
  refine e_aload_n (pc' := 42) (i := 0) rfl rfl dX4_keepPoint_41 rfl ?_
  refine e_getR (a := 38) (b := 45) (k0 := 6) (pc' := 45) dX4_keepPoint_42 rfl rfl (Nat.le_of_ble_eq_true rfl) (Nat.le_of_ble_eq_true rfl) rfl mw_245 rfl ?_
  refine e_getIN (a := 45) (n := 725) (k0 := 5) (pc' := 48) dX4_keepPoint_45 rfl rfl (Nat.le_of_ble_eq_true rfl) (Nat.le_of_ble_eq_true rfl) rfl mw_202 rfl ?_
  refine e_iload_n (pc' := 49) (i := 2) rfl rfl dX4_keepPoint_48 rfl ?_
  refine e_imul (pc' := 50) dX4_keepPoint_49 rfl ?_
  refine e_aload_n (pc' := 51) (i := 0) rfl rfl dX4_keepPoint_50 rfl ?_
  refine e_getR (a := 38) (b := 45) (k0 := 6) (pc' := 54) dX4_keepPoint_51 rfl rfl (Nat.le_of_ble_eq_true rfl) (Nat.le_of_ble_eq_true rfl) rfl mw_245 rfl ?_
  refine e_getIN (a := 45) (n := 722) (k0 := 2) (pc' := 57) dX4_keepPoint_54 rfl rfl (Nat.le_of_ble_eq_true rfl) (Nat.le_of_ble_eq_true rfl) rfl mw_196 rfl ?_
  refine e_iload_n (pc' := 58) (i := 1) rfl rfl dX4_keepPoint_57 rfl ?_
  refine e_imul (pc' := 59) dX4_keepPoint_58 rfl ?_
  refine e_iadd (pc' := 60) dX4_keepPoint_59 rfl ?_
  refine e_lt h (fun v3 h => ?_)
  refine e_istore (pc' := 62) (i := 5) (lc' := [some (.ref 38), some (.int a0), some (.int a1), some (.int v1), some (.int v2), some (.int v3), none, none, none]) dX4_keepPoint_60 rfl (Nat.le_of_ble_eq_true rfl) rfl rfl ?_
  refine e_aload_n (pc' := 63) (i := 0) rfl rfl dX4_keepPoint_62 rfl ?_
  refine e_getR (a := 38) (b := 45) (k0 := 6) (pc' := 66) dX4_keepPoint_63 rfl rfl (Nat.le_of_ble_eq_true rfl) (Nat.le_of_ble_eq_true rfl) rfl mw_245 rfl ?_
  refine e_getIN (a := 45) (n := 726) (k0 := 6) (pc' := 69) dX4_keepPoint_66 rfl rfl (Nat.le_of_ble_eq_true rfl) (Nat.le_of_ble_eq_true rfl) rfl mw_204 rfl ?_
  refine e_iload_n (pc' := 70) (i := 2) rfl rfl dX4_keepPoint_69 rfl ?_
  refine e_imul (pc' := 71) dX4_keepPoint_70 rfl ?_
  refine e_lt h (fun v4 h => ?_)
  refine e_istore (pc' := 73) (i := 6) (lc' := [some (.ref 38), some (.int a0), some (.int a1), some (.int v1), some (.int v2), some (.int v3), some (.int v4), none, none]) dX4_keepPoint_71 rfl (Nat.le_of_ble_eq_true rfl) rfl rfl ?_
  refine e_iload_n (pc' := 74) (i := 3) rfl rfl dX4_keepPoint_73 rfl ?_
  refine e_iload (pc' := 76) (i := 4) rfl dX4_keepPoint_74 rfl ?_
  obtain ⟨v6, hF5, h⟩ := g_bd_e h
  refine e_callSN_i (pc' := 79) dX4_keepPoint_76 rfl mw_527 ms_X6_commonDivisor rfl (Nat.le_of_ble_eq_true rfl) (Nat.le_of_ble_eq_true rfl) (c_X6_commonDivisor _ _ hF5) rfl ?_
  refine e_iload (pc' := 81) (i := 5) rfl dX4_keepPoint_79 rfl ?_
  refine e_iload (pc' := 83) (i := 6) rfl dX4_keepPoint_81 rfl ?_
  obtain ⟨v8, hF7, h⟩ := g_bd_e h
  refine e_callSN_i (pc' := 86) dX4_keepPoint_83 rfl mw_527 ms_X6_commonDivisor rfl (Nat.le_of_ble_eq_true rfl) (Nat.le_of_ble_eq_true rfl) (c_X6_commonDivisor _ _ hF7) rfl ?_
  obtain ⟨v10, hF9, h⟩ := g_bd_e h
  refine e_callSN_i (pc' := 89) dX4_keepPoint_86 rfl mw_527 ms_X6_commonDivisor rfl (Nat.le_of_ble_eq_true rfl) (Nat.le_of_ble_eq_true rfl) (c_X6_commonDivisor _ _ hF9) rfl ?_
  refine e_istore (pc' := 91) (i := 7) (lc' := [some (.ref 38), some (.int a0), some (.int a1), some (.int v1), some (.int v2), some (.int v3), some (.int v4), some (.int v10), none]) dX4_keepPoint_89 rfl (Nat.le_of_ble_eq_true rfl) rfl rfl ?_
  refine e_iload (pc' := 93) (i := 6) rfl dX4_keepPoint_91 rfl ?_
  refine e_if_le (tgt := 101) (pc' := 96) dX4_keepPoint_93 (by decide) rfl h (fun h => ?_) (fun h => ?_)
  · obtain ⟨rfl, rfl, rfl⟩ := g_re3 h
    exact e_vret dX4_keepPoint_101
  · refine e_iload (pc' := 98) (i := 7) rfl dX4_keepPoint_96 rfl ?_
    refine e_if_gt (tgt := 102) (pc' := 101) dX4_keepPoint_98 (by decide) rfl h (fun h => ?_) (fun h => ?_)
    · refine e_iload_n (pc' := 103) (i := 3) rfl rfl dX4_keepPoint_102 rfl ?_
      refine e_iload (pc' := 105) (i := 7) rfl dX4_keepPoint_103 rfl ?_
      obtain ⟨hz11, h⟩ := g_dv_e h
      refine e_idiv (pc' := 106) hz11 dX4_keepPoint_105 rfl ?_
      refine e_istore_n (pc' := 107) (i := 3) (lc' := [some (.ref 38), some (.int a0), some (.int a1), some (.int (v1 / v10)), some (.int v2), some (.int v3), some (.int v4), some (.int v10), none]) rfl dX4_keepPoint_106 rfl (Nat.le_of_ble_eq_true rfl) rfl rfl ?_
      refine e_iload (pc' := 109) (i := 4) rfl dX4_keepPoint_107 rfl ?_
      refine e_iload (pc' := 111) (i := 7) rfl dX4_keepPoint_109 rfl ?_
      obtain ⟨hz12, h⟩ := g_dv_e h
      refine e_idiv (pc' := 112) hz12 dX4_keepPoint_111 rfl ?_
      refine e_istore (pc' := 114) (i := 4) (lc' := [some (.ref 38), some (.int a0), some (.int a1), some (.int (v1 / v10)), some (.int (v2 / v10)), some (.int v3), some (.int v4), some (.int v10), none]) dX4_keepPoint_112 rfl (Nat.le_of_ble_eq_true rfl) rfl rfl ?_
      refine e_iload (pc' := 116) (i := 5) rfl dX4_keepPoint_114 rfl ?_
      refine e_iload (pc' := 118) (i := 7) rfl dX4_keepPoint_116 rfl ?_
      obtain ⟨hz13, h⟩ := g_dv_e h
      refine e_idiv (pc' := 119) hz13 dX4_keepPoint_118 rfl ?_
      refine e_istore (pc' := 121) (i := 5) (lc' := [some (.ref 38), some (.int a0), some (.int a1), some (.int (v1 / v10)), some (.int (v2 / v10)), some (.int (v3 / v10)), some (.int v4), some (.int v10), none]) dX4_keepPoint_119 rfl (Nat.le_of_ble_eq_true rfl) rfl rfl ?_
      refine e_iload (pc' := 123) (i := 6) rfl dX4_keepPoint_121 rfl ?_
      refine e_iload (pc' := 125) (i := 7) rfl dX4_keepPoint_123 rfl ?_
      obtain ⟨hz14, h⟩ := g_dv_e h
      refine e_idiv (pc' := 126) hz14 dX4_keepPoint_125 rfl ?_
      refine e_istore (pc' := 128) (i := 6) (lc' := [some (.ref 38), some (.int a0), some (.int a1), some (.int (v1 / v10)), some (.int (v2 / v10)), some (.int (v3 / v10)), some (.int (v4 / v10)), some (.int v10), none]) dX4_keepPoint_126 rfl (Nat.le_of_ble_eq_true rfl) rfl rfl ?_
      refine e_aload_n (pc' := 129) (i := 0) rfl rfl dX4_keepPoint_128 rfl ?_
      refine e_iload_n (pc' := 130) (i := 3) rfl rfl dX4_keepPoint_129 rfl ?_
      refine e_iload (pc' := 132) (i := 4) rfl dX4_keepPoint_130 rfl ?_
      refine e_iload (pc' := 134) (i := 5) rfl dX4_keepPoint_132 rfl ?_
      refine e_iload (pc' := 136) (i := 6) rfl dX4_keepPoint_134 rfl ?_
      obtain ⟨v16, hF15, h⟩ := g_bd_e h
      refine e_callV_i (pc' := 139) dX4_keepPoint_136 rfl mw_533 mv_X4_placeOf rfl (Nat.le_of_ble_eq_true rfl) (Nat.le_of_ble_eq_true rfl) rfl (Nat.le_of_ble_eq_true rfl) (Nat.le_of_ble_eq_true rfl) rfl (c_X4_placeOf_38 _ _ _ _ hF15) rfl ?_
      refine e_istore (pc' := 141) (i := 8) (lc' := [some (.ref 38), some (.int a0), some (.int a1), some (.int (v1 / v10)), some (.int (v2 / v10)), some (.int (v3 / v10)), some (.int (v4 / v10)), some (.int v10), some (.int v16)]) dX4_keepPoint_139 rfl (Nat.le_of_ble_eq_true rfl) rfl rfl ?_
      refine e_iload (pc' := 143) (i := 8) rfl dX4_keepPoint_141 rfl ?_
      refine e_aload_n (pc' := 144) (i := 0) rfl rfl dX4_keepPoint_143 rfl ?_
      refine e_getI (a := 38) (n := 615) (k0 := 7) (pc' := 147) dX4_keepPoint_144 rfl rfl (Nat.le_of_ble_eq_true rfl) (Nat.le_of_ble_eq_true rfl) rfl mw_246 rfl ?_
      refine e_icmp_ge (tgt := 166) (pc' := 150) dX4_keepPoint_147 (by decide) rfl h (fun h => ?_) (fun h => ?_)
      · exact e_weak (lc' := [some (.ref 38), none, none, some (.int (v1 / v10)), some (.int (v2 / v10)), some (.int (v3 / v10)), some (.int (v4 / v10)), none, some (.int v16)]) (gle_s (gle_n (gle_n (gle_s (gle_s (gle_s (gle_s (gle_n (gle_s gle_0))))))))) (w_X4_keepPoint_38_p166  _ _ _ _ _ _ _ _ _ h)
      · refine e_aload_n (pc' := 151) (i := 0) rfl rfl dX4_keepPoint_150 rfl ?_
        refine e_iload (pc' := 153) (i := 8) rfl dX4_keepPoint_151 rfl ?_
        refine e_iload_n (pc' := 154) (i := 3) rfl rfl dX4_keepPoint_153 rfl ?_
        refine e_iload (pc' := 156) (i := 4) rfl dX4_keepPoint_154 rfl ?_
        refine e_iload (pc' := 158) (i := 5) rfl dX4_keepPoint_156 rfl ?_
        refine e_iload (pc' := 160) (i := 6) rfl dX4_keepPoint_158 rfl ?_
        obtain ⟨v18, hF17, h⟩ := g_bd_e h
        refine e_callV_i (pc' := 163) dX4_keepPoint_160 rfl mw_537 mv_X4_order rfl (Nat.le_of_ble_eq_true rfl) (Nat.le_of_ble_eq_true rfl) rfl (Nat.le_of_ble_eq_true rfl) (Nat.le_of_ble_eq_true rfl) rfl (c_X4_order_38 _ _ _ _ _ hF17) rfl ?_
        refine e_if_eq (tgt := 179) (pc' := 166) dX4_keepPoint_163 (by decide) rfl h (fun h => ?_) (fun h => ?_)
        · obtain ⟨rfl, rfl, rfl⟩ := g_re3 h
          exact e_vret dX4_keepPoint_179
        · exact e_weak (lc' := [some (.ref 38), none, none, some (.int (v1 / v10)), some (.int (v2 / v10)), some (.int (v3 / v10)), some (.int (v4 / v10)), none, some (.int v16)]) (gle_s (gle_n (gle_n (gle_s (gle_s (gle_s (gle_s (gle_n (gle_s gle_0))))))))) (w_X4_keepPoint_38_p166  _ _ _ _ _ _ _ _ _ h)
    · obtain ⟨rfl, rfl, rfl⟩ := g_re3 h
      exact e_vret dX4_keepPoint_101
set_option maxHeartbeats 4000000 in
set_option maxRecDepth 100000 in
theorem w_X4_cut_38_1_p20  (k7 : Int32 → Int32 → (Nat → Int32) → (Nat → Nat → Int32) → (Nat → Int64) → Option gS) (hk7 : ∀ (x2 : Int32) (x3 : Int32) (I : Nat → Int32) (A : Nat → Nat → Int32) (L : Nat → Int64) (t : gS), k7 x2 x3 I A L = some t → Ev 70 RX4 cX4_cut 5 none 3 7 [some (.ref 38), some (.ref 1), some (.int x2), some (.int x3), none] [] I A L (none, t)) : ∀ (n : Nat) (x2 : Int32) (x3 : Int32) (x4 : Int32) (I : Nat → Int32) (A : Nat → Nat → Int32) (L : Nat → Int64) (t : gS), f_X4_cut_p20 38 1 k7 n x2 x3 x4 I A L = some t → Ev 70 RX4 cX4_cut 5 none 3 20 [some (.ref 38), some (.ref 1), some (.int x2), some (.int x3), some (.int x4)] [] I A L (none, t) := by
  intro n
  induction n with
  | zero =>
    intro x2 x3 x4 I A L t h
    cases h
  | succ n ih =>
    intro x2 x3 x4 I A L t h
    rw [f_X4_cut_p20] at h
    refine e_iload (pc' := 22) (i := 4) rfl dX4_cut_20 rfl ?_
    refine e_aload_n (pc' := 23) (i := 1) rfl rfl dX4_cut_22 rfl ?_
    refine e_getIN (a := 1) (n := 20) (k0 := 4) (pc' := 26) dX4_cut_23 rfl rfl (Nat.le_of_ble_eq_true rfl) (Nat.le_of_ble_eq_true rfl) rfl mw_143 rfl ?_
    refine e_icmp_ge (tgt := 108) (pc' := 29) dX4_cut_26 (by decide) rfl h (fun h => ?_) (fun h => ?_)
    · refine e_iinc (pc' := 111) (v := (x3 + 1)) (lc' := [some (.ref 38), some (.ref 1), some (.int x2), some (.int (x3 + 1)), some (.int x4)]) dX4_cut_108 rfl rfl rfl (Nat.le_of_ble_eq_true rfl) rfl rfl ?_
      refine e_goto (tgt := 7) dX4_cut_111 (by decide) ?_
      exact e_weak (lc' := [some (.ref 38), some (.ref 1), some (.int x2), some (.int (x3 + 1)), none]) (gle_s (gle_s (gle_s (gle_s (gle_n gle_0))))) (hk7 _ _ _ _ _ _ h)
    · refine e_iload_n (pc' := 30) (i := 3) rfl rfl dX4_cut_29 rfl ?_
      refine e_iload_n (pc' := 31) (i := 2) rfl rfl dX4_cut_30 rfl ?_
      refine e_icmp_eq (tgt := 102) (pc' := 34) dX4_cut_31 (by decide) rfl h (fun h => ?_) (fun h => ?_)
      · refine e_iinc (pc' := 105) (v := (x4 + 1)) (lc' := [some (.ref 38), some (.ref 1), some (.int x2), some (.int x3), some (.int (x4 + 1))]) dX4_cut_102 rfl rfl rfl (Nat.le_of_ble_eq_true rfl) rfl rfl ?_
        refine e_goto (tgt := 20) dX4_cut_105 (by decide) ?_
        exact e_weak (lc' := [some (.ref 38), some (.ref 1), some (.int x2), some (.int x3), some (.int (x4 + 1))]) (gle_s (gle_s (gle_s (gle_s (gle_s gle_0))))) (ih _ _ _ _ _ _ _ h)
      · refine e_iload (pc' := 36) (i := 4) rfl dX4_cut_34 rfl ?_
        refine e_iload_n (pc' := 37) (i := 2) rfl rfl dX4_cut_36 rfl ?_
        refine e_icmp_eq (tgt := 102) (pc' := 40) dX4_cut_37 (by decide) rfl h (fun h => ?_) (fun h => ?_)
        · refine e_iinc (pc' := 105) (v := (x4 + 1)) (lc' := [some (.ref 38), some (.ref 1), some (.int x2), some (.int x3), some (.int (x4 + 1))]) dX4_cut_102 rfl rfl rfl (Nat.le_of_ble_eq_true rfl) rfl rfl ?_
          refine e_goto (tgt := 20) dX4_cut_105 (by decide) ?_
          exact e_weak (lc' := [some (.ref 38), some (.ref 1), some (.int x2), some (.int x3), some (.int (x4 + 1))]) (gle_s (gle_s (gle_s (gle_s (gle_s gle_0))))) (ih _ _ _ _ _ _ _ h)
        · refine e_aload_n (pc' := 41) (i := 0) rfl rfl dX4_cut_40 rfl ?_
          refine e_getR (a := 38) (b := 45) (k0 := 6) (pc' := 44) dX4_cut_41 rfl rfl (Nat.le_of_ble_eq_true rfl) (Nat.le_of_ble_eq_true rfl) rfl mw_245 rfl ?_
          refine e_aload_n (pc' := 45) (i := 1) rfl rfl dX4_cut_44 rfl ?_
          refine e_iload_n (pc' := 46) (i := 3) rfl rfl dX4_cut_45 rfl ?_
          refine e_iload (pc' := 48) (i := 4) rfl dX4_cut_46 rfl ?_
          obtain ⟨v5, I2, A3, L4, hF1, h⟩ := g_b2_e h
          refine e_callVN_i (pc' := 51) dX4_cut_48 rfl mw_511 mv_X1_lay rfl (Nat.le_of_ble_eq_true rfl) (Nat.le_of_ble_eq_true rfl) rfl (Nat.le_of_ble_eq_true rfl) (Nat.le_of_ble_eq_true rfl) rfl (c_X1_lay_45_1 _ _ hF1) rfl ?_
          refine e_if_eq (tgt := 102) (pc' := 54) dX4_cut_51 (by decide) rfl h (fun h => ?_) (fun h => ?_)
          · refine e_iinc (pc' := 105) (v := (x4 + 1)) (lc' := [some (.ref 38), some (.ref 1), some (.int x2), some (.int x3), some (.int (x4 + 1))]) dX4_cut_102 rfl rfl rfl (Nat.le_of_ble_eq_true rfl) rfl rfl ?_
            refine e_goto (tgt := 20) dX4_cut_105 (by decide) ?_
            exact e_weak (lc' := [some (.ref 38), some (.ref 1), some (.int x2), some (.int x3), some (.int (x4 + 1))]) (gle_s (gle_s (gle_s (gle_s (gle_s gle_0))))) (ih _ _ _ _ _ _ _ h)
          · refine e_aload_n (pc' := 55) (i := 0) rfl rfl dX4_cut_54 rfl ?_
            refine e_getR (a := 38) (b := 45) (k0 := 6) (pc' := 58) dX4_cut_55 rfl rfl (Nat.le_of_ble_eq_true rfl) (Nat.le_of_ble_eq_true rfl) rfl mw_245 rfl ?_
            refine e_aload_n (pc' := 59) (i := 1) rfl rfl dX4_cut_58 rfl ?_
            refine e_iload_n (pc' := 60) (i := 2) rfl rfl dX4_cut_59 rfl ?_
            obtain ⟨v10, I7, A8, L9, hF6, h⟩ := g_b2_e h
            refine e_callVN_i (pc' := 63) dX4_cut_60 rfl mw_515 mv_X1_isLeftBy rfl (Nat.le_of_ble_eq_true rfl) (Nat.le_of_ble_eq_true rfl) rfl (Nat.le_of_ble_eq_true rfl) (Nat.le_of_ble_eq_true rfl) rfl (c_X1_isLeftBy_45_1 _ hF6) rfl ?_
            refine e_if_eq (tgt := 102) (pc' := 66) dX4_cut_63 (by decide) rfl h (fun h => ?_) (fun h => ?_)
            · refine e_iinc (pc' := 105) (v := (x4 + 1)) (lc' := [some (.ref 38), some (.ref 1), some (.int x2), some (.int x3), some (.int (x4 + 1))]) dX4_cut_102 rfl rfl rfl (Nat.le_of_ble_eq_true rfl) rfl rfl ?_
              refine e_goto (tgt := 20) dX4_cut_105 (by decide) ?_
              exact e_weak (lc' := [some (.ref 38), some (.ref 1), some (.int x2), some (.int x3), some (.int (x4 + 1))]) (gle_s (gle_s (gle_s (gle_s (gle_s gle_0))))) (ih _ _ _ _ _ _ _ h)
            · refine e_aload_n (pc' := 67) (i := 0) rfl rfl dX4_cut_66 rfl ?_
              refine e_aload_n (pc' := 68) (i := 0) rfl rfl dX4_cut_67 rfl ?_
              refine e_getR (a := 38) (b := 45) (k0 := 6) (pc' := 71) dX4_cut_68 rfl rfl (Nat.le_of_ble_eq_true rfl) (Nat.le_of_ble_eq_true rfl) rfl mw_245 rfl ?_
              refine e_getIN (a := 45) (n := 727) (k0 := 7) (pc' := 74) dX4_cut_71 rfl rfl (Nat.le_of_ble_eq_true rfl) (Nat.le_of_ble_eq_true rfl) rfl mw_205 rfl ?_
              refine e_aload_n (pc' := 75) (i := 0) rfl rfl dX4_cut_74 rfl ?_
              refine e_getR (a := 38) (b := 45) (k0 := 6) (pc' := 78) dX4_cut_75 rfl rfl (Nat.le_of_ble_eq_true rfl) (Nat.le_of_ble_eq_true rfl) rfl mw_245 rfl ?_
              refine e_getIN (a := 45) (n := 728) (k0 := 8) (pc' := 81) dX4_cut_78 rfl rfl (Nat.le_of_ble_eq_true rfl) (Nat.le_of_ble_eq_true rfl) rfl mw_207 rfl ?_
              obtain ⟨I12, A13, L14, hF11, h⟩ := g_b1_e h
              refine e_callV_v (pc' := 84) dX4_cut_81 rfl mw_523 mv_X4_keepPoint rfl (Nat.le_of_ble_eq_true rfl) (Nat.le_of_ble_eq_true rfl) rfl (Nat.le_of_ble_eq_true rfl) (Nat.le_of_ble_eq_true rfl) rfl (c_X4_keepPoint_38 _ _ hF11) rfl ?_
              refine e_aload_n (pc' := 85) (i := 0) rfl rfl dX4_cut_84 rfl ?_
              refine e_aload_n (pc' := 86) (i := 0) rfl rfl dX4_cut_85 rfl ?_
              refine e_getR (a := 38) (b := 45) (k0 := 6) (pc' := 89) dX4_cut_86 rfl rfl (Nat.le_of_ble_eq_true rfl) (Nat.le_of_ble_eq_true rfl) rfl mw_245 rfl ?_
              refine e_getIN (a := 45) (n := 729) (k0 := 9) (pc' := 92) dX4_cut_89 rfl rfl (Nat.le_of_ble_eq_true rfl) (Nat.le_of_ble_eq_true rfl) rfl mw_209 rfl ?_
              refine e_aload_n (pc' := 93) (i := 0) rfl rfl dX4_cut_92 rfl ?_
              refine e_getR (a := 38) (b := 45) (k0 := 6) (pc' := 96) dX4_cut_93 rfl rfl (Nat.le_of_ble_eq_true rfl) (Nat.le_of_ble_eq_true rfl) rfl mw_245 rfl ?_
              refine e_getIN (a := 45) (n := 730) (k0 := 10) (pc' := 99) dX4_cut_96 rfl rfl (Nat.le_of_ble_eq_true rfl) (Nat.le_of_ble_eq_true rfl) rfl mw_211 rfl ?_
              obtain ⟨I16, A17, L18, hF15, h⟩ := g_b1_e h
              refine e_callV_v (pc' := 102) dX4_cut_99 rfl mw_523 mv_X4_keepPoint rfl (Nat.le_of_ble_eq_true rfl) (Nat.le_of_ble_eq_true rfl) rfl (Nat.le_of_ble_eq_true rfl) (Nat.le_of_ble_eq_true rfl) rfl (c_X4_keepPoint_38 _ _ hF15) rfl ?_
              refine e_iinc (pc' := 105) (v := (x4 + 1)) (lc' := [some (.ref 38), some (.ref 1), some (.int x2), some (.int x3), some (.int (x4 + 1))]) dX4_cut_102 rfl rfl rfl (Nat.le_of_ble_eq_true rfl) rfl rfl ?_
              refine e_goto (tgt := 20) dX4_cut_105 (by decide) ?_
              exact e_weak (lc' := [some (.ref 38), some (.ref 1), some (.int x2), some (.int x3), some (.int (x4 + 1))]) (gle_s (gle_s (gle_s (gle_s (gle_s gle_0))))) (ih _ _ _ _ _ _ _ h)
set_option maxHeartbeats 4000000 in
set_option maxRecDepth 100000 in
theorem w_X4_cut_38_1_p7  : ∀ (n : Nat) (x2 : Int32) (x3 : Int32) (I : Nat → Int32) (A : Nat → Nat → Int32) (L : Nat → Int64) (t : gS), f_X4_cut_p7 38 1 n x2 x3 I A L = some t → Ev 70 RX4 cX4_cut 5 none 3 7 [some (.ref 38), some (.ref 1), some (.int x2), some (.int x3), none] [] I A L (none, t) := by
  intro n
  induction n with
  | zero =>
    intro x2 x3 I A L t h
    cases h
  | succ n ih =>
    intro x2 x3 I A L t h
    rw [f_X4_cut_p7] at h
    refine e_iload_n (pc' := 8) (i := 3) rfl rfl dX4_cut_7 rfl ?_
    refine e_aload_n (pc' := 9) (i := 1) rfl rfl dX4_cut_8 rfl ?_
    refine e_getIN (a := 1) (n := 20) (k0 := 4) (pc' := 12) dX4_cut_9 rfl rfl (Nat.le_of_ble_eq_true rfl) (Nat.le_of_ble_eq_true rfl) rfl mw_143 rfl ?_
    refine e_icmp_ge (tgt := 114) (pc' := 15) dX4_cut_12 (by decide) rfl h (fun h => ?_) (fun h => ?_)
    · obtain rfl := g_re1 h
      exact e_vret dX4_cut_114
    · refine e_iload_n (pc' := 16) (i := 3) rfl rfl dX4_cut_15 rfl ?_
      refine e_iconst (v := 1) (pc' := 17) (by decide) dX4_cut_16 rfl ?_
      refine e_iadd (pc' := 18) dX4_cut_17 rfl ?_
      refine e_istore (pc' := 20) (i := 4) (lc' := [some (.ref 38), some (.ref 1), some (.int x2), some (.int x3), some (.int (x3 + 1))]) dX4_cut_18 rfl (Nat.le_of_ble_eq_true rfl) rfl rfl ?_
      exact e_weak (lc' := [some (.ref 38), some (.ref 1), some (.int x2), some (.int x3), some (.int (x3 + 1))]) (gle_s (gle_s (gle_s (gle_s (gle_s gle_0))))) (w_X4_cut_38_1_p20 _ ih _ _ _ _ _ _ _ _ h)
set_option maxHeartbeats 4000000 in
set_option maxRecDepth 100000 in
theorem c_X4_cut_38_1 (a0 : Int32) {I : Nat → Int32} {A : Nat → Nat → Int32} {L : Nat → Int64} {I' : Nat → Int32} {A' : Nat → Nat → Int32} {L' : Nat → Int64} (h : f_X4_cut 38 1 a0 I A L = some (I', A', L')) : GM 70 yX4_cut cX4_cut 5 none 3 [.ref 38, .ref 1, .int a0] I A L (none, (I', A', L')) := by
  refine gm_of (n := 2) (lc := [some (.ref 38), some (.ref 1), some (.int a0), none, none]) (by decide +kernel) rfl (fun _ => Nat.le_of_ble_eq_true rfl) ?_
  change Ev 70 RX4 cX4_cut 5 none 3 0 [some (.ref 38), some (.ref 1), some (.int a0), none, none] [] I A L _
  unfold f_X4_cut at h
  refine e_aload_n (pc' := 1) (i := 0) rfl rfl dX4_cut_0 rfl ?_
  refine e_iconst (v := 0) (pc' := 2) (by decide) dX4_cut_1 rfl ?_
  refine e_putI (a := 38) (n := 615) (k0 := 7) (pc' := 5) dX4_cut_2 rfl rfl (Nat.le_of_ble_eq_true rfl) (Nat.le_of_ble_eq_true rfl) rfl mw_246 rfl rfl g_pI rfl rfl ?_
  refine e_ltI h (fun I1 h => ?_)
  refine e_iconst (v := 0) (pc' := 6) (by decide) dX4_cut_5 rfl ?_
  refine e_istore_n (pc' := 7) (i := 3) (lc' := [some (.ref 38), some (.ref 1), some (.int a0), some (.int 0), none]) rfl dX4_cut_6 rfl (Nat.le_of_ble_eq_true rfl) rfl rfl ?_
  exact e_weak (lc' := [some (.ref 38), some (.ref 1), some (.int a0), some (.int 0), none]) (gle_s (gle_s (gle_s (gle_s (gle_n gle_0))))) (w_X4_cut_38_1_p7  _ _ _ _ _ _ _ h)
set_option maxHeartbeats 4000000 in
set_option maxRecDepth 100000 in
theorem c_X4_along_38 (a0 : Int32) (a1 : Int32) (a2 : Int32) (a3 : Int32) {I : Nat → Int32} {A : Nat → Nat → Int32} {L : Nat → Int64} {t : Int32} (h : f_X4_along 38 I A L a0 a1 a2 a3 = some t) : GM 70 yX4_along cX4_along 5 (some .int) 0 [.ref 38, .int a0, .int a1, .int a2, .int a3] I A L (some (.int t), (I, A, L)) := by
  refine gm_of (n := 0) (lc := [some (.ref 38), some (.int a0), some (.int a1), some (.int a2), some (.int a3)]) (by decide +kernel) rfl (fun _ => Nat.le_of_ble_eq_true rfl) ?_
  change Ev 70 RX4 cX4_along 5 (some .int) 0 0 [some (.ref 38), some (.int a0), some (.int a1), some (.int a2), some (.int a3)] [] I A L _
  unfold f_X4_along at h
  refine e_iload_n (pc' := 1) (i := 2) rfl rfl dX4_along_0 rfl ?_
  refine e_aload_n (pc' := 2) (i := 0) rfl rfl dX4_along_1 rfl ?_
  refine e_getR (a := 38) (b := 39) (k0 := 0) (pc' := 5) dX4_along_2 rfl rfl (Nat.le_of_ble_eq_true rfl) (Nat.le_of_ble_eq_true rfl) rfl mw_236 rfl ?_
  refine e_iload_n (pc' := 6) (i := 1) rfl rfl dX4_along_5 rfl ?_
  refine e_iald (n := 60) (pc' := 7) dX4_along_6 rfl rfl (Nat.le_of_ble_eq_true rfl) h (fun h => ?_)
  refine e_imul (pc' := 8) dX4_along_7 rfl ?_
  refine e_iload_n (pc' := 9) (i := 3) rfl rfl dX4_along_8 rfl ?_
  refine e_aload_n (pc' := 10) (i := 0) rfl rfl dX4_along_9 rfl ?_
  refine e_getR (a := 38) (b := 40) (k0 := 1) (pc' := 13) dX4_along_10 rfl rfl (Nat.le_of_ble_eq_true rfl) (Nat.le_of_ble_eq_true rfl) rfl mw_237 rfl ?_
  refine e_iload_n (pc' := 14) (i := 1) rfl rfl dX4_along_13 rfl ?_
  refine e_iald (n := 60) (pc' := 15) dX4_along_14 rfl rfl (Nat.le_of_ble_eq_true rfl) h (fun h => ?_)
  refine e_imul (pc' := 16) dX4_along_15 rfl ?_
  refine e_iadd (pc' := 17) dX4_along_16 rfl ?_
  refine e_iload (pc' := 19) (i := 4) rfl dX4_along_17 rfl ?_
  refine e_aload_n (pc' := 20) (i := 0) rfl rfl dX4_along_19 rfl ?_
  refine e_getR (a := 38) (b := 41) (k0 := 2) (pc' := 23) dX4_along_20 rfl rfl (Nat.le_of_ble_eq_true rfl) (Nat.le_of_ble_eq_true rfl) rfl mw_238 rfl ?_
  refine e_iload_n (pc' := 24) (i := 1) rfl rfl dX4_along_23 rfl ?_
  refine e_iald (n := 60) (pc' := 25) dX4_along_24 rfl rfl (Nat.le_of_ble_eq_true rfl) h (fun h => ?_)
  refine e_imul (pc' := 26) dX4_along_25 rfl ?_
  refine e_iadd (pc' := 27) dX4_along_26 rfl ?_
  obtain rfl := g_re1 h
  exact e_iret dX4_along_27
set_option maxHeartbeats 4000000 in
set_option maxRecDepth 100000 in
theorem w_X4_markCornersOn_38_1_p5  : ∀ (n : Nat) (x2 : Int32) (x3 : Int32) (x4 : Int32) (I : Nat → Int32) (A : Nat → Nat → Int32) (L : Nat → Int64) (t : (Int32 × gS)), f_X4_markCornersOn_p5 38 1 n x2 x3 x4 I A L = some t → Ev 70 RX4 cX4_markCornersOn 5 (some .int) 1 5 [some (.ref 38), some (.ref 1), some (.int x2), some (.int x3), some (.int x4)] [] I A L (some (.int t.1), t.2) := by
  intro n
  induction n with
  | zero =>
    intro x2 x3 x4 I A L t h
    cases h
  | succ n ih =>
    intro x2 x3 x4 I A L t h
    rw [f_X4_markCornersOn_p5] at h
    refine e_iload (pc' := 7) (i := 4) rfl dX4_markCornersOn_5 rfl ?_
    refine e_aload_n (pc' := 8) (i := 0) rfl rfl dX4_markCornersOn_7 rfl ?_
    refine e_getI (a := 38) (n := 615) (k0 := 7) (pc' := 11) dX4_markCornersOn_8 rfl rfl (Nat.le_of_ble_eq_true rfl) (Nat.le_of_ble_eq_true rfl) rfl mw_246 rfl ?_
    refine e_icmp_ge (tgt := 77) (pc' := 14) dX4_markCornersOn_11 (by decide) rfl h (fun h => ?_) (fun h => ?_)
    · refine e_iload_n (pc' := 78) (i := 3) rfl rfl dX4_markCornersOn_77 rfl ?_
      obtain rfl := g_re1 h
      exact e_iret dX4_markCornersOn_78
    · refine e_aload_n (pc' := 15) (i := 0) rfl rfl dX4_markCornersOn_14 rfl ?_
      refine e_iload (pc' := 17) (i := 4) rfl dX4_markCornersOn_15 rfl ?_
      refine e_aload_n (pc' := 18) (i := 1) rfl rfl dX4_markCornersOn_17 rfl ?_
      refine e_getRN (a := 1) (b := 2) (k0 := 0) (pc' := 21) dX4_markCornersOn_18 rfl rfl (Nat.le_of_ble_eq_true rfl) (Nat.le_of_ble_eq_true rfl) rfl mw_128 rfl ?_
      refine e_iload_n (pc' := 22) (i := 2) rfl rfl dX4_markCornersOn_21 rfl ?_
      refine e_iald (n := 32) (pc' := 23) dX4_markCornersOn_22 rfl rfl (Nat.le_of_ble_eq_true rfl) h (fun h => ?_)
      refine e_aload_n (pc' := 24) (i := 1) rfl rfl dX4_markCornersOn_23 rfl ?_
      refine e_getRN (a := 1) (b := 3) (k0 := 1) (pc' := 27) dX4_markCornersOn_24 rfl rfl (Nat.le_of_ble_eq_true rfl) (Nat.le_of_ble_eq_true rfl) rfl mw_132 rfl ?_
      refine e_iload_n (pc' := 28) (i := 2) rfl rfl dX4_markCornersOn_27 rfl ?_
      refine e_iald (n := 32) (pc' := 29) dX4_markCornersOn_28 rfl rfl (Nat.le_of_ble_eq_true rfl) h (fun h => ?_)
      refine e_aload_n (pc' := 30) (i := 1) rfl rfl dX4_markCornersOn_29 rfl ?_
      refine e_getRN (a := 1) (b := 4) (k0 := 2) (pc' := 33) dX4_markCornersOn_30 rfl rfl (Nat.le_of_ble_eq_true rfl) (Nat.le_of_ble_eq_true rfl) rfl mw_136 rfl ?_
      refine e_iload_n (pc' := 34) (i := 2) rfl rfl dX4_markCornersOn_33 rfl ?_
      refine e_iald (n := 32) (pc' := 35) dX4_markCornersOn_34 rfl rfl (Nat.le_of_ble_eq_true rfl) h (fun h => ?_)
      obtain ⟨v2, hF1, h⟩ := g_bd_e h
      refine e_callV_i (pc' := 38) dX4_markCornersOn_35 rfl mw_556 mv_X4_along rfl (Nat.le_of_ble_eq_true rfl) (Nat.le_of_ble_eq_true rfl) rfl (Nat.le_of_ble_eq_true rfl) (Nat.le_of_ble_eq_true rfl) rfl (c_X4_along_38 _ _ _ _ hF1) rfl ?_
      refine e_aload_n (pc' := 39) (i := 1) rfl rfl dX4_markCornersOn_38 rfl ?_
      refine e_getRN (a := 1) (b := 5) (k0 := 3) (pc' := 42) dX4_markCornersOn_39 rfl rfl (Nat.le_of_ble_eq_true rfl) (Nat.le_of_ble_eq_true rfl) rfl mw_141 rfl ?_
      refine e_iload_n (pc' := 43) (i := 2) rfl rfl dX4_markCornersOn_42 rfl ?_
      refine e_iald (n := 32) (pc' := 44) dX4_markCornersOn_43 rfl rfl (Nat.le_of_ble_eq_true rfl) h (fun h => ?_)
      refine e_aload_n (pc' := 45) (i := 0) rfl rfl dX4_markCornersOn_44 rfl ?_
      refine e_getR (a := 38) (b := 42) (k0 := 3) (pc' := 48) dX4_markCornersOn_45 rfl rfl (Nat.le_of_ble_eq_true rfl) (Nat.le_of_ble_eq_true rfl) rfl mw_239 rfl ?_
      refine e_iload (pc' := 50) (i := 4) rfl dX4_markCornersOn_48 rfl ?_
      refine e_iald (n := 60) (pc' := 51) dX4_markCornersOn_50 rfl rfl (Nat.le_of_ble_eq_true rfl) h (fun h => ?_)
      refine e_imul (pc' := 52) dX4_markCornersOn_51 rfl ?_
      refine e_icmp_ne (tgt := 71) (pc' := 55) dX4_markCornersOn_52 (by decide) rfl h (fun h => ?_) (fun h => ?_)
      · refine e_iinc (pc' := 74) (v := (x4 + 1)) (lc' := [some (.ref 38), some (.ref 1), some (.int x2), some (.int x3), some (.int (x4 + 1))]) dX4_markCornersOn_71 rfl rfl rfl (Nat.le_of_ble_eq_true rfl) rfl rfl ?_
        refine e_goto (tgt := 5) dX4_markCornersOn_74 (by decide) ?_
        exact e_weak (lc' := [some (.ref 38), some (.ref 1), some (.int x2), some (.int x3), some (.int (x4 + 1))]) (gle_s (gle_s (gle_s (gle_s (gle_s gle_0))))) (ih _ _ _ _ _ _ _ h)
      · refine e_aload_n (pc' := 56) (i := 0) rfl rfl dX4_markCornersOn_55 rfl ?_
        refine e_getR (a := 38) (b := 43) (k0 := 4) (pc' := 59) dX4_markCornersOn_56 rfl rfl (Nat.le_of_ble_eq_true rfl) (Nat.le_of_ble_eq_true rfl) rfl mw_241 rfl ?_
        refine e_iload (pc' := 61) (i := 4) rfl dX4_markCornersOn_59 rfl ?_
        refine e_dup2 (pc' := 62) rfl rfl dX4_markCornersOn_61 rfl ?_
        refine e_iald (n := 60) (pc' := 63) dX4_markCornersOn_62 rfl rfl (Nat.le_of_ble_eq_true rfl) h (fun h => ?_)
        refine e_iconst (v := 1) (pc' := 64) (by decide) dX4_markCornersOn_63 rfl ?_
        refine e_iload_n (pc' := 65) (i := 2) rfl rfl dX4_markCornersOn_64 rfl ?_
        refine e_ishl (pc' := 66) dX4_markCornersOn_65 rfl ?_
        refine e_ior (pc' := 67) dX4_markCornersOn_66 rfl ?_
        refine e_iast (n := 60) (pc' := 68) dX4_markCornersOn_67 rfl rfl (Nat.le_of_ble_eq_true rfl) h (fun h => ?_)
        refine e_ltA h (fun A3 h => ?_)
        refine e_iinc (pc' := 71) (v := (x3 + 1)) (lc' := [some (.ref 38), some (.ref 1), some (.int x2), some (.int (x3 + 1)), some (.int x4)]) dX4_markCornersOn_68 rfl rfl rfl (Nat.le_of_ble_eq_true rfl) rfl rfl ?_
        refine e_iinc (pc' := 74) (v := (x4 + 1)) (lc' := [some (.ref 38), some (.ref 1), some (.int x2), some (.int (x3 + 1)), some (.int (x4 + 1))]) dX4_markCornersOn_71 rfl rfl rfl (Nat.le_of_ble_eq_true rfl) rfl rfl ?_
        refine e_goto (tgt := 5) dX4_markCornersOn_74 (by decide) ?_
        exact e_weak (lc' := [some (.ref 38), some (.ref 1), some (.int x2), some (.int (x3 + 1)), some (.int (x4 + 1))]) (gle_s (gle_s (gle_s (gle_s (gle_s gle_0))))) (ih _ _ _ _ _ _ _ h)
set_option maxHeartbeats 4000000 in
set_option maxRecDepth 100000 in
theorem c_X4_markCornersOn_38_1 (a0 : Int32) {I : Nat → Int32} {A : Nat → Nat → Int32} {L : Nat → Int64} {t : Int32} {I' : Nat → Int32} {A' : Nat → Nat → Int32} {L' : Nat → Int64} (h : f_X4_markCornersOn 38 1 a0 I A L = some (t, I', A', L')) : GM 70 yX4_markCornersOn cX4_markCornersOn 5 (some .int) 1 [.ref 38, .ref 1, .int a0] I A L (some (.int t), (I', A', L')) := by
  refine gm_of (n := 2) (lc := [some (.ref 38), some (.ref 1), some (.int a0), none, none]) (by decide +kernel) rfl (fun _ => Nat.le_of_ble_eq_true rfl) ?_
  change Ev 70 RX4 cX4_markCornersOn 5 (some .int) 1 0 [some (.ref 38), some (.ref 1), some (.int a0), none, none] [] I A L _
  unfold f_X4_markCornersOn at h
  refine e_iconst (v := 0) (pc' := 1) (by decide) dX4_markCornersOn_0 rfl ?_
  refine e_istore_n (pc' := 2) (i := 3) (lc' := [some (.ref 38), some (.ref 1), some (.int a0), some (.int 0), none]) rfl dX4_markCornersOn_1 rfl (Nat.le_of_ble_eq_true rfl) rfl rfl ?_
  refine e_iconst (v := 0) (pc' := 3) (by decide) dX4_markCornersOn_2 rfl ?_
  refine e_istore (pc' := 5) (i := 4) (lc' := [some (.ref 38), some (.ref 1), some (.int a0), some (.int 0), some (.int 0)]) dX4_markCornersOn_3 rfl (Nat.le_of_ble_eq_true rfl) rfl rfl ?_
  exact e_weak (lc' := [some (.ref 38), some (.ref 1), some (.int a0), some (.int 0), some (.int 0)]) (gle_s (gle_s (gle_s (gle_s (gle_s gle_0))))) (w_X4_markCornersOn_38_1_p5  _ _ _ _ _ _ _ _ h)
set_option maxHeartbeats 4000000 in
set_option maxRecDepth 100000 in
theorem c_X2_areSame_1 (a0 : Int32) (a1 : Int32) {I : Nat → Int32} {A : Nat → Nat → Int32} {L : Nat → Int64} {t : Int32} (h : f_X2_areSame 1 I A L a0 a1 = some t) : GM 70 yX2_areSame cX2_areSame 3 (some .boolean) 0 [.ref 1, .int a0, .int a1] I A L (some (.int t), (I, A, L)) := by
  refine gm_of (n := 0) (lc := [some (.ref 1), some (.int a0), some (.int a1)]) (by decide +kernel) rfl (fun _ => Nat.le_of_ble_eq_true rfl) ?_
  change Ev 70 RX2 cX2_areSame 3 (some .boolean) 0 0 [some (.ref 1), some (.int a0), some (.int a1)] [] I A L _
  unfold f_X2_areSame at h
  refine e_aload_n (pc' := 1) (i := 0) rfl rfl dX2_areSame_0 rfl ?_
  refine e_getR (a := 1) (b := 2) (k0 := 0) (pc' := 4) dX2_areSame_1 rfl rfl (Nat.le_of_ble_eq_true rfl) (Nat.le_of_ble_eq_true rfl) rfl mw_126 rfl ?_
  refine e_iload_n (pc' := 5) (i := 1) rfl rfl dX2_areSame_4 rfl ?_
  refine e_iald (n := 32) (pc' := 6) dX2_areSame_5 rfl rfl (Nat.le_of_ble_eq_true rfl) h (fun h => ?_)
  refine e_aload_n (pc' := 7) (i := 0) rfl rfl dX2_areSame_6 rfl ?_
  refine e_getR (a := 1) (b := 5) (k0 := 3) (pc' := 10) dX2_areSame_7 rfl rfl (Nat.le_of_ble_eq_true rfl) (Nat.le_of_ble_eq_true rfl) rfl mw_138 rfl ?_
  refine e_iload_n (pc' := 11) (i := 2) rfl rfl dX2_areSame_10 rfl ?_
  refine e_iald (n := 32) (pc' := 12) dX2_areSame_11 rfl rfl (Nat.le_of_ble_eq_true rfl) h (fun h => ?_)
  refine e_imul (pc' := 13) dX2_areSame_12 rfl ?_
  refine e_aload_n (pc' := 14) (i := 0) rfl rfl dX2_areSame_13 rfl ?_
  refine e_getR (a := 1) (b := 2) (k0 := 0) (pc' := 17) dX2_areSame_14 rfl rfl (Nat.le_of_ble_eq_true rfl) (Nat.le_of_ble_eq_true rfl) rfl mw_126 rfl ?_
  refine e_iload_n (pc' := 18) (i := 2) rfl rfl dX2_areSame_17 rfl ?_
  refine e_iald (n := 32) (pc' := 19) dX2_areSame_18 rfl rfl (Nat.le_of_ble_eq_true rfl) h (fun h => ?_)
  refine e_aload_n (pc' := 20) (i := 0) rfl rfl dX2_areSame_19 rfl ?_
  refine e_getR (a := 1) (b := 5) (k0 := 3) (pc' := 23) dX2_areSame_20 rfl rfl (Nat.le_of_ble_eq_true rfl) (Nat.le_of_ble_eq_true rfl) rfl mw_138 rfl ?_
  refine e_iload_n (pc' := 24) (i := 1) rfl rfl dX2_areSame_23 rfl ?_
  refine e_iald (n := 32) (pc' := 25) dX2_areSame_24 rfl rfl (Nat.le_of_ble_eq_true rfl) h (fun h => ?_)
  refine e_imul (pc' := 26) dX2_areSame_25 rfl ?_
  refine e_icmp_ne (tgt := 91) (pc' := 29) dX2_areSame_26 (by decide) rfl h (fun h => ?_) (fun h => ?_)
  · refine e_iconst (v := 0) (pc' := 92) (by decide) dX2_areSame_91 rfl ?_
    obtain rfl := g_re1 h
    exact e_zret dX2_areSame_92 (by decide)
  · refine e_aload_n (pc' := 30) (i := 0) rfl rfl dX2_areSame_29 rfl ?_
    refine e_getR (a := 1) (b := 3) (k0 := 1) (pc' := 33) dX2_areSame_30 rfl rfl (Nat.le_of_ble_eq_true rfl) (Nat.le_of_ble_eq_true rfl) rfl mw_130 rfl ?_
    refine e_iload_n (pc' := 34) (i := 1) rfl rfl dX2_areSame_33 rfl ?_
    refine e_iald (n := 32) (pc' := 35) dX2_areSame_34 rfl rfl (Nat.le_of_ble_eq_true rfl) h (fun h => ?_)
    refine e_aload_n (pc' := 36) (i := 0) rfl rfl dX2_areSame_35 rfl ?_
    refine e_getR (a := 1) (b := 5) (k0 := 3) (pc' := 39) dX2_areSame_36 rfl rfl (Nat.le_of_ble_eq_true rfl) (Nat.le_of_ble_eq_true rfl) rfl mw_138 rfl ?_
    refine e_iload_n (pc' := 40) (i := 2) rfl rfl dX2_areSame_39 rfl ?_
    refine e_iald (n := 32) (pc' := 41) dX2_areSame_40 rfl rfl (Nat.le_of_ble_eq_true rfl) h (fun h => ?_)
    refine e_imul (pc' := 42) dX2_areSame_41 rfl ?_
    refine e_aload_n (pc' := 43) (i := 0) rfl rfl dX2_areSame_42 rfl ?_
    refine e_getR (a := 1) (b := 3) (k0 := 1) (pc' := 46) dX2_areSame_43 rfl rfl (Nat.le_of_ble_eq_true rfl) (Nat.le_of_ble_eq_true rfl) rfl mw_130 rfl ?_
    refine e_iload_n (pc' := 47) (i := 2) rfl rfl dX2_areSame_46 rfl ?_
    refine e_iald (n := 32) (pc' := 48) dX2_areSame_47 rfl rfl (Nat.le_of_ble_eq_true rfl) h (fun h => ?_)
    refine e_aload_n (pc' := 49) (i := 0) rfl rfl dX2_areSame_48 rfl ?_
    refine e_getR (a := 1) (b := 5) (k0 := 3) (pc' := 52) dX2_areSame_49 rfl rfl (Nat.le_of_ble_eq_true rfl) (Nat.le_of_ble_eq_true rfl) rfl mw_138 rfl ?_
    refine e_iload_n (pc' := 53) (i := 1) rfl rfl dX2_areSame_52 rfl ?_
    refine e_iald (n := 32) (pc' := 54) dX2_areSame_53 rfl rfl (Nat.le_of_ble_eq_true rfl) h (fun h => ?_)
    refine e_imul (pc' := 55) dX2_areSame_54 rfl ?_
    refine e_icmp_ne (tgt := 91) (pc' := 58) dX2_areSame_55 (by decide) rfl h (fun h => ?_) (fun h => ?_)
    · refine e_iconst (v := 0) (pc' := 92) (by decide) dX2_areSame_91 rfl ?_
      obtain rfl := g_re1 h
      exact e_zret dX2_areSame_92 (by decide)
    · refine e_aload_n (pc' := 59) (i := 0) rfl rfl dX2_areSame_58 rfl ?_
      refine e_getR (a := 1) (b := 4) (k0 := 2) (pc' := 62) dX2_areSame_59 rfl rfl (Nat.le_of_ble_eq_true rfl) (Nat.le_of_ble_eq_true rfl) rfl mw_134 rfl ?_
      refine e_iload_n (pc' := 63) (i := 1) rfl rfl dX2_areSame_62 rfl ?_
      refine e_iald (n := 32) (pc' := 64) dX2_areSame_63 rfl rfl (Nat.le_of_ble_eq_true rfl) h (fun h => ?_)
      refine e_aload_n (pc' := 65) (i := 0) rfl rfl dX2_areSame_64 rfl ?_
      refine e_getR (a := 1) (b := 5) (k0 := 3) (pc' := 68) dX2_areSame_65 rfl rfl (Nat.le_of_ble_eq_true rfl) (Nat.le_of_ble_eq_true rfl) rfl mw_138 rfl ?_
      refine e_iload_n (pc' := 69) (i := 2) rfl rfl dX2_areSame_68 rfl ?_
      refine e_iald (n := 32) (pc' := 70) dX2_areSame_69 rfl rfl (Nat.le_of_ble_eq_true rfl) h (fun h => ?_)
      refine e_imul (pc' := 71) dX2_areSame_70 rfl ?_
      refine e_aload_n (pc' := 72) (i := 0) rfl rfl dX2_areSame_71 rfl ?_
      refine e_getR (a := 1) (b := 4) (k0 := 2) (pc' := 75) dX2_areSame_72 rfl rfl (Nat.le_of_ble_eq_true rfl) (Nat.le_of_ble_eq_true rfl) rfl mw_134 rfl ?_
      refine e_iload_n (pc' := 76) (i := 2) rfl rfl dX2_areSame_75 rfl ?_
      refine e_iald (n := 32) (pc' := 77) dX2_areSame_76 rfl rfl (Nat.le_of_ble_eq_true rfl) h (fun h => ?_)
      refine e_aload_n (pc' := 78) (i := 0) rfl rfl dX2_areSame_77 rfl ?_
      refine e_getR (a := 1) (b := 5) (k0 := 3) (pc' := 81) dX2_areSame_78 rfl rfl (Nat.le_of_ble_eq_true rfl) (Nat.le_of_ble_eq_true rfl) rfl mw_138 rfl ?_
      refine e_iload_n (pc' := 82) (i := 1) rfl rfl dX2_areSame_81 rfl ?_
      refine e_iald (n := 32) (pc' := 83) dX2_areSame_82 rfl rfl (Nat.le_of_ble_eq_true rfl) h (fun h => ?_)
      refine e_imul (pc' := 84) dX2_areSame_83 rfl ?_
      refine e_icmp_ne (tgt := 91) (pc' := 87) dX2_areSame_84 (by decide) rfl h (fun h => ?_) (fun h => ?_)
      · refine e_iconst (v := 0) (pc' := 92) (by decide) dX2_areSame_91 rfl ?_
        obtain rfl := g_re1 h
        exact e_zret dX2_areSame_92 (by decide)
      · refine e_iconst (v := 1) (pc' := 88) (by decide) dX2_areSame_87 rfl ?_
        refine e_goto (tgt := 92) dX2_areSame_88 (by decide) ?_
        obtain rfl := g_re1 h
        exact e_zret dX2_areSame_92 (by decide)
set_option maxHeartbeats 4000000 in
set_option maxRecDepth 100000 in
theorem w_X2_hasEarlierTwin_1_p2 (I : Nat → Int32) (A : Nat → Nat → Int32) (L : Nat → Int64) : ∀ (n : Nat) (x1 : Int32) (x2 : Int32) (t : Int32), f_X2_hasEarlierTwin_p2 1 I A L n x1 x2 = some t → Ev 70 RX2 cX2_hasEarlierTwin 3 (some .boolean) 1 2 [some (.ref 1), some (.int x1), some (.int x2)] [] I A L (some (.int t), (I, A, L)) := by
  intro n
  induction n with
  | zero =>
    intro x1 x2 t h
    cases h
  | succ n ih =>
    intro x1 x2 t h
    rw [f_X2_hasEarlierTwin_p2] at h
    refine e_iload_n (pc' := 3) (i := 2) rfl rfl dX2_hasEarlierTwin_2 rfl ?_
    refine e_iload_n (pc' := 4) (i := 1) rfl rfl dX2_hasEarlierTwin_3 rfl ?_
    refine e_icmp_ge (tgt := 24) (pc' := 7) dX2_hasEarlierTwin_4 (by decide) rfl h (fun h => ?_) (fun h => ?_)
    · refine e_iconst (v := 0) (pc' := 25) (by decide) dX2_hasEarlierTwin_24 rfl ?_
      obtain rfl := g_re1 h
      exact e_zret dX2_hasEarlierTwin_25 (by decide)
    · refine e_aload_n (pc' := 8) (i := 0) rfl rfl dX2_hasEarlierTwin_7 rfl ?_
      refine e_iload_n (pc' := 9) (i := 2) rfl rfl dX2_hasEarlierTwin_8 rfl ?_
      refine e_iload_n (pc' := 10) (i := 1) rfl rfl dX2_hasEarlierTwin_9 rfl ?_
      obtain ⟨v2, hF1, h⟩ := g_bd_e h
      refine e_callV_i (pc' := 13) dX2_hasEarlierTwin_10 rfl mw_564 mv_X2_areSame rfl (Nat.le_of_ble_eq_true rfl) (Nat.le_of_ble_eq_true rfl) rfl (Nat.le_of_ble_eq_true rfl) (Nat.le_of_ble_eq_true rfl) rfl (c_X2_areSame_1 _ _ hF1) rfl ?_
      refine e_if_eq (tgt := 18) (pc' := 16) dX2_hasEarlierTwin_13 (by decide) rfl h (fun h => ?_) (fun h => ?_)
      · refine e_iinc (pc' := 21) (v := (x2 + 1)) (lc' := [some (.ref 1), some (.int x1), some (.int (x2 + 1))]) dX2_hasEarlierTwin_18 rfl rfl rfl (Nat.le_of_ble_eq_true rfl) rfl rfl ?_
        refine e_goto (tgt := 2) dX2_hasEarlierTwin_21 (by decide) ?_
        exact e_weak (lc' := [some (.ref 1), some (.int x1), some (.int (x2 + 1))]) (gle_s (gle_s (gle_s gle_0))) (ih _ _ _ h)
      · refine e_iconst (v := 1) (pc' := 17) (by decide) dX2_hasEarlierTwin_16 rfl ?_
        obtain rfl := g_re1 h
        exact e_zret dX2_hasEarlierTwin_17 (by decide)
set_option maxHeartbeats 4000000 in
set_option maxRecDepth 100000 in
theorem c_X2_hasEarlierTwin_1 (a0 : Int32) {I : Nat → Int32} {A : Nat → Nat → Int32} {L : Nat → Int64} {t : Int32} (h : f_X2_hasEarlierTwin 1 I A L a0 = some t) : GM 70 yX2_hasEarlierTwin cX2_hasEarlierTwin 3 (some .boolean) 1 [.ref 1, .int a0] I A L (some (.int t), (I, A, L)) := by
  refine gm_of (n := 1) (lc := [some (.ref 1), some (.int a0), none]) (by decide +kernel) rfl (fun _ => Nat.le_of_ble_eq_true rfl) ?_
  change Ev 70 RX2 cX2_hasEarlierTwin 3 (some .boolean) 1 0 [some (.ref 1), some (.int a0), none] [] I A L _
  unfold f_X2_hasEarlierTwin at h
  refine e_iconst (v := 0) (pc' := 1) (by decide) dX2_hasEarlierTwin_0 rfl ?_
  refine e_istore_n (pc' := 2) (i := 2) (lc' := [some (.ref 1), some (.int a0), some (.int 0)]) rfl dX2_hasEarlierTwin_1 rfl (Nat.le_of_ble_eq_true rfl) rfl rfl ?_
  exact e_weak (lc' := [some (.ref 1), some (.int a0), some (.int 0)]) (gle_s (gle_s (gle_s gle_0))) (w_X2_hasEarlierTwin_1_p2 I A L  _ _ _ _ h)
set_option maxHeartbeats 4000000 in
set_option maxRecDepth 100000 in
theorem w_J7_fill_53178_43_p5  : ∀ (n : Nat) (x1 : Int32) (x2 : Int32) (x3 : Int32) (I : Nat → Int32) (A : Nat → Nat → Int32) (L : Nat → Int64) (t : gS), f_J7_fill_53178_p5 43 n x1 x2 x3 I A L = some t → Ev 70 RJ7 cJ7_fill_53178 4 none 0 5 [some (.ref 43), some (.int x1), some (.int x2), some (.int x3)] [] I A L (none, t) := by
  intro n
  induction n with
  | zero =>
    intro x1 x2 x3 I A L t h
    cases h
  | succ n ih =>
    intro x1 x2 x3 I A L t h
    rw [f_J7_fill_53178_p5] at h
    refine e_iload_n (pc' := 6) (i := 2) rfl rfl dJ7_fill_53178_5 rfl ?_
    refine e_iload_n (pc' := 7) (i := 3) rfl rfl dJ7_fill_53178_6 rfl ?_
    refine e_icmp_ge (tgt := 20) (pc' := 10) dJ7_fill_53178_7 (by decide) rfl h (fun h => ?_) (fun h => ?_)
    · obtain rfl := g_re1 h
      exact e_vret dJ7_fill_53178_20
    · refine e_aload_n (pc' := 11) (i := 0) rfl rfl dJ7_fill_53178_10 rfl ?_
      refine e_iload_n (pc' := 12) (i := 2) rfl rfl dJ7_fill_53178_11 rfl ?_
      refine e_iload_n (pc' := 13) (i := 1) rfl rfl dJ7_fill_53178_12 rfl ?_
      refine e_iast (n := 60) (pc' := 14) dJ7_fill_53178_13 rfl rfl (Nat.le_of_ble_eq_true rfl) h (fun h => ?_)
      refine e_ltA h (fun A1 h => ?_)
      refine e_iinc (pc' := 17) (v := (x2 + 1)) (lc' := [some (.ref 43), some (.int x1), some (.int (x2 + 1)), some (.int x3)]) dJ7_fill_53178_14 rfl rfl rfl (Nat.le_of_ble_eq_true rfl) rfl rfl ?_
      refine e_goto (tgt := 5) dJ7_fill_53178_17 (by decide) ?_
      exact e_weak (lc' := [some (.ref 43), some (.int x1), some (.int (x2 + 1)), some (.int x3)]) (gle_s (gle_s (gle_s (gle_s gle_0)))) (ih _ _ _ _ _ _ _ h)
set_option maxHeartbeats 4000000 in
set_option maxRecDepth 100000 in
theorem c_J7_fill_53178_43 (a0 : Int32) {I : Nat → Int32} {A : Nat → Nat → Int32} {L : Nat → Int64} {I' : Nat → Int32} {A' : Nat → Nat → Int32} {L' : Nat → Int64} (h : f_J7_fill_53178 43 a0 I A L = some (I', A', L')) : GM 70 yJ7_fill_53178 cJ7_fill_53178 4 none 0 [.ref 43, .int a0] I A L (none, (I', A', L')) := by
  refine gm_of (n := 2) (lc := [some (.ref 43), some (.int a0), none, none]) (by decide +kernel) rfl (fun _ => Nat.le_of_ble_eq_true rfl) ?_
  change Ev 70 RJ7 cJ7_fill_53178 4 none 0 0 [some (.ref 43), some (.int a0), none, none] [] I A L _
  unfold f_J7_fill_53178 at h
  refine e_iconst (v := 0) (pc' := 1) (by decide) dJ7_fill_53178_0 rfl ?_
  refine e_istore_n (pc' := 2) (i := 2) (lc' := [some (.ref 43), some (.int a0), some (.int 0), none]) rfl dJ7_fill_53178_1 rfl (Nat.le_of_ble_eq_true rfl) rfl rfl ?_
  refine e_aload_n (pc' := 3) (i := 0) rfl rfl dJ7_fill_53178_2 rfl ?_
  refine e_ilen (v := 60) (pc' := 4) dJ7_fill_53178_3 rfl rfl (Nat.le_of_ble_eq_true rfl) (by decide) ?_
  refine e_istore_n (pc' := 5) (i := 3) (lc' := [some (.ref 43), some (.int a0), some (.int 0), some (.int 60)]) rfl dJ7_fill_53178_4 rfl (Nat.le_of_ble_eq_true rfl) rfl rfl ?_
  exact e_weak (lc' := [some (.ref 43), some (.int a0), some (.int 0), some (.int 60)]) (gle_s (gle_s (gle_s (gle_s gle_0)))) (w_J7_fill_53178_43_p5  _ _ _ _ _ _ _ _ h)
set_option maxHeartbeats 4000000 in
set_option maxRecDepth 100000 in
theorem w_X4_look_38_1_p15  : ∀ (n : Nat) (x2 : Int32) (I : Nat → Int32) (A : Nat → Nat → Int32) (L : Nat → Int64) (t : gS), f_X4_look_p15 38 1 n x2 I A L = some t → Ev 70 RX4 cX4_look 3 none 2 15 [some (.ref 38), some (.ref 1), some (.int x2)] [] I A L (none, t) := by
  intro n
  induction n with
  | zero =>
    intro x2 I A L t h
    cases h
  | succ n ih =>
    intro x2 I A L t h
    rw [f_X4_look_p15] at h
    refine e_iload_n (pc' := 16) (i := 2) rfl rfl dX4_look_15 rfl ?_
    refine e_aload_n (pc' := 17) (i := 1) rfl rfl dX4_look_16 rfl ?_
    refine e_getIN (a := 1) (n := 20) (k0 := 4) (pc' := 20) dX4_look_17 rfl rfl (Nat.le_of_ble_eq_true rfl) (Nat.le_of_ble_eq_true rfl) rfl mw_143 rfl ?_
    refine e_icmp_ge (tgt := 71) (pc' := 23) dX4_look_20 (by decide) rfl h (fun h => ?_) (fun h => ?_)
    · obtain rfl := g_re1 h
      exact e_vret dX4_look_71
    · refine e_aload_n (pc' := 24) (i := 0) rfl rfl dX4_look_23 rfl ?_
      refine e_getR (a := 38) (b := 44) (k0 := 5) (pc' := 27) dX4_look_24 rfl rfl (Nat.le_of_ble_eq_true rfl) (Nat.le_of_ble_eq_true rfl) rfl mw_243 rfl ?_
      refine e_iload_n (pc' := 28) (i := 2) rfl rfl dX4_look_27 rfl ?_
      refine e_aload_n (pc' := 29) (i := 0) rfl rfl dX4_look_28 rfl ?_
      refine e_aload_n (pc' := 30) (i := 1) rfl rfl dX4_look_29 rfl ?_
      refine e_iload_n (pc' := 31) (i := 2) rfl rfl dX4_look_30 rfl ?_
      obtain ⟨v5, I2, A3, L4, hF1, h⟩ := g_b2_e h
      refine e_callV_i (pc' := 34) dX4_look_31 rfl mw_552 mv_X4_markCornersOn rfl (Nat.le_of_ble_eq_true rfl) (Nat.le_of_ble_eq_true rfl) rfl (Nat.le_of_ble_eq_true rfl) (Nat.le_of_ble_eq_true rfl) rfl (c_X4_markCornersOn_38_1 _ hF1) rfl ?_
      refine e_iast (n := 32) (pc' := 35) dX4_look_34 rfl rfl (Nat.le_of_ble_eq_true rfl) h (fun h => ?_)
      refine e_ltA h (fun A6 h => ?_)
      refine e_aload_n (pc' := 36) (i := 0) rfl rfl dX4_look_35 rfl ?_
      refine e_getR (a := 38) (b := 44) (k0 := 5) (pc' := 39) dX4_look_36 rfl rfl (Nat.le_of_ble_eq_true rfl) (Nat.le_of_ble_eq_true rfl) rfl mw_243 rfl ?_
      refine e_iload_n (pc' := 40) (i := 2) rfl rfl dX4_look_39 rfl ?_
      refine e_iald (n := 32) (pc' := 41) dX4_look_40 rfl rfl (Nat.le_of_ble_eq_true rfl) h (fun h => ?_)
      refine e_iconst (v := 3) (pc' := 42) (by decide) dX4_look_41 rfl ?_
      refine e_icmp_lt (tgt := 65) (pc' := 45) dX4_look_42 (by decide) rfl h (fun h => ?_) (fun h => ?_)
      · refine e_iinc (pc' := 68) (v := (x2 + 1)) (lc' := [some (.ref 38), some (.ref 1), some (.int (x2 + 1))]) dX4_look_65 rfl rfl rfl (Nat.le_of_ble_eq_true rfl) rfl rfl ?_
        refine e_goto (tgt := 15) dX4_look_68 (by decide) ?_
        exact e_weak (lc' := [some (.ref 38), some (.ref 1), some (.int (x2 + 1))]) (gle_s (gle_s (gle_s gle_0))) (ih _ _ _ _ _ h)
      · refine e_aload_n (pc' := 46) (i := 1) rfl rfl dX4_look_45 rfl ?_
        refine e_iload_n (pc' := 47) (i := 2) rfl rfl dX4_look_46 rfl ?_
        obtain ⟨v8, hF7, h⟩ := g_bd_e h
        refine e_callVN_i (pc' := 50) dX4_look_47 rfl mw_560 mv_X2_hasEarlierTwin rfl (Nat.le_of_ble_eq_true rfl) (Nat.le_of_ble_eq_true rfl) rfl (Nat.le_of_ble_eq_true rfl) (Nat.le_of_ble_eq_true rfl) rfl (c_X2_hasEarlierTwin_1 _ hF7) rfl ?_
        refine e_if_ne (tgt := 65) (pc' := 53) dX4_look_50 (by decide) rfl h (fun h => ?_) (fun h => ?_)
        · refine e_iinc (pc' := 68) (v := (x2 + 1)) (lc' := [some (.ref 38), some (.ref 1), some (.int (x2 + 1))]) dX4_look_65 rfl rfl rfl (Nat.le_of_ble_eq_true rfl) rfl rfl ?_
          refine e_goto (tgt := 15) dX4_look_68 (by decide) ?_
          exact e_weak (lc' := [some (.ref 38), some (.ref 1), some (.int (x2 + 1))]) (gle_s (gle_s (gle_s gle_0))) (ih _ _ _ _ _ h)
        · refine e_aload_n (pc' := 54) (i := 0) rfl rfl dX4_look_53 rfl ?_
          refine e_dup (pc' := 55) rfl dX4_look_54 rfl ?_
          refine e_getI (a := 38) (n := 616) (k0 := 8) (pc' := 58) dX4_look_55 rfl rfl (Nat.le_of_ble_eq_true rfl) (Nat.le_of_ble_eq_true rfl) rfl mw_248 rfl ?_
          refine e_iconst (v := 1) (pc' := 59) (by decide) dX4_look_58 rfl ?_
          refine e_iload_n (pc' := 60) (i := 2) rfl rfl dX4_look_59 rfl ?_
          refine e_ishl (pc' := 61) dX4_look_60 rfl ?_
          refine e_ior (pc' := 62) dX4_look_61 rfl ?_
          refine e_putI (a := 38) (n := 616) (k0 := 8) (pc' := 65) dX4_look_62 rfl rfl (Nat.le_of_ble_eq_true rfl) (Nat.le_of_ble_eq_true rfl) rfl mw_248 rfl rfl g_pI rfl rfl ?_
          refine e_ltI h (fun I9 h => ?_)
          refine e_iinc (pc' := 68) (v := (x2 + 1)) (lc' := [some (.ref 38), some (.ref 1), some (.int (x2 + 1))]) dX4_look_65 rfl rfl rfl (Nat.le_of_ble_eq_true rfl) rfl rfl ?_
          refine e_goto (tgt := 15) dX4_look_68 (by decide) ?_
          exact e_weak (lc' := [some (.ref 38), some (.ref 1), some (.int (x2 + 1))]) (gle_s (gle_s (gle_s gle_0))) (ih _ _ _ _ _ h)
set_option maxHeartbeats 4000000 in
set_option maxRecDepth 100000 in
theorem c_X4_look_38_1  {I : Nat → Int32} {A : Nat → Nat → Int32} {L : Nat → Int64} {I' : Nat → Int32} {A' : Nat → Nat → Int32} {L' : Nat → Int64} (h : f_X4_look 38 1  I A L = some (I', A', L')) : GM 70 yX4_look cX4_look 3 none 2 [.ref 38, .ref 1] I A L (none, (I', A', L')) := by
  refine gm_of (n := 1) (lc := [some (.ref 38), some (.ref 1), none]) (by decide +kernel) rfl (fun _ => Nat.le_of_ble_eq_true rfl) ?_
  change Ev 70 RX4 cX4_look 3 none 2 0 [some (.ref 38), some (.ref 1), none] [] I A L _
  unfold f_X4_look at h
  refine e_aload_n (pc' := 1) (i := 0) rfl rfl dX4_look_0 rfl ?_
  refine e_getR (a := 38) (b := 43) (k0 := 4) (pc' := 4) dX4_look_1 rfl rfl (Nat.le_of_ble_eq_true rfl) (Nat.le_of_ble_eq_true rfl) rfl mw_241 rfl ?_
  refine e_iconst (v := 0) (pc' := 5) (by decide) dX4_look_4 rfl ?_
  obtain ⟨I2, A3, L4, hF1, h⟩ := g_b1_e h
  refine e_callS_v (pc' := 8) dX4_look_5 rfl mw_549 ms_J7_fill_53178 rfl (Nat.le_of_ble_eq_true rfl) (Nat.le_of_ble_eq_true rfl) (c_J7_fill_53178_43 _ hF1) rfl ?_
  refine e_aload_n (pc' := 9) (i := 0) rfl rfl dX4_look_8 rfl ?_
  refine e_iconst (v := 0) (pc' := 10) (by decide) dX4_look_9 rfl ?_
  refine e_putI (a := 38) (n := 616) (k0 := 8) (pc' := 13) dX4_look_10 rfl rfl (Nat.le_of_ble_eq_true rfl) (Nat.le_of_ble_eq_true rfl) rfl mw_248 rfl rfl g_pI rfl rfl ?_
  refine e_ltI h (fun I5 h => ?_)
  refine e_iconst (v := 0) (pc' := 14) (by decide) dX4_look_13 rfl ?_
  refine e_istore_n (pc' := 15) (i := 2) (lc' := [some (.ref 38), some (.ref 1), some (.int 0)]) rfl dX4_look_14 rfl (Nat.le_of_ble_eq_true rfl) rfl rfl ?_
  exact e_weak (lc' := [some (.ref 38), some (.ref 1), some (.int 0)]) (gle_s (gle_s (gle_s gle_0))) (w_X4_look_38_1_p15  _ _ _ _ _ _ h)
