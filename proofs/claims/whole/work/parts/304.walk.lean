set_option maxHeartbeats 4000000 in
set_option maxRecDepth 100000 in
theorem w_X2_wayBetween_1_p145 (I : Nat → Int32) (A : Nat → Nat → Int32) (L : Nat → Int64) : ∀ (x3 : Int32) (x4 : Int32) (x5 : Int32) (x6 : Int32) (s0 : Int32) (t : Int32), f_X2_wayBetween_p145 1 I A L x3 x4 x5 x6 s0 = some t → Ev 70 RX2 cX2_wayBetween 10 (some .int) 2 145 [none, none, none, some (.int x3), some (.int x4), some (.int x5), some (.int x6), none, none, none] [.int s0] I A L (some (.int t), (I, A, L)) := by
  intro x3 x4 x5 x6 s0  t h
  unfold f_X2_wayBetween_p145 at h
  refine e_istore (pc' := 147) (i := 9) (lc' := [none, none, none, some (.int x3), some (.int x4), some (.int x5), some (.int x6), none, none, some (.int s0)]) dX2_wayBetween_145 rfl (Nat.le_of_ble_eq_true rfl) rfl rfl ?_
  refine e_iload_n (pc' := 148) (i := 3) rfl rfl dX2_wayBetween_147 rfl ?_
  refine e_if_ne (tgt := 156) (pc' := 151) dX2_wayBetween_148 (by decide) rfl h (fun h => ?_) (fun h => ?_)
  · refine e_iload_n (pc' := 157) (i := 3) rfl rfl dX2_wayBetween_156 rfl ?_
    refine e_iconst (v := 1) (pc' := 158) (by decide) dX2_wayBetween_157 rfl ?_
    refine e_icmp_ne (tgt := 166) (pc' := 161) dX2_wayBetween_158 (by decide) rfl h (fun h => ?_) (fun h => ?_)
    · refine e_iload (pc' := 168) (i := 6) rfl dX2_wayBetween_166 rfl ?_
      refine e_iload (pc' := 170) (i := 9) rfl dX2_wayBetween_168 rfl ?_
      obtain ⟨hz1, h⟩ := g_dv_e h
      refine e_idiv (pc' := 171) hz1 dX2_wayBetween_170 rfl ?_
      obtain rfl := g_re1 h
      exact e_iret dX2_wayBetween_171
    · refine e_iload (pc' := 163) (i := 5) rfl dX2_wayBetween_161 rfl ?_
      refine e_goto (tgt := 168) dX2_wayBetween_163 (by decide) ?_
      refine e_iload (pc' := 170) (i := 9) rfl dX2_wayBetween_168 rfl ?_
      obtain ⟨hz2, h⟩ := g_dv_e h
      refine e_idiv (pc' := 171) hz2 dX2_wayBetween_170 rfl ?_
      obtain rfl := g_re1 h
      exact e_iret dX2_wayBetween_171
  · refine e_iload (pc' := 153) (i := 4) rfl dX2_wayBetween_151 rfl ?_
    refine e_goto (tgt := 168) dX2_wayBetween_153 (by decide) ?_
    refine e_iload (pc' := 170) (i := 9) rfl dX2_wayBetween_168 rfl ?_
    obtain ⟨hz3, h⟩ := g_dv_e h
    refine e_idiv (pc' := 171) hz3 dX2_wayBetween_170 rfl ?_
    obtain rfl := g_re1 h
    exact e_iret dX2_wayBetween_171
set_option maxHeartbeats 4000000 in
set_option maxRecDepth 100000 in
theorem w_X2_wayBetween_1_p130 (I : Nat → Int32) (A : Nat → Nat → Int32) (L : Nat → Int64) : ∀ (x3 : Int32) (x4 : Int32) (x5 : Int32) (x6 : Int32) (x7 : Int32) (s0 : Int32) (t : Int32), f_X2_wayBetween_p130 1 I A L x3 x4 x5 x6 x7 s0 = some t → Ev 70 RX2 cX2_wayBetween 10 (some .int) 2 130 [none, none, none, some (.int x3), some (.int x4), some (.int x5), some (.int x6), some (.int x7), none, none] [.int s0] I A L (some (.int t), (I, A, L)) := by
  intro x3 x4 x5 x6 x7 s0  t h
  unfold f_X2_wayBetween_p130 at h
  refine e_istore (pc' := 132) (i := 8) (lc' := [none, none, none, some (.int x3), some (.int x4), some (.int x5), some (.int x6), some (.int x7), some (.int s0), none]) dX2_wayBetween_130 rfl (Nat.le_of_ble_eq_true rfl) rfl rfl ?_
  refine e_iload (pc' := 134) (i := 8) rfl dX2_wayBetween_132 rfl ?_
  refine e_if_le (tgt := 142) (pc' := 137) dX2_wayBetween_134 (by decide) rfl h (fun h => ?_) (fun h => ?_)
  · refine e_iload (pc' := 144) (i := 7) rfl dX2_wayBetween_142 rfl ?_
    refine e_ineg (pc' := 145) dX2_wayBetween_144 rfl ?_
    exact e_weak (lc' := [none, none, none, some (.int x3), some (.int x4), some (.int x5), some (.int x6), none, none, none]) (gle_n (gle_n (gle_n (gle_s (gle_s (gle_s (gle_s (gle_n (gle_n (gle_n gle_0)))))))))) (w_X2_wayBetween_1_p145 I A L  _ _ _ _ _ _ h)
  · refine e_iload (pc' := 139) (i := 7) rfl dX2_wayBetween_137 rfl ?_
    refine e_goto (tgt := 145) dX2_wayBetween_139 (by decide) ?_
    exact e_weak (lc' := [none, none, none, some (.int x3), some (.int x4), some (.int x5), some (.int x6), none, none, none]) (gle_n (gle_n (gle_n (gle_s (gle_s (gle_s (gle_s (gle_n (gle_n (gle_n gle_0)))))))))) (w_X2_wayBetween_1_p145 I A L  _ _ _ _ _ _ h)
set_option maxHeartbeats 4000000 in
set_option maxRecDepth 100000 in
theorem c_X2_wayBetween_1 (a0 : Int32) (a1 : Int32) (a2 : Int32) {I : Nat → Int32} {A : Nat → Nat → Int32} {L : Nat → Int64} {t : Int32} (h : f_X2_wayBetween 1 I A L a0 a1 a2 = some t) : GM 70 yX2_wayBetween cX2_wayBetween 10 (some .int) 2 [.ref 1, .int a0, .int a1, .int a2] I A L (some (.int t), (I, A, L)) := by
  refine gm_of (n := 6) (lc := [some (.ref 1), some (.int a0), some (.int a1), some (.int a2), none, none, none, none, none, none]) (by decide +kernel) rfl (fun _ => Nat.le_of_ble_eq_true rfl) ?_
  change Ev 70 RX2 cX2_wayBetween 10 (some .int) 2 0 [some (.ref 1), some (.int a0), some (.int a1), some (.int a2), none, none, none, none, none, none] [] I A L _
  unfold f_X2_wayBetween at h
  refine e_aload_n (pc' := 1) (i := 0) rfl rfl dX2_wayBetween_0 rfl ?_
  refine e_getR (a := 1) (b := 3) (k0 := 1) (pc' := 4) dX2_wayBetween_1 rfl rfl (Nat.le_of_ble_eq_true rfl) (Nat.le_of_ble_eq_true rfl) rfl mw_130 rfl ?_
  refine e_iload_n (pc' := 5) (i := 1) rfl rfl dX2_wayBetween_4 rfl ?_
  refine e_iald (n := 32) (pc' := 6) dX2_wayBetween_5 rfl rfl (Nat.le_of_ble_eq_true rfl) h (fun h => ?_)
  refine e_aload_n (pc' := 7) (i := 0) rfl rfl dX2_wayBetween_6 rfl ?_
  refine e_getR (a := 1) (b := 4) (k0 := 2) (pc' := 10) dX2_wayBetween_7 rfl rfl (Nat.le_of_ble_eq_true rfl) (Nat.le_of_ble_eq_true rfl) rfl mw_134 rfl ?_
  refine e_iload_n (pc' := 11) (i := 2) rfl rfl dX2_wayBetween_10 rfl ?_
  refine e_iald (n := 32) (pc' := 12) dX2_wayBetween_11 rfl rfl (Nat.le_of_ble_eq_true rfl) h (fun h => ?_)
  refine e_imul (pc' := 13) dX2_wayBetween_12 rfl ?_
  refine e_aload_n (pc' := 14) (i := 0) rfl rfl dX2_wayBetween_13 rfl ?_
  refine e_getR (a := 1) (b := 4) (k0 := 2) (pc' := 17) dX2_wayBetween_14 rfl rfl (Nat.le_of_ble_eq_true rfl) (Nat.le_of_ble_eq_true rfl) rfl mw_134 rfl ?_
  refine e_iload_n (pc' := 18) (i := 1) rfl rfl dX2_wayBetween_17 rfl ?_
  refine e_iald (n := 32) (pc' := 19) dX2_wayBetween_18 rfl rfl (Nat.le_of_ble_eq_true rfl) h (fun h => ?_)
  refine e_aload_n (pc' := 20) (i := 0) rfl rfl dX2_wayBetween_19 rfl ?_
  refine e_getR (a := 1) (b := 3) (k0 := 1) (pc' := 23) dX2_wayBetween_20 rfl rfl (Nat.le_of_ble_eq_true rfl) (Nat.le_of_ble_eq_true rfl) rfl mw_130 rfl ?_
  refine e_iload_n (pc' := 24) (i := 2) rfl rfl dX2_wayBetween_23 rfl ?_
  refine e_iald (n := 32) (pc' := 25) dX2_wayBetween_24 rfl rfl (Nat.le_of_ble_eq_true rfl) h (fun h => ?_)
  refine e_imul (pc' := 26) dX2_wayBetween_25 rfl ?_
  refine e_isub (pc' := 27) dX2_wayBetween_26 rfl ?_
  refine e_lt h (fun v1 h => ?_)
  refine e_istore (pc' := 29) (i := 4) (lc' := [some (.ref 1), some (.int a0), some (.int a1), some (.int a2), some (.int v1), none, none, none, none, none]) dX2_wayBetween_27 rfl (Nat.le_of_ble_eq_true rfl) rfl rfl ?_
  refine e_aload_n (pc' := 30) (i := 0) rfl rfl dX2_wayBetween_29 rfl ?_
  refine e_getR (a := 1) (b := 4) (k0 := 2) (pc' := 33) dX2_wayBetween_30 rfl rfl (Nat.le_of_ble_eq_true rfl) (Nat.le_of_ble_eq_true rfl) rfl mw_134 rfl ?_
  refine e_iload_n (pc' := 34) (i := 1) rfl rfl dX2_wayBetween_33 rfl ?_
  refine e_iald (n := 32) (pc' := 35) dX2_wayBetween_34 rfl rfl (Nat.le_of_ble_eq_true rfl) h (fun h => ?_)
  refine e_aload_n (pc' := 36) (i := 0) rfl rfl dX2_wayBetween_35 rfl ?_
  refine e_getR (a := 1) (b := 2) (k0 := 0) (pc' := 39) dX2_wayBetween_36 rfl rfl (Nat.le_of_ble_eq_true rfl) (Nat.le_of_ble_eq_true rfl) rfl mw_126 rfl ?_
  refine e_iload_n (pc' := 40) (i := 2) rfl rfl dX2_wayBetween_39 rfl ?_
  refine e_iald (n := 32) (pc' := 41) dX2_wayBetween_40 rfl rfl (Nat.le_of_ble_eq_true rfl) h (fun h => ?_)
  refine e_imul (pc' := 42) dX2_wayBetween_41 rfl ?_
  refine e_aload_n (pc' := 43) (i := 0) rfl rfl dX2_wayBetween_42 rfl ?_
  refine e_getR (a := 1) (b := 2) (k0 := 0) (pc' := 46) dX2_wayBetween_43 rfl rfl (Nat.le_of_ble_eq_true rfl) (Nat.le_of_ble_eq_true rfl) rfl mw_126 rfl ?_
  refine e_iload_n (pc' := 47) (i := 1) rfl rfl dX2_wayBetween_46 rfl ?_
  refine e_iald (n := 32) (pc' := 48) dX2_wayBetween_47 rfl rfl (Nat.le_of_ble_eq_true rfl) h (fun h => ?_)
  refine e_aload_n (pc' := 49) (i := 0) rfl rfl dX2_wayBetween_48 rfl ?_
  refine e_getR (a := 1) (b := 4) (k0 := 2) (pc' := 52) dX2_wayBetween_49 rfl rfl (Nat.le_of_ble_eq_true rfl) (Nat.le_of_ble_eq_true rfl) rfl mw_134 rfl ?_
  refine e_iload_n (pc' := 53) (i := 2) rfl rfl dX2_wayBetween_52 rfl ?_
  refine e_iald (n := 32) (pc' := 54) dX2_wayBetween_53 rfl rfl (Nat.le_of_ble_eq_true rfl) h (fun h => ?_)
  refine e_imul (pc' := 55) dX2_wayBetween_54 rfl ?_
  refine e_isub (pc' := 56) dX2_wayBetween_55 rfl ?_
  refine e_lt h (fun v2 h => ?_)
  refine e_istore (pc' := 58) (i := 5) (lc' := [some (.ref 1), some (.int a0), some (.int a1), some (.int a2), some (.int v1), some (.int v2), none, none, none, none]) dX2_wayBetween_56 rfl (Nat.le_of_ble_eq_true rfl) rfl rfl ?_
  refine e_aload_n (pc' := 59) (i := 0) rfl rfl dX2_wayBetween_58 rfl ?_
  refine e_getR (a := 1) (b := 2) (k0 := 0) (pc' := 62) dX2_wayBetween_59 rfl rfl (Nat.le_of_ble_eq_true rfl) (Nat.le_of_ble_eq_true rfl) rfl mw_126 rfl ?_
  refine e_iload_n (pc' := 63) (i := 1) rfl rfl dX2_wayBetween_62 rfl ?_
  refine e_iald (n := 32) (pc' := 64) dX2_wayBetween_63 rfl rfl (Nat.le_of_ble_eq_true rfl) h (fun h => ?_)
  refine e_aload_n (pc' := 65) (i := 0) rfl rfl dX2_wayBetween_64 rfl ?_
  refine e_getR (a := 1) (b := 3) (k0 := 1) (pc' := 68) dX2_wayBetween_65 rfl rfl (Nat.le_of_ble_eq_true rfl) (Nat.le_of_ble_eq_true rfl) rfl mw_130 rfl ?_
  refine e_iload_n (pc' := 69) (i := 2) rfl rfl dX2_wayBetween_68 rfl ?_
  refine e_iald (n := 32) (pc' := 70) dX2_wayBetween_69 rfl rfl (Nat.le_of_ble_eq_true rfl) h (fun h => ?_)
  refine e_imul (pc' := 71) dX2_wayBetween_70 rfl ?_
  refine e_aload_n (pc' := 72) (i := 0) rfl rfl dX2_wayBetween_71 rfl ?_
  refine e_getR (a := 1) (b := 3) (k0 := 1) (pc' := 75) dX2_wayBetween_72 rfl rfl (Nat.le_of_ble_eq_true rfl) (Nat.le_of_ble_eq_true rfl) rfl mw_130 rfl ?_
  refine e_iload_n (pc' := 76) (i := 1) rfl rfl dX2_wayBetween_75 rfl ?_
  refine e_iald (n := 32) (pc' := 77) dX2_wayBetween_76 rfl rfl (Nat.le_of_ble_eq_true rfl) h (fun h => ?_)
  refine e_aload_n (pc' := 78) (i := 0) rfl rfl dX2_wayBetween_77 rfl ?_
  refine e_getR (a := 1) (b := 2) (k0 := 0) (pc' := 81) dX2_wayBetween_78 rfl rfl (Nat.le_of_ble_eq_true rfl) (Nat.le_of_ble_eq_true rfl) rfl mw_126 rfl ?_
  refine e_iload_n (pc' := 82) (i := 2) rfl rfl dX2_wayBetween_81 rfl ?_
  refine e_iald (n := 32) (pc' := 83) dX2_wayBetween_82 rfl rfl (Nat.le_of_ble_eq_true rfl) h (fun h => ?_)
  refine e_imul (pc' := 84) dX2_wayBetween_83 rfl ?_
  refine e_isub (pc' := 85) dX2_wayBetween_84 rfl ?_
  refine e_lt h (fun v3 h => ?_)
  refine e_istore (pc' := 87) (i := 6) (lc' := [some (.ref 1), some (.int a0), some (.int a1), some (.int a2), some (.int v1), some (.int v2), some (.int v3), none, none, none]) dX2_wayBetween_85 rfl (Nat.le_of_ble_eq_true rfl) rfl rfl ?_
  refine e_iload (pc' := 89) (i := 4) rfl dX2_wayBetween_87 rfl ?_
  refine e_iload (pc' := 91) (i := 5) rfl dX2_wayBetween_89 rfl ?_
  obtain ⟨v5, hF4, h⟩ := g_bd_e h
  refine e_callSN_i (pc' := 94) dX2_wayBetween_91 rfl mw_658 ms_X6_commonDivisor rfl (Nat.le_of_ble_eq_true rfl) (Nat.le_of_ble_eq_true rfl) (c_X6_commonDivisor _ _ hF4) rfl ?_
  refine e_iload (pc' := 96) (i := 6) rfl dX2_wayBetween_94 rfl ?_
  obtain ⟨v7, hF6, h⟩ := g_bd_e h
  refine e_callSN_i (pc' := 99) dX2_wayBetween_96 rfl mw_658 ms_X6_commonDivisor rfl (Nat.le_of_ble_eq_true rfl) (Nat.le_of_ble_eq_true rfl) (c_X6_commonDivisor _ _ hF6) rfl ?_
  refine e_istore (pc' := 101) (i := 7) (lc' := [some (.ref 1), some (.int a0), some (.int a1), some (.int a2), some (.int v1), some (.int v2), some (.int v3), some (.int v7), none, none]) dX2_wayBetween_99 rfl (Nat.le_of_ble_eq_true rfl) rfl rfl ?_
  refine e_iload (pc' := 103) (i := 7) rfl dX2_wayBetween_101 rfl ?_
  refine e_if_gt (tgt := 108) (pc' := 106) dX2_wayBetween_103 (by decide) rfl h (fun h => ?_) (fun h => ?_)
  · refine e_iload (pc' := 110) (i := 4) rfl dX2_wayBetween_108 rfl ?_
    refine e_if_eq (tgt := 118) (pc' := 113) dX2_wayBetween_110 (by decide) rfl h (fun h => ?_) (fun h => ?_)
    · refine e_iload (pc' := 120) (i := 5) rfl dX2_wayBetween_118 rfl ?_
      refine e_if_eq (tgt := 128) (pc' := 123) dX2_wayBetween_120 (by decide) rfl h (fun h => ?_) (fun h => ?_)
      · refine e_iload (pc' := 130) (i := 6) rfl dX2_wayBetween_128 rfl ?_
        exact e_weak (lc' := [none, none, none, some (.int a2), some (.int v1), some (.int v2), some (.int v3), some (.int v7), none, none]) (gle_n (gle_n (gle_n (gle_s (gle_s (gle_s (gle_s (gle_s (gle_n (gle_n gle_0)))))))))) (w_X2_wayBetween_1_p130 I A L  _ _ _ _ _ _ _ h)
      · refine e_iload (pc' := 125) (i := 5) rfl dX2_wayBetween_123 rfl ?_
        refine e_goto (tgt := 130) dX2_wayBetween_125 (by decide) ?_
        exact e_weak (lc' := [none, none, none, some (.int a2), some (.int v1), some (.int v2), some (.int v3), some (.int v7), none, none]) (gle_n (gle_n (gle_n (gle_s (gle_s (gle_s (gle_s (gle_s (gle_n (gle_n gle_0)))))))))) (w_X2_wayBetween_1_p130 I A L  _ _ _ _ _ _ _ h)
    · refine e_iload (pc' := 115) (i := 4) rfl dX2_wayBetween_113 rfl ?_
      refine e_goto (tgt := 130) dX2_wayBetween_115 (by decide) ?_
      exact e_weak (lc' := [none, none, none, some (.int a2), some (.int v1), some (.int v2), some (.int v3), some (.int v7), none, none]) (gle_n (gle_n (gle_n (gle_s (gle_s (gle_s (gle_s (gle_s (gle_n (gle_n gle_0)))))))))) (w_X2_wayBetween_1_p130 I A L  _ _ _ _ _ _ _ h)
  · refine e_iconst (v := 0) (pc' := 107) (by decide) dX2_wayBetween_106 rfl ?_
    obtain rfl := g_re1 h
    exact e_iret dX2_wayBetween_107
set_option maxHeartbeats 4000000 in
set_option maxRecDepth 100000 in
theorem w_X6_edge_p30  : ∀ (I : Nat → Int32) (A : Nat → Nat → Int32) (L : Nat → Int64) (t : (Int32 × gS)), f_X6_edge_p30 I A L = some t → Ev 70 RX6 cX6_edge 6 (some .int) 5 30 [some (.ref 0), none, none, none, none, none] [] I A L (some (.int t.1), t.2) := by
  intro  I A L t h
  unfold f_X6_edge_p30 at h
  refine e_aload_n (pc' := 31) (i := 0) rfl rfl dX6_edge_30 rfl ?_
  refine e_bipush (v := (-100)) (pc' := 33) (by decide) dX6_edge_31 rfl ?_
  obtain ⟨v5, I2, A3, L4, hF1, h⟩ := g_b2_e h
  refine e_callV_i (pc' := 36) dX6_edge_33 rfl mw_397 mv_X6_refuseBad rfl (Nat.le_of_ble_eq_true rfl) (Nat.le_of_ble_eq_true rfl) rfl (Nat.le_of_ble_eq_true rfl) (Nat.le_of_ble_eq_true rfl) rfl (c_X6_refuseBad _ hF1) rfl ?_
  obtain rfl := g_re1 h
  exact e_iret dX6_edge_36
set_option maxHeartbeats 4000000 in
set_option maxRecDepth 100000 in
theorem c_X6_edge (a0 : Int32) (a1 : Int32) (a2 : Int32) {I : Nat → Int32} {A : Nat → Nat → Int32} {L : Nat → Int64} {t : Int32} {I' : Nat → Int32} {A' : Nat → Nat → Int32} {L' : Nat → Int64} (h : f_X6_edge  a0 a1 a2 I A L = some (t, I', A', L')) : GM 70 yX6_edge cX6_edge 6 (some .int) 5 [.ref 0, .int a0, .int a1, .int a2] I A L (some (.int t), (I', A', L')) := by
  refine gm_of (n := 2) (lc := [some (.ref 0), some (.int a0), some (.int a1), some (.int a2), none, none]) (by decide +kernel) rfl (fun _ => Nat.le_of_ble_eq_true rfl) ?_
  change Ev 70 RX6 cX6_edge 6 (some .int) 5 0 [some (.ref 0), some (.int a0), some (.int a1), some (.int a2), none, none] [] I A L _
  unfold f_X6_edge at h
  refine e_aload_n (pc' := 1) (i := 0) rfl rfl dX6_edge_0 rfl ?_
  refine e_iload_n (pc' := 2) (i := 1) rfl rfl dX6_edge_1 rfl ?_
  obtain ⟨v2, hF1, h⟩ := g_bd_e h
  refine e_callV_i (pc' := 5) dX6_edge_2 rfl mw_469 mv_X6_isPlane rfl (Nat.le_of_ble_eq_true rfl) (Nat.le_of_ble_eq_true rfl) rfl (Nat.le_of_ble_eq_true rfl) (Nat.le_of_ble_eq_true rfl) rfl (c_X6_isPlane _ hF1) rfl ?_
  refine e_if_eq (tgt := 30) (pc' := 8) dX6_edge_5 (by decide) rfl h (fun h => ?_) (fun h => ?_)
  · exact e_weak (lc' := [some (.ref 0), none, none, none, none, none]) (gle_s (gle_n (gle_n (gle_n (gle_n (gle_n gle_0)))))) (w_X6_edge_p30  _ _ _ _ h)
  · refine e_aload_n (pc' := 9) (i := 0) rfl rfl dX6_edge_8 rfl ?_
    refine e_iload_n (pc' := 10) (i := 2) rfl rfl dX6_edge_9 rfl ?_
    obtain ⟨v4, hF3, h⟩ := g_bd_e h
    refine e_callV_i (pc' := 13) dX6_edge_10 rfl mw_469 mv_X6_isPlane rfl (Nat.le_of_ble_eq_true rfl) (Nat.le_of_ble_eq_true rfl) rfl (Nat.le_of_ble_eq_true rfl) (Nat.le_of_ble_eq_true rfl) rfl (c_X6_isPlane _ hF3) rfl ?_
    refine e_if_eq (tgt := 30) (pc' := 16) dX6_edge_13 (by decide) rfl h (fun h => ?_) (fun h => ?_)
    · exact e_weak (lc' := [some (.ref 0), none, none, none, none, none]) (gle_s (gle_n (gle_n (gle_n (gle_n (gle_n gle_0)))))) (w_X6_edge_p30  _ _ _ _ h)
    · refine e_iload_n (pc' := 17) (i := 1) rfl rfl dX6_edge_16 rfl ?_
      refine e_iload_n (pc' := 18) (i := 2) rfl rfl dX6_edge_17 rfl ?_
      refine e_icmp_eq (tgt := 30) (pc' := 21) dX6_edge_18 (by decide) rfl h (fun h => ?_) (fun h => ?_)
      · exact e_weak (lc' := [some (.ref 0), none, none, none, none, none]) (gle_s (gle_n (gle_n (gle_n (gle_n (gle_n gle_0)))))) (w_X6_edge_p30  _ _ _ _ h)
      · refine e_iload_n (pc' := 22) (i := 3) rfl rfl dX6_edge_21 rfl ?_
        refine e_if_lt (tgt := 30) (pc' := 25) dX6_edge_22 (by decide) rfl h (fun h => ?_) (fun h => ?_)
        · exact e_weak (lc' := [some (.ref 0), none, none, none, none, none]) (gle_s (gle_n (gle_n (gle_n (gle_n (gle_n gle_0)))))) (w_X6_edge_p30  _ _ _ _ h)
        · refine e_iload_n (pc' := 26) (i := 3) rfl rfl dX6_edge_25 rfl ?_
          refine e_iconst (v := 4) (pc' := 27) (by decide) dX6_edge_26 rfl ?_
          refine e_icmp_le (tgt := 37) (pc' := 30) dX6_edge_27 (by decide) rfl h (fun h => ?_) (fun h => ?_)
          · refine e_aload_n (pc' := 38) (i := 0) rfl rfl dX6_edge_37 rfl ?_
            obtain ⟨I6, A7, L8, hF5, h⟩ := g_b1_e h
            refine e_callV_a (pc' := 41) dX6_edge_38 rfl mw_503 mv_X6_crystal rfl (Nat.le_of_ble_eq_true rfl) (Nat.le_of_ble_eq_true rfl) rfl (Nat.le_of_ble_eq_true rfl) (Nat.le_of_ble_eq_true rfl) rfl (c_X6_crystal hF5) rfl ?_
            refine e_astore (pc' := 43) (i := 4) (lc' := [some (.ref 0), some (.int a0), some (.int a1), some (.int a2), some (.ref 38), none]) dX6_edge_41 rfl (Nat.le_of_ble_eq_true rfl) rfl rfl ?_
            refine e_aload (pc' := 45) (i := 4) rfl dX6_edge_43 rfl ?_
            refine e_iload_n (pc' := 46) (i := 1) rfl rfl dX6_edge_45 rfl ?_
            refine e_iload_n (pc' := 47) (i := 2) rfl rfl dX6_edge_46 rfl ?_
            obtain ⟨v10, hF9, h⟩ := g_bd_e h
            refine e_callVN_i (pc' := 50) dX6_edge_47 rfl mw_650 mv_X4_cornersOnBoth rfl (Nat.le_of_ble_eq_true rfl) (Nat.le_of_ble_eq_true rfl) rfl (Nat.le_of_ble_eq_true rfl) (Nat.le_of_ble_eq_true rfl) rfl (c_X4_cornersOnBoth_38 _ _ hF9) rfl ?_
            refine e_istore (pc' := 52) (i := 5) (lc' := [some (.ref 0), some (.int a0), some (.int a1), some (.int a2), some (.ref 38), some (.int v10)]) dX6_edge_50 rfl (Nat.le_of_ble_eq_true rfl) rfl rfl ?_
            refine e_iload_n (pc' := 53) (i := 3) rfl rfl dX6_edge_52 rfl ?_
            refine e_iconst (v := 4) (pc' := 54) (by decide) dX6_edge_53 rfl ?_
            refine e_icmp_ne (tgt := 60) (pc' := 57) dX6_edge_54 (by decide) rfl h (fun h => ?_) (fun h => ?_)
            · refine e_iload (pc' := 62) (i := 5) rfl dX6_edge_60 rfl ?_
              refine e_iconst (v := 2) (pc' := 63) (by decide) dX6_edge_62 rfl ?_
              refine e_icmp_lt (tgt := 84) (pc' := 66) dX6_edge_63 (by decide) rfl h (fun h => ?_) (fun h => ?_)
              · refine e_iconst (v := 0) (pc' := 85) (by decide) dX6_edge_84 rfl ?_
                obtain ⟨rfl, rfl, rfl, rfl⟩ := g_re4 h
                exact e_iret dX6_edge_85
              · refine e_aload (pc' := 68) (i := 4) rfl dX6_edge_66 rfl ?_
                refine e_iload_n (pc' := 69) (i := 1) rfl rfl dX6_edge_68 rfl ?_
                obtain ⟨v12, hF11, h⟩ := g_bd_e h
                refine e_callVN_i (pc' := 72) dX6_edge_69 rfl mw_576 mv_X4_isShown rfl (Nat.le_of_ble_eq_true rfl) (Nat.le_of_ble_eq_true rfl) rfl (Nat.le_of_ble_eq_true rfl) (Nat.le_of_ble_eq_true rfl) rfl (c_X4_isShown_38 _ hF11) rfl ?_
                refine e_if_eq (tgt := 84) (pc' := 75) dX6_edge_72 (by decide) rfl h (fun h => ?_) (fun h => ?_)
                · refine e_iconst (v := 0) (pc' := 85) (by decide) dX6_edge_84 rfl ?_
                  obtain ⟨rfl, rfl, rfl, rfl⟩ := g_re4 h
                  exact e_iret dX6_edge_85
                · refine e_aload (pc' := 77) (i := 4) rfl dX6_edge_75 rfl ?_
                  refine e_iload_n (pc' := 78) (i := 2) rfl rfl dX6_edge_77 rfl ?_
                  obtain ⟨v14, hF13, h⟩ := g_bd_e h
                  refine e_callVN_i (pc' := 81) dX6_edge_78 rfl mw_576 mv_X4_isShown rfl (Nat.le_of_ble_eq_true rfl) (Nat.le_of_ble_eq_true rfl) rfl (Nat.le_of_ble_eq_true rfl) (Nat.le_of_ble_eq_true rfl) rfl (c_X4_isShown_38 _ hF13) rfl ?_
                  refine e_if_ne (tgt := 86) (pc' := 84) dX6_edge_81 (by decide) rfl h (fun h => ?_) (fun h => ?_)
                  · refine e_iload_n (pc' := 87) (i := 3) rfl rfl dX6_edge_86 rfl ?_
                    refine e_if_ne (tgt := 94) (pc' := 90) dX6_edge_87 (by decide) rfl h (fun h => ?_) (fun h => ?_)
                    · refine e_aload_n (pc' := 95) (i := 0) rfl rfl dX6_edge_94 rfl ?_
                      refine e_getR (a := 0) (b := 1) (k0 := 0) (pc' := 98) dX6_edge_95 rfl rfl (Nat.le_of_ble_eq_true rfl) (Nat.le_of_ble_eq_true rfl) rfl mw_335 rfl ?_
                      refine e_iload_n (pc' := 99) (i := 1) rfl rfl dX6_edge_98 rfl ?_
                      refine e_iload_n (pc' := 100) (i := 2) rfl rfl dX6_edge_99 rfl ?_
                      refine e_iload_n (pc' := 101) (i := 3) rfl rfl dX6_edge_100 rfl ?_
                      refine e_iconst (v := 1) (pc' := 102) (by decide) dX6_edge_101 rfl ?_
                      refine e_isub (pc' := 103) dX6_edge_102 rfl ?_
                      obtain ⟨v16, hF15, h⟩ := g_bd_e h
                      refine e_callVN_i (pc' := 106) dX6_edge_103 rfl mw_654 mv_X2_wayBetween rfl (Nat.le_of_ble_eq_true rfl) (Nat.le_of_ble_eq_true rfl) rfl (Nat.le_of_ble_eq_true rfl) (Nat.le_of_ble_eq_true rfl) rfl (c_X2_wayBetween_1 _ _ _ hF15) rfl ?_
                      obtain ⟨rfl, rfl, rfl, rfl⟩ := g_re4 h
                      exact e_iret dX6_edge_106
                    · refine e_iconst (v := 1) (pc' := 91) (by decide) dX6_edge_90 rfl ?_
                      refine e_goto (tgt := 106) dX6_edge_91 (by decide) ?_
                      obtain ⟨rfl, rfl, rfl, rfl⟩ := g_re4 h
                      exact e_iret dX6_edge_106
                  · refine e_iconst (v := 0) (pc' := 85) (by decide) dX6_edge_84 rfl ?_
                    obtain ⟨rfl, rfl, rfl, rfl⟩ := g_re4 h
                    exact e_iret dX6_edge_85
            · refine e_iload (pc' := 59) (i := 5) rfl dX6_edge_57 rfl ?_
              obtain ⟨rfl, rfl, rfl, rfl⟩ := g_re4 h
              exact e_iret dX6_edge_59
          · exact e_weak (lc' := [some (.ref 0), none, none, none, none, none]) (gle_s (gle_n (gle_n (gle_n (gle_n (gle_n gle_0)))))) (w_X6_edge_p30  _ _ _ _ h)
set_option maxHeartbeats 4000000 in
set_option maxRecDepth 100000 in
theorem w_X4_farthest_38_p6 (I : Nat → Int32) (A : Nat → Nat → Int32) (L : Nat → Int64) : ∀ (n : Nat) (x1 : Int32) (x2 : Int32) (x3 : Int32) (x4 : Int32) (x5 : Int32) (t : Int32), f_X4_farthest_p6 38 I A L n x1 x2 x3 x4 x5 = some t → Ev 70 RX4 cX4_farthest 6 (some .int) 1 6 [some (.ref 38), some (.int x1), some (.int x2), some (.int x3), some (.int x4), some (.int x5)] [] I A L (some (.int t), (I, A, L)) := by
  intro n
  induction n with
  | zero =>
    intro x1 x2 x3 x4 x5 t h
    cases h
  | succ n ih =>
    intro x1 x2 x3 x4 x5 t h
    rw [f_X4_farthest_p6] at h
    refine e_iload (pc' := 8) (i := 5) rfl dX4_farthest_6 rfl ?_
    refine e_aload_n (pc' := 9) (i := 0) rfl rfl dX4_farthest_8 rfl ?_
    refine e_getI (a := 38) (n := 615) (k0 := 7) (pc' := 12) dX4_farthest_9 rfl rfl (Nat.le_of_ble_eq_true rfl) (Nat.le_of_ble_eq_true rfl) rfl mw_246 rfl ?_
    refine e_icmp_ge (tgt := 62) (pc' := 15) dX4_farthest_12 (by decide) rfl h (fun h => ?_) (fun h => ?_)
    · refine e_iload (pc' := 64) (i := 4) rfl dX4_farthest_62 rfl ?_
      obtain rfl := g_re1 h
      exact e_iret dX4_farthest_64
    · refine e_aload_n (pc' := 16) (i := 0) rfl rfl dX4_farthest_15 rfl ?_
      refine e_iload (pc' := 18) (i := 5) rfl dX4_farthest_16 rfl ?_
      refine e_iload_n (pc' := 19) (i := 1) rfl rfl dX4_farthest_18 rfl ?_
      refine e_iload_n (pc' := 20) (i := 2) rfl rfl dX4_farthest_19 rfl ?_
      refine e_iload_n (pc' := 21) (i := 3) rfl rfl dX4_farthest_20 rfl ?_
      obtain ⟨v2, hF1, h⟩ := g_bd_e h
      refine e_callV_i (pc' := 24) dX4_farthest_21 rfl mw_556 mv_X4_along rfl (Nat.le_of_ble_eq_true rfl) (Nat.le_of_ble_eq_true rfl) rfl (Nat.le_of_ble_eq_true rfl) (Nat.le_of_ble_eq_true rfl) rfl (c_X4_along_38 _ _ _ _ hF1) rfl ?_
      refine e_aload_n (pc' := 25) (i := 0) rfl rfl dX4_farthest_24 rfl ?_
      refine e_getR (a := 38) (b := 42) (k0 := 3) (pc' := 28) dX4_farthest_25 rfl rfl (Nat.le_of_ble_eq_true rfl) (Nat.le_of_ble_eq_true rfl) rfl mw_239 rfl ?_
      refine e_iload (pc' := 30) (i := 4) rfl dX4_farthest_28 rfl ?_
      refine e_iald (n := 60) (pc' := 31) dX4_farthest_30 rfl rfl (Nat.le_of_ble_eq_true rfl) h (fun h => ?_)
      refine e_imul (pc' := 32) dX4_farthest_31 rfl ?_
      refine e_aload_n (pc' := 33) (i := 0) rfl rfl dX4_farthest_32 rfl ?_
      refine e_iload (pc' := 35) (i := 4) rfl dX4_farthest_33 rfl ?_
      refine e_iload_n (pc' := 36) (i := 1) rfl rfl dX4_farthest_35 rfl ?_
      refine e_iload_n (pc' := 37) (i := 2) rfl rfl dX4_farthest_36 rfl ?_
      refine e_iload_n (pc' := 38) (i := 3) rfl rfl dX4_farthest_37 rfl ?_
      obtain ⟨v4, hF3, h⟩ := g_bd_e h
      refine e_callV_i (pc' := 41) dX4_farthest_38 rfl mw_556 mv_X4_along rfl (Nat.le_of_ble_eq_true rfl) (Nat.le_of_ble_eq_true rfl) rfl (Nat.le_of_ble_eq_true rfl) (Nat.le_of_ble_eq_true rfl) rfl (c_X4_along_38 _ _ _ _ hF3) rfl ?_
      refine e_aload_n (pc' := 42) (i := 0) rfl rfl dX4_farthest_41 rfl ?_
      refine e_getR (a := 38) (b := 42) (k0 := 3) (pc' := 45) dX4_farthest_42 rfl rfl (Nat.le_of_ble_eq_true rfl) (Nat.le_of_ble_eq_true rfl) rfl mw_239 rfl ?_
      refine e_iload (pc' := 47) (i := 5) rfl dX4_farthest_45 rfl ?_
      refine e_iald (n := 60) (pc' := 48) dX4_farthest_47 rfl rfl (Nat.le_of_ble_eq_true rfl) h (fun h => ?_)
      refine e_imul (pc' := 49) dX4_farthest_48 rfl ?_
      refine e_icmp_le (tgt := 56) (pc' := 52) dX4_farthest_49 (by decide) rfl h (fun h => ?_) (fun h => ?_)
      · refine e_iinc (pc' := 59) (v := (x5 + 1)) (lc' := [some (.ref 38), some (.int x1), some (.int x2), some (.int x3), some (.int x4), some (.int (x5 + 1))]) dX4_farthest_56 rfl rfl rfl (Nat.le_of_ble_eq_true rfl) rfl rfl ?_
        refine e_goto (tgt := 6) dX4_farthest_59 (by decide) ?_
        exact e_weak (lc' := [some (.ref 38), some (.int x1), some (.int x2), some (.int x3), some (.int x4), some (.int (x5 + 1))]) (gle_s (gle_s (gle_s (gle_s (gle_s (gle_s gle_0)))))) (ih _ _ _ _ _ _ h)
      · refine e_iload (pc' := 54) (i := 5) rfl dX4_farthest_52 rfl ?_
        refine e_istore (pc' := 56) (i := 4) (lc' := [some (.ref 38), some (.int x1), some (.int x2), some (.int x3), some (.int x5), some (.int x5)]) dX4_farthest_54 rfl (Nat.le_of_ble_eq_true rfl) rfl rfl ?_
        refine e_iinc (pc' := 59) (v := (x5 + 1)) (lc' := [some (.ref 38), some (.int x1), some (.int x2), some (.int x3), some (.int x5), some (.int (x5 + 1))]) dX4_farthest_56 rfl rfl rfl (Nat.le_of_ble_eq_true rfl) rfl rfl ?_
        refine e_goto (tgt := 6) dX4_farthest_59 (by decide) ?_
        exact e_weak (lc' := [some (.ref 38), some (.int x1), some (.int x2), some (.int x3), some (.int x5), some (.int (x5 + 1))]) (gle_s (gle_s (gle_s (gle_s (gle_s (gle_s gle_0)))))) (ih _ _ _ _ _ _ h)
set_option maxHeartbeats 4000000 in
set_option maxRecDepth 100000 in
theorem c_X4_farthest_38 (a0 : Int32) (a1 : Int32) (a2 : Int32) {I : Nat → Int32} {A : Nat → Nat → Int32} {L : Nat → Int64} {t : Int32} (h : f_X4_farthest 38 I A L a0 a1 a2 = some t) : GM 70 yX4_farthest cX4_farthest 6 (some .int) 1 [.ref 38, .int a0, .int a1, .int a2] I A L (some (.int t), (I, A, L)) := by
  refine gm_of (n := 2) (lc := [some (.ref 38), some (.int a0), some (.int a1), some (.int a2), none, none]) (by decide +kernel) rfl (fun _ => Nat.le_of_ble_eq_true rfl) ?_
  change Ev 70 RX4 cX4_farthest 6 (some .int) 1 0 [some (.ref 38), some (.int a0), some (.int a1), some (.int a2), none, none] [] I A L _
  unfold f_X4_farthest at h
  refine e_iconst (v := 0) (pc' := 1) (by decide) dX4_farthest_0 rfl ?_
  refine e_istore (pc' := 3) (i := 4) (lc' := [some (.ref 38), some (.int a0), some (.int a1), some (.int a2), some (.int 0), none]) dX4_farthest_1 rfl (Nat.le_of_ble_eq_true rfl) rfl rfl ?_
  refine e_iconst (v := 1) (pc' := 4) (by decide) dX4_farthest_3 rfl ?_
  refine e_istore (pc' := 6) (i := 5) (lc' := [some (.ref 38), some (.int a0), some (.int a1), some (.int a2), some (.int 0), some (.int 1)]) dX4_farthest_4 rfl (Nat.le_of_ble_eq_true rfl) rfl rfl ?_
  exact e_weak (lc' := [some (.ref 38), some (.int a0), some (.int a1), some (.int a2), some (.int 0), some (.int 1)]) (gle_s (gle_s (gle_s (gle_s (gle_s (gle_s gle_0)))))) (w_X4_farthest_38_p6 I A L  _ _ _ _ _ _ _ h)
set_option maxHeartbeats 4000000 in
set_option maxRecDepth 100000 in
theorem w_X4_cornersAt_38_p17 (I : Nat → Int32) (A : Nat → Nat → Int32) (L : Nat → Int64) : ∀ (n : Nat) (x1 : Int32) (x2 : Int32) (x3 : Int32) (x4 : Int32) (x5 : Int32) (x6 : Int32) (x7 : Int32) (t : Int32), f_X4_cornersAt_p17 38 I A L n x1 x2 x3 x4 x5 x6 x7 = some t → Ev 70 RX4 cX4_cornersAt 8 (some .int) 1 17 [some (.ref 38), some (.int x1), some (.int x2), some (.int x3), some (.int x4), some (.int x5), some (.int x6), some (.int x7)] [] I A L (some (.int t), (I, A, L)) := by
  intro n
  induction n with
  | zero =>
    intro x1 x2 x3 x4 x5 x6 x7 t h
    cases h
  | succ n ih =>
    intro x1 x2 x3 x4 x5 x6 x7 t h
    rw [f_X4_cornersAt_p17] at h
    refine e_iload (pc' := 19) (i := 7) rfl dX4_cornersAt_17 rfl ?_
    refine e_aload_n (pc' := 20) (i := 0) rfl rfl dX4_cornersAt_19 rfl ?_
    refine e_getI (a := 38) (n := 615) (k0 := 7) (pc' := 23) dX4_cornersAt_20 rfl rfl (Nat.le_of_ble_eq_true rfl) (Nat.le_of_ble_eq_true rfl) rfl mw_246 rfl ?_
    refine e_icmp_ge (tgt := 65) (pc' := 26) dX4_cornersAt_23 (by decide) rfl h (fun h => ?_) (fun h => ?_)
    · refine e_iload (pc' := 67) (i := 6) rfl dX4_cornersAt_65 rfl ?_
      obtain rfl := g_re1 h
      exact e_iret dX4_cornersAt_67
    · refine e_aload_n (pc' := 27) (i := 0) rfl rfl dX4_cornersAt_26 rfl ?_
      refine e_iload (pc' := 29) (i := 7) rfl dX4_cornersAt_27 rfl ?_
      refine e_iload_n (pc' := 30) (i := 1) rfl rfl dX4_cornersAt_29 rfl ?_
      refine e_iload_n (pc' := 31) (i := 2) rfl rfl dX4_cornersAt_30 rfl ?_
      refine e_iload_n (pc' := 32) (i := 3) rfl rfl dX4_cornersAt_31 rfl ?_
      obtain ⟨v2, hF1, h⟩ := g_bd_e h
      refine e_callV_i (pc' := 35) dX4_cornersAt_32 rfl mw_556 mv_X4_along rfl (Nat.le_of_ble_eq_true rfl) (Nat.le_of_ble_eq_true rfl) rfl (Nat.le_of_ble_eq_true rfl) (Nat.le_of_ble_eq_true rfl) rfl (c_X4_along_38 _ _ _ _ hF1) rfl ?_
      refine e_aload_n (pc' := 36) (i := 0) rfl rfl dX4_cornersAt_35 rfl ?_
      refine e_getR (a := 38) (b := 42) (k0 := 3) (pc' := 39) dX4_cornersAt_36 rfl rfl (Nat.le_of_ble_eq_true rfl) (Nat.le_of_ble_eq_true rfl) rfl mw_239 rfl ?_
      refine e_iload (pc' := 41) (i := 4) rfl dX4_cornersAt_39 rfl ?_
      refine e_iald (n := 60) (pc' := 42) dX4_cornersAt_41 rfl rfl (Nat.le_of_ble_eq_true rfl) h (fun h => ?_)
      refine e_imul (pc' := 43) dX4_cornersAt_42 rfl ?_
      refine e_iload (pc' := 45) (i := 5) rfl dX4_cornersAt_43 rfl ?_
      refine e_aload_n (pc' := 46) (i := 0) rfl rfl dX4_cornersAt_45 rfl ?_
      refine e_getR (a := 38) (b := 42) (k0 := 3) (pc' := 49) dX4_cornersAt_46 rfl rfl (Nat.le_of_ble_eq_true rfl) (Nat.le_of_ble_eq_true rfl) rfl mw_239 rfl ?_
      refine e_iload (pc' := 51) (i := 7) rfl dX4_cornersAt_49 rfl ?_
      refine e_iald (n := 60) (pc' := 52) dX4_cornersAt_51 rfl rfl (Nat.le_of_ble_eq_true rfl) h (fun h => ?_)
      refine e_imul (pc' := 53) dX4_cornersAt_52 rfl ?_
      refine e_icmp_ne (tgt := 59) (pc' := 56) dX4_cornersAt_53 (by decide) rfl h (fun h => ?_) (fun h => ?_)
      · refine e_iinc (pc' := 62) (v := (x7 + 1)) (lc' := [some (.ref 38), some (.int x1), some (.int x2), some (.int x3), some (.int x4), some (.int x5), some (.int x6), some (.int (x7 + 1))]) dX4_cornersAt_59 rfl rfl rfl (Nat.le_of_ble_eq_true rfl) rfl rfl ?_
        refine e_goto (tgt := 17) dX4_cornersAt_62 (by decide) ?_
        exact e_weak (lc' := [some (.ref 38), some (.int x1), some (.int x2), some (.int x3), some (.int x4), some (.int x5), some (.int x6), some (.int (x7 + 1))]) (gle_s (gle_s (gle_s (gle_s (gle_s (gle_s (gle_s (gle_s gle_0)))))))) (ih _ _ _ _ _ _ _ _ h)
      · refine e_iinc (pc' := 59) (v := (x6 + 1)) (lc' := [some (.ref 38), some (.int x1), some (.int x2), some (.int x3), some (.int x4), some (.int x5), some (.int (x6 + 1)), some (.int x7)]) dX4_cornersAt_56 rfl rfl rfl (Nat.le_of_ble_eq_true rfl) rfl rfl ?_
        refine e_iinc (pc' := 62) (v := (x7 + 1)) (lc' := [some (.ref 38), some (.int x1), some (.int x2), some (.int x3), some (.int x4), some (.int x5), some (.int (x6 + 1)), some (.int (x7 + 1))]) dX4_cornersAt_59 rfl rfl rfl (Nat.le_of_ble_eq_true rfl) rfl rfl ?_
        refine e_goto (tgt := 17) dX4_cornersAt_62 (by decide) ?_
        exact e_weak (lc' := [some (.ref 38), some (.int x1), some (.int x2), some (.int x3), some (.int x4), some (.int x5), some (.int (x6 + 1)), some (.int (x7 + 1))]) (gle_s (gle_s (gle_s (gle_s (gle_s (gle_s (gle_s (gle_s gle_0)))))))) (ih _ _ _ _ _ _ _ _ h)
set_option maxHeartbeats 4000000 in
set_option maxRecDepth 100000 in
theorem c_X4_cornersAt_38 (a0 : Int32) (a1 : Int32) (a2 : Int32) (a3 : Int32) {I : Nat → Int32} {A : Nat → Nat → Int32} {L : Nat → Int64} {t : Int32} (h : f_X4_cornersAt 38 I A L a0 a1 a2 a3 = some t) : GM 70 yX4_cornersAt cX4_cornersAt 8 (some .int) 1 [.ref 38, .int a0, .int a1, .int a2, .int a3] I A L (some (.int t), (I, A, L)) := by
  refine gm_of (n := 3) (lc := [some (.ref 38), some (.int a0), some (.int a1), some (.int a2), some (.int a3), none, none, none]) (by decide +kernel) rfl (fun _ => Nat.le_of_ble_eq_true rfl) ?_
  change Ev 70 RX4 cX4_cornersAt 8 (some .int) 1 0 [some (.ref 38), some (.int a0), some (.int a1), some (.int a2), some (.int a3), none, none, none] [] I A L _
  unfold f_X4_cornersAt at h
  refine e_aload_n (pc' := 1) (i := 0) rfl rfl dX4_cornersAt_0 rfl ?_
  refine e_iload (pc' := 3) (i := 4) rfl dX4_cornersAt_1 rfl ?_
  refine e_iload_n (pc' := 4) (i := 1) rfl rfl dX4_cornersAt_3 rfl ?_
  refine e_iload_n (pc' := 5) (i := 2) rfl rfl dX4_cornersAt_4 rfl ?_
  refine e_iload_n (pc' := 6) (i := 3) rfl rfl dX4_cornersAt_5 rfl ?_
  obtain ⟨v2, hF1, h⟩ := g_bd_e h
  refine e_callV_i (pc' := 9) dX4_cornersAt_6 rfl mw_556 mv_X4_along rfl (Nat.le_of_ble_eq_true rfl) (Nat.le_of_ble_eq_true rfl) rfl (Nat.le_of_ble_eq_true rfl) (Nat.le_of_ble_eq_true rfl) rfl (c_X4_along_38 _ _ _ _ hF1) rfl ?_
  refine e_istore (pc' := 11) (i := 5) (lc' := [some (.ref 38), some (.int a0), some (.int a1), some (.int a2), some (.int a3), some (.int v2), none, none]) dX4_cornersAt_9 rfl (Nat.le_of_ble_eq_true rfl) rfl rfl ?_
  refine e_iconst (v := 0) (pc' := 12) (by decide) dX4_cornersAt_11 rfl ?_
  refine e_istore (pc' := 14) (i := 6) (lc' := [some (.ref 38), some (.int a0), some (.int a1), some (.int a2), some (.int a3), some (.int v2), some (.int 0), none]) dX4_cornersAt_12 rfl (Nat.le_of_ble_eq_true rfl) rfl rfl ?_
  refine e_iconst (v := 0) (pc' := 15) (by decide) dX4_cornersAt_14 rfl ?_
  refine e_istore (pc' := 17) (i := 7) (lc' := [some (.ref 38), some (.int a0), some (.int a1), some (.int a2), some (.int a3), some (.int v2), some (.int 0), some (.int 0)]) dX4_cornersAt_15 rfl (Nat.le_of_ble_eq_true rfl) rfl rfl ?_
  exact e_weak (lc' := [some (.ref 38), some (.int a0), some (.int a1), some (.int a2), some (.int a3), some (.int v2), some (.int 0), some (.int 0)]) (gle_s (gle_s (gle_s (gle_s (gle_s (gle_s (gle_s (gle_s gle_0)))))))) (w_X4_cornersAt_38_p17 I A L  _ _ _ _ _ _ _ _ _ h)
set_option maxHeartbeats 4000000 in
set_option maxRecDepth 100000 in
theorem c_X6_reach (a0 : Int32) (a1 : Int32) (a2 : Int32) {I : Nat → Int32} {A : Nat → Nat → Int32} {L : Nat → Int64} {t : Int32} {I' : Nat → Int32} {A' : Nat → Nat → Int32} {L' : Nat → Int64} (h : f_X6_reach  a0 a1 a2 I A L = some (t, I', A', L')) : GM 70 yX6_reach cX6_reach 7 (some .int) 5 [.ref 0, .int a0, .int a1, .int a2] I A L (some (.int t), (I', A', L')) := by
  refine gm_of (n := 3) (lc := [some (.ref 0), some (.int a0), some (.int a1), some (.int a2), none, none, none]) (by decide +kernel) rfl (fun _ => Nat.le_of_ble_eq_true rfl) ?_
  change Ev 70 RX6 cX6_reach 7 (some .int) 5 0 [some (.ref 0), some (.int a0), some (.int a1), some (.int a2), none, none, none] [] I A L _
  unfold f_X6_reach at h
  refine e_iload_n (pc' := 1) (i := 1) rfl rfl dX6_reach_0 rfl ?_
  refine e_iload_n (pc' := 2) (i := 2) rfl rfl dX6_reach_1 rfl ?_
  refine e_iload_n (pc' := 3) (i := 3) rfl rfl dX6_reach_2 rfl ?_
  obtain ⟨v2, hF1, h⟩ := g_bd_e h
  refine e_callS_i (pc' := 6) dX6_reach_3 rfl mw_388 ms_X6_isSign rfl (Nat.le_of_ble_eq_true rfl) (Nat.le_of_ble_eq_true rfl) (c_X6_isSign _ _ _ hF1) rfl ?_
  refine e_if_ne (tgt := 16) (pc' := 9) dX6_reach_6 (by decide) rfl h (fun h => ?_) (fun h => ?_)
  · refine e_aload_n (pc' := 17) (i := 0) rfl rfl dX6_reach_16 rfl ?_
    obtain ⟨I4, A5, L6, hF3, h⟩ := g_b1_e h
    refine e_callV_a (pc' := 20) dX6_reach_17 rfl mw_503 mv_X6_crystal rfl (Nat.le_of_ble_eq_true rfl) (Nat.le_of_ble_eq_true rfl) rfl (Nat.le_of_ble_eq_true rfl) (Nat.le_of_ble_eq_true rfl) rfl (c_X6_crystal hF3) rfl ?_
    refine e_astore (pc' := 22) (i := 4) (lc' := [some (.ref 0), some (.int a0), some (.int a1), some (.int a2), some (.ref 38), none, none]) dX6_reach_20 rfl (Nat.le_of_ble_eq_true rfl) rfl rfl ?_
    refine e_aload (pc' := 24) (i := 4) rfl dX6_reach_22 rfl ?_
    refine e_iload_n (pc' := 25) (i := 1) rfl rfl dX6_reach_24 rfl ?_
    refine e_iload_n (pc' := 26) (i := 2) rfl rfl dX6_reach_25 rfl ?_
    refine e_iload_n (pc' := 27) (i := 3) rfl rfl dX6_reach_26 rfl ?_
    obtain ⟨v8, hF7, h⟩ := g_bd_e h
    refine e_callVN_i (pc' := 30) dX6_reach_27 rfl mw_663 mv_X4_farthest rfl (Nat.le_of_ble_eq_true rfl) (Nat.le_of_ble_eq_true rfl) rfl (Nat.le_of_ble_eq_true rfl) (Nat.le_of_ble_eq_true rfl) rfl (c_X4_farthest_38 _ _ _ hF7) rfl ?_
    refine e_istore (pc' := 32) (i := 5) (lc' := [some (.ref 0), some (.int a0), some (.int a1), some (.int a2), some (.ref 38), some (.int v8), none]) dX6_reach_30 rfl (Nat.le_of_ble_eq_true rfl) rfl rfl ?_
    refine e_aload (pc' := 34) (i := 4) rfl dX6_reach_32 rfl ?_
    refine e_iload (pc' := 36) (i := 5) rfl dX6_reach_34 rfl ?_
    refine e_iload_n (pc' := 37) (i := 1) rfl rfl dX6_reach_36 rfl ?_
    refine e_iload_n (pc' := 38) (i := 2) rfl rfl dX6_reach_37 rfl ?_
    refine e_iload_n (pc' := 39) (i := 3) rfl rfl dX6_reach_38 rfl ?_
    obtain ⟨v10, hF9, h⟩ := g_bd_e h
    refine e_callVN_i (pc' := 42) dX6_reach_39 rfl mw_667 mv_X4_along rfl (Nat.le_of_ble_eq_true rfl) (Nat.le_of_ble_eq_true rfl) rfl (Nat.le_of_ble_eq_true rfl) (Nat.le_of_ble_eq_true rfl) rfl (c_X4_along_38 _ _ _ _ hF9) rfl ?_
    refine e_istore (pc' := 44) (i := 6) (lc' := [some (.ref 0), some (.int a0), some (.int a1), some (.int a2), some (.ref 38), some (.int v8), some (.int v10)]) dX6_reach_42 rfl (Nat.le_of_ble_eq_true rfl) rfl rfl ?_
    refine e_aload_n (pc' := 45) (i := 0) rfl rfl dX6_reach_44 rfl ?_
    refine e_iload (pc' := 47) (i := 6) rfl dX6_reach_45 rfl ?_
    refine e_aload (pc' := 49) (i := 4) rfl dX6_reach_47 rfl ?_
    refine e_getRN (a := 38) (b := 42) (k0 := 3) (pc' := 52) dX6_reach_49 rfl rfl (Nat.le_of_ble_eq_true rfl) (Nat.le_of_ble_eq_true rfl) rfl mw_240 rfl ?_
    refine e_iload (pc' := 54) (i := 5) rfl dX6_reach_52 rfl ?_
    refine e_iald (n := 60) (pc' := 55) dX6_reach_54 rfl rfl (Nat.le_of_ble_eq_true rfl) h (fun h => ?_)
    obtain ⟨I12, A13, L14, hF11, h⟩ := g_b1_e h
    refine e_callV_v (pc' := 58) dX6_reach_55 rfl mw_631 mv_X6_setFraction rfl (Nat.le_of_ble_eq_true rfl) (Nat.le_of_ble_eq_true rfl) rfl (Nat.le_of_ble_eq_true rfl) (Nat.le_of_ble_eq_true rfl) rfl (c_X6_setFraction _ _ hF11) rfl ?_
    refine e_aload (pc' := 60) (i := 4) rfl dX6_reach_58 rfl ?_
    refine e_iload_n (pc' := 61) (i := 1) rfl rfl dX6_reach_60 rfl ?_
    refine e_iload_n (pc' := 62) (i := 2) rfl rfl dX6_reach_61 rfl ?_
    refine e_iload_n (pc' := 63) (i := 3) rfl rfl dX6_reach_62 rfl ?_
    refine e_iload (pc' := 65) (i := 5) rfl dX6_reach_63 rfl ?_
    obtain ⟨v16, hF15, h⟩ := g_bd_e h
    refine e_callVN_i (pc' := 68) dX6_reach_65 rfl mw_668 mv_X4_cornersAt rfl (Nat.le_of_ble_eq_true rfl) (Nat.le_of_ble_eq_true rfl) rfl (Nat.le_of_ble_eq_true rfl) (Nat.le_of_ble_eq_true rfl) rfl (c_X4_cornersAt_38 _ _ _ _ hF15) rfl ?_
    obtain ⟨rfl, rfl, rfl, rfl⟩ := g_re4 h
    exact e_iret dX6_reach_68
  · refine e_aload_n (pc' := 10) (i := 0) rfl rfl dX6_reach_9 rfl ?_
    refine e_bipush (v := (-2)) (pc' := 12) (by decide) dX6_reach_10 rfl ?_
    obtain ⟨v21, I18, A19, L20, hF17, h⟩ := g_b2_e h
    refine e_callV_i (pc' := 15) dX6_reach_12 rfl mw_397 mv_X6_refuseBad rfl (Nat.le_of_ble_eq_true rfl) (Nat.le_of_ble_eq_true rfl) rfl (Nat.le_of_ble_eq_true rfl) (Nat.le_of_ble_eq_true rfl) rfl (c_X6_refuseBad _ hF17) rfl ?_
    obtain ⟨rfl, rfl, rfl, rfl⟩ := g_re4 h
    exact e_iret dX6_reach_15
set_option maxHeartbeats 4000000 in
set_option maxRecDepth 100000 in
theorem w_X4_isKeptBy_38_p2 (I : Nat → Int32) (A : Nat → Nat → Int32) (L : Nat → Int64) : ∀ (n : Nat) (x1 : Int32) (x2 : Int32) (t : Int32), f_X4_isKeptBy_p2 38 I A L n x1 x2 = some t → Ev 70 RX4 cX4_isKeptBy 7 (some .boolean) 2 2 [some (.ref 38), some (.int x1), some (.int x2), none, none, none, none] [] I A L (some (.int t), (I, A, L)) := by
  intro n
  induction n with
  | zero =>
    intro x1 x2 t h
    cases h
  | succ n ih =>
    intro x1 x2 t h
    rw [f_X4_isKeptBy_p2] at h
    refine e_iload_n (pc' := 3) (i := 2) rfl rfl dX4_isKeptBy_2 rfl ?_
    refine e_aload_n (pc' := 4) (i := 0) rfl rfl dX4_isKeptBy_3 rfl ?_
    refine e_getI (a := 38) (n := 615) (k0 := 7) (pc' := 7) dX4_isKeptBy_4 rfl rfl (Nat.le_of_ble_eq_true rfl) (Nat.le_of_ble_eq_true rfl) rfl mw_246 rfl ?_
    refine e_icmp_ge (tgt := 138) (pc' := 10) dX4_isKeptBy_7 (by decide) rfl h (fun h => ?_) (fun h => ?_)
    · refine e_iconst (v := 1) (pc' := 139) (by decide) dX4_isKeptBy_138 rfl ?_
      obtain rfl := g_re1 h
      exact e_zret dX4_isKeptBy_139 (by decide)
    · refine e_iload_n (pc' := 11) (i := 1) rfl rfl dX4_isKeptBy_10 rfl ?_
      refine e_iconst (v := 0) (pc' := 12) (by decide) dX4_isKeptBy_11 rfl ?_
      refine e_aload_n (pc' := 13) (i := 0) rfl rfl dX4_isKeptBy_12 rfl ?_
      refine e_getR (a := 38) (b := 39) (k0 := 0) (pc' := 16) dX4_isKeptBy_13 rfl rfl (Nat.le_of_ble_eq_true rfl) (Nat.le_of_ble_eq_true rfl) rfl mw_236 rfl ?_
      refine e_iload_n (pc' := 17) (i := 2) rfl rfl dX4_isKeptBy_16 rfl ?_
      refine e_iald (n := 60) (pc' := 18) dX4_isKeptBy_17 rfl rfl (Nat.le_of_ble_eq_true rfl) h (fun h => ?_)
      refine e_aload_n (pc' := 19) (i := 0) rfl rfl dX4_isKeptBy_18 rfl ?_
      refine e_getR (a := 38) (b := 40) (k0 := 1) (pc' := 22) dX4_isKeptBy_19 rfl rfl (Nat.le_of_ble_eq_true rfl) (Nat.le_of_ble_eq_true rfl) rfl mw_237 rfl ?_
      refine e_iload_n (pc' := 23) (i := 2) rfl rfl dX4_isKeptBy_22 rfl ?_
      refine e_iald (n := 60) (pc' := 24) dX4_isKeptBy_23 rfl rfl (Nat.le_of_ble_eq_true rfl) h (fun h => ?_)
      refine e_aload_n (pc' := 25) (i := 0) rfl rfl dX4_isKeptBy_24 rfl ?_
      refine e_getR (a := 38) (b := 41) (k0 := 2) (pc' := 28) dX4_isKeptBy_25 rfl rfl (Nat.le_of_ble_eq_true rfl) (Nat.le_of_ble_eq_true rfl) rfl mw_238 rfl ?_
      refine e_iload_n (pc' := 29) (i := 2) rfl rfl dX4_isKeptBy_28 rfl ?_
      refine e_iald (n := 60) (pc' := 30) dX4_isKeptBy_29 rfl rfl (Nat.le_of_ble_eq_true rfl) h (fun h => ?_)
      obtain ⟨v2, hF1, h⟩ := g_bd_e h
      refine e_callSN_i (pc' := 33) dX4_isKeptBy_30 rfl mw_680 ms_X6_turned rfl (Nat.le_of_ble_eq_true rfl) (Nat.le_of_ble_eq_true rfl) (c_X6_turned _ _ _ _ _ hF1) rfl ?_
      refine e_istore_n (pc' := 34) (i := 3) (lc' := [some (.ref 38), some (.int x1), some (.int x2), some (.int v2), none, none, none]) rfl dX4_isKeptBy_33 rfl (Nat.le_of_ble_eq_true rfl) rfl rfl ?_
      refine e_iload_n (pc' := 35) (i := 1) rfl rfl dX4_isKeptBy_34 rfl ?_
      refine e_iconst (v := 1) (pc' := 36) (by decide) dX4_isKeptBy_35 rfl ?_
      refine e_aload_n (pc' := 37) (i := 0) rfl rfl dX4_isKeptBy_36 rfl ?_
      refine e_getR (a := 38) (b := 39) (k0 := 0) (pc' := 40) dX4_isKeptBy_37 rfl rfl (Nat.le_of_ble_eq_true rfl) (Nat.le_of_ble_eq_true rfl) rfl mw_236 rfl ?_
      refine e_iload_n (pc' := 41) (i := 2) rfl rfl dX4_isKeptBy_40 rfl ?_
      refine e_iald (n := 60) (pc' := 42) dX4_isKeptBy_41 rfl rfl (Nat.le_of_ble_eq_true rfl) h (fun h => ?_)
      refine e_aload_n (pc' := 43) (i := 0) rfl rfl dX4_isKeptBy_42 rfl ?_
      refine e_getR (a := 38) (b := 40) (k0 := 1) (pc' := 46) dX4_isKeptBy_43 rfl rfl (Nat.le_of_ble_eq_true rfl) (Nat.le_of_ble_eq_true rfl) rfl mw_237 rfl ?_
      refine e_iload_n (pc' := 47) (i := 2) rfl rfl dX4_isKeptBy_46 rfl ?_
      refine e_iald (n := 60) (pc' := 48) dX4_isKeptBy_47 rfl rfl (Nat.le_of_ble_eq_true rfl) h (fun h => ?_)
      refine e_aload_n (pc' := 49) (i := 0) rfl rfl dX4_isKeptBy_48 rfl ?_
      refine e_getR (a := 38) (b := 41) (k0 := 2) (pc' := 52) dX4_isKeptBy_49 rfl rfl (Nat.le_of_ble_eq_true rfl) (Nat.le_of_ble_eq_true rfl) rfl mw_238 rfl ?_
      refine e_iload_n (pc' := 53) (i := 2) rfl rfl dX4_isKeptBy_52 rfl ?_
      refine e_iald (n := 60) (pc' := 54) dX4_isKeptBy_53 rfl rfl (Nat.le_of_ble_eq_true rfl) h (fun h => ?_)
      obtain ⟨v4, hF3, h⟩ := g_bd_e h
      refine e_callSN_i (pc' := 57) dX4_isKeptBy_54 rfl mw_680 ms_X6_turned rfl (Nat.le_of_ble_eq_true rfl) (Nat.le_of_ble_eq_true rfl) (c_X6_turned _ _ _ _ _ hF3) rfl ?_
      refine e_istore (pc' := 59) (i := 4) (lc' := [some (.ref 38), some (.int x1), some (.int x2), some (.int v2), some (.int v4), none, none]) dX4_isKeptBy_57 rfl (Nat.le_of_ble_eq_true rfl) rfl rfl ?_
      refine e_iload_n (pc' := 60) (i := 1) rfl rfl dX4_isKeptBy_59 rfl ?_
      refine e_iconst (v := 2) (pc' := 61) (by decide) dX4_isKeptBy_60 rfl ?_
      refine e_aload_n (pc' := 62) (i := 0) rfl rfl dX4_isKeptBy_61 rfl ?_
      refine e_getR (a := 38) (b := 39) (k0 := 0) (pc' := 65) dX4_isKeptBy_62 rfl rfl (Nat.le_of_ble_eq_true rfl) (Nat.le_of_ble_eq_true rfl) rfl mw_236 rfl ?_
      refine e_iload_n (pc' := 66) (i := 2) rfl rfl dX4_isKeptBy_65 rfl ?_
      refine e_iald (n := 60) (pc' := 67) dX4_isKeptBy_66 rfl rfl (Nat.le_of_ble_eq_true rfl) h (fun h => ?_)
      refine e_aload_n (pc' := 68) (i := 0) rfl rfl dX4_isKeptBy_67 rfl ?_
      refine e_getR (a := 38) (b := 40) (k0 := 1) (pc' := 71) dX4_isKeptBy_68 rfl rfl (Nat.le_of_ble_eq_true rfl) (Nat.le_of_ble_eq_true rfl) rfl mw_237 rfl ?_
      refine e_iload_n (pc' := 72) (i := 2) rfl rfl dX4_isKeptBy_71 rfl ?_
      refine e_iald (n := 60) (pc' := 73) dX4_isKeptBy_72 rfl rfl (Nat.le_of_ble_eq_true rfl) h (fun h => ?_)
      refine e_aload_n (pc' := 74) (i := 0) rfl rfl dX4_isKeptBy_73 rfl ?_
      refine e_getR (a := 38) (b := 41) (k0 := 2) (pc' := 77) dX4_isKeptBy_74 rfl rfl (Nat.le_of_ble_eq_true rfl) (Nat.le_of_ble_eq_true rfl) rfl mw_238 rfl ?_
      refine e_iload_n (pc' := 78) (i := 2) rfl rfl dX4_isKeptBy_77 rfl ?_
      refine e_iald (n := 60) (pc' := 79) dX4_isKeptBy_78 rfl rfl (Nat.le_of_ble_eq_true rfl) h (fun h => ?_)
      obtain ⟨v6, hF5, h⟩ := g_bd_e h
      refine e_callSN_i (pc' := 82) dX4_isKeptBy_79 rfl mw_680 ms_X6_turned rfl (Nat.le_of_ble_eq_true rfl) (Nat.le_of_ble_eq_true rfl) (c_X6_turned _ _ _ _ _ hF5) rfl ?_
      refine e_istore (pc' := 84) (i := 5) (lc' := [some (.ref 38), some (.int x1), some (.int x2), some (.int v2), some (.int v4), some (.int v6), none]) dX4_isKeptBy_82 rfl (Nat.le_of_ble_eq_true rfl) rfl rfl ?_
      refine e_aload_n (pc' := 85) (i := 0) rfl rfl dX4_isKeptBy_84 rfl ?_
      refine e_iload_n (pc' := 86) (i := 3) rfl rfl dX4_isKeptBy_85 rfl ?_
      refine e_iload (pc' := 88) (i := 4) rfl dX4_isKeptBy_86 rfl ?_
      refine e_iload (pc' := 90) (i := 5) rfl dX4_isKeptBy_88 rfl ?_
      refine e_aload_n (pc' := 91) (i := 0) rfl rfl dX4_isKeptBy_90 rfl ?_
      refine e_getR (a := 38) (b := 42) (k0 := 3) (pc' := 94) dX4_isKeptBy_91 rfl rfl (Nat.le_of_ble_eq_true rfl) (Nat.le_of_ble_eq_true rfl) rfl mw_239 rfl ?_
      refine e_iload_n (pc' := 95) (i := 2) rfl rfl dX4_isKeptBy_94 rfl ?_
      refine e_iald (n := 60) (pc' := 96) dX4_isKeptBy_95 rfl rfl (Nat.le_of_ble_eq_true rfl) h (fun h => ?_)
      obtain ⟨v8, hF7, h⟩ := g_bd_e h
      refine e_callV_i (pc' := 99) dX4_isKeptBy_96 rfl mw_533 mv_X4_placeOf rfl (Nat.le_of_ble_eq_true rfl) (Nat.le_of_ble_eq_true rfl) rfl (Nat.le_of_ble_eq_true rfl) (Nat.le_of_ble_eq_true rfl) rfl (c_X4_placeOf_38 _ _ _ _ hF7) rfl ?_
      refine e_istore (pc' := 101) (i := 6) (lc' := [some (.ref 38), some (.int x1), some (.int x2), some (.int v2), some (.int v4), some (.int v6), some (.int v8)]) dX4_isKeptBy_99 rfl (Nat.le_of_ble_eq_true rfl) rfl rfl ?_
      refine e_iload (pc' := 103) (i := 6) rfl dX4_isKeptBy_101 rfl ?_
      refine e_aload_n (pc' := 104) (i := 0) rfl rfl dX4_isKeptBy_103 rfl ?_
      refine e_getI (a := 38) (n := 615) (k0 := 7) (pc' := 107) dX4_isKeptBy_104 rfl rfl (Nat.le_of_ble_eq_true rfl) (Nat.le_of_ble_eq_true rfl) rfl mw_246 rfl ?_
      refine e_icmp_ge (tgt := 130) (pc' := 110) dX4_isKeptBy_107 (by decide) rfl h (fun h => ?_) (fun h => ?_)
      · refine e_iconst (v := 0) (pc' := 131) (by decide) dX4_isKeptBy_130 rfl ?_
        obtain rfl := g_re1 h
        exact e_zret dX4_isKeptBy_131 (by decide)
      · refine e_aload_n (pc' := 111) (i := 0) rfl rfl dX4_isKeptBy_110 rfl ?_
        refine e_iload (pc' := 113) (i := 6) rfl dX4_isKeptBy_111 rfl ?_
        refine e_iload_n (pc' := 114) (i := 3) rfl rfl dX4_isKeptBy_113 rfl ?_
        refine e_iload (pc' := 116) (i := 4) rfl dX4_isKeptBy_114 rfl ?_
        refine e_iload (pc' := 118) (i := 5) rfl dX4_isKeptBy_116 rfl ?_
        refine e_aload_n (pc' := 119) (i := 0) rfl rfl dX4_isKeptBy_118 rfl ?_
        refine e_getR (a := 38) (b := 42) (k0 := 3) (pc' := 122) dX4_isKeptBy_119 rfl rfl (Nat.le_of_ble_eq_true rfl) (Nat.le_of_ble_eq_true rfl) rfl mw_239 rfl ?_
        refine e_iload_n (pc' := 123) (i := 2) rfl rfl dX4_isKeptBy_122 rfl ?_
        refine e_iald (n := 60) (pc' := 124) dX4_isKeptBy_123 rfl rfl (Nat.le_of_ble_eq_true rfl) h (fun h => ?_)
        obtain ⟨v10, hF9, h⟩ := g_bd_e h
        refine e_callV_i (pc' := 127) dX4_isKeptBy_124 rfl mw_537 mv_X4_order rfl (Nat.le_of_ble_eq_true rfl) (Nat.le_of_ble_eq_true rfl) rfl (Nat.le_of_ble_eq_true rfl) (Nat.le_of_ble_eq_true rfl) rfl (c_X4_order_38 _ _ _ _ _ hF9) rfl ?_
        refine e_if_eq (tgt := 132) (pc' := 130) dX4_isKeptBy_127 (by decide) rfl h (fun h => ?_) (fun h => ?_)
        · refine e_iinc (pc' := 135) (v := (x2 + 1)) (lc' := [some (.ref 38), some (.int x1), some (.int (x2 + 1)), some (.int v2), some (.int v4), some (.int v6), some (.int v8)]) dX4_isKeptBy_132 rfl rfl rfl (Nat.le_of_ble_eq_true rfl) rfl rfl ?_
          refine e_goto (tgt := 2) dX4_isKeptBy_135 (by decide) ?_
          exact e_weak (lc' := [some (.ref 38), some (.int x1), some (.int (x2 + 1)), none, none, none, none]) (gle_s (gle_s (gle_s (gle_n (gle_n (gle_n (gle_n gle_0))))))) (ih _ _ _ h)
        · refine e_iconst (v := 0) (pc' := 131) (by decide) dX4_isKeptBy_130 rfl ?_
          obtain rfl := g_re1 h
          exact e_zret dX4_isKeptBy_131 (by decide)
set_option maxHeartbeats 4000000 in
set_option maxRecDepth 100000 in
theorem c_X4_isKeptBy_38 (a0 : Int32) {I : Nat → Int32} {A : Nat → Nat → Int32} {L : Nat → Int64} {t : Int32} (h : f_X4_isKeptBy 38 I A L a0 = some t) : GM 70 yX4_isKeptBy cX4_isKeptBy 7 (some .boolean) 2 [.ref 38, .int a0] I A L (some (.int t), (I, A, L)) := by
  refine gm_of (n := 5) (lc := [some (.ref 38), some (.int a0), none, none, none, none, none]) (by decide +kernel) rfl (fun _ => Nat.le_of_ble_eq_true rfl) ?_
  change Ev 70 RX4 cX4_isKeptBy 7 (some .boolean) 2 0 [some (.ref 38), some (.int a0), none, none, none, none, none] [] I A L _
  unfold f_X4_isKeptBy at h
  refine e_iconst (v := 0) (pc' := 1) (by decide) dX4_isKeptBy_0 rfl ?_
  refine e_istore_n (pc' := 2) (i := 2) (lc' := [some (.ref 38), some (.int a0), some (.int 0), none, none, none, none]) rfl dX4_isKeptBy_1 rfl (Nat.le_of_ble_eq_true rfl) rfl rfl ?_
  exact e_weak (lc' := [some (.ref 38), some (.int a0), some (.int 0), none, none, none, none]) (gle_s (gle_s (gle_s (gle_n (gle_n (gle_n (gle_n gle_0))))))) (w_X4_isKeptBy_38_p2 I A L  _ _ _ _ h)
set_option maxHeartbeats 4000000 in
set_option maxRecDepth 100000 in
theorem w_X6_stays_p10  : ∀ (I : Nat → Int32) (A : Nat → Nat → Int32) (L : Nat → Int64) (t : (Int32 × gS)), f_X6_stays_p10 I A L = some t → Ev 70 RX6 cX6_stays 2 (some .int) 5 10 [some (.ref 0), none] [] I A L (some (.int t.1), t.2) := by
  intro  I A L t h
  unfold f_X6_stays_p10 at h
  refine e_aload_n (pc' := 11) (i := 0) rfl rfl dX6_stays_10 rfl ?_
  refine e_bipush (v := (-2)) (pc' := 13) (by decide) dX6_stays_11 rfl ?_
  obtain ⟨v5, I2, A3, L4, hF1, h⟩ := g_b2_e h
  refine e_callV_i (pc' := 16) dX6_stays_13 rfl mw_397 mv_X6_refuseBad rfl (Nat.le_of_ble_eq_true rfl) (Nat.le_of_ble_eq_true rfl) rfl (Nat.le_of_ble_eq_true rfl) (Nat.le_of_ble_eq_true rfl) rfl (c_X6_refuseBad _ hF1) rfl ?_
  obtain rfl := g_re1 h
  exact e_iret dX6_stays_16
set_option maxHeartbeats 4000000 in
set_option maxRecDepth 100000 in
theorem c_X6_stays (a0 : Int32) {I : Nat → Int32} {A : Nat → Nat → Int32} {L : Nat → Int64} {t : Int32} {I' : Nat → Int32} {A' : Nat → Nat → Int32} {L' : Nat → Int64} (h : f_X6_stays  a0 I A L = some (t, I', A', L')) : GM 70 yX6_stays cX6_stays 2 (some .int) 5 [.ref 0, .int a0] I A L (some (.int t), (I', A', L')) := by
  refine gm_of (n := 0) (lc := [some (.ref 0), some (.int a0)]) (by decide +kernel) rfl (fun _ => Nat.le_of_ble_eq_true rfl) ?_
  change Ev 70 RX6 cX6_stays 2 (some .int) 5 0 [some (.ref 0), some (.int a0)] [] I A L _
  unfold f_X6_stays at h
  refine e_iload_n (pc' := 1) (i := 1) rfl rfl dX6_stays_0 rfl ?_
  refine e_if_lt (tgt := 10) (pc' := 4) dX6_stays_1 (by decide) rfl h (fun h => ?_) (fun h => ?_)
  · exact e_weak (lc' := [some (.ref 0), none]) (gle_s (gle_n gle_0)) (w_X6_stays_p10  _ _ _ _ h)
  · refine e_iload_n (pc' := 5) (i := 1) rfl rfl dX6_stays_4 rfl ?_
    refine e_bipush (v := 6) (pc' := 7) (by decide) dX6_stays_5 rfl ?_
    refine e_icmp_lt (tgt := 17) (pc' := 10) dX6_stays_7 (by decide) rfl h (fun h => ?_) (fun h => ?_)
    · refine e_aload_n (pc' := 18) (i := 0) rfl rfl dX6_stays_17 rfl ?_
      obtain ⟨I2, A3, L4, hF1, h⟩ := g_b1_e h
      refine e_callV_a (pc' := 21) dX6_stays_18 rfl mw_503 mv_X6_crystal rfl (Nat.le_of_ble_eq_true rfl) (Nat.le_of_ble_eq_true rfl) rfl (Nat.le_of_ble_eq_true rfl) (Nat.le_of_ble_eq_true rfl) rfl (c_X6_crystal hF1) rfl ?_
      refine e_iload_n (pc' := 22) (i := 1) rfl rfl dX6_stays_21 rfl ?_
      obtain ⟨v6, hF5, h⟩ := g_bd_e h
      refine e_callVN_i (pc' := 25) dX6_stays_22 rfl mw_676 mv_X4_isKeptBy rfl (Nat.le_of_ble_eq_true rfl) (Nat.le_of_ble_eq_true rfl) rfl (Nat.le_of_ble_eq_true rfl) (Nat.le_of_ble_eq_true rfl) rfl (c_X4_isKeptBy_38 _ hF5) rfl ?_
      refine e_if_eq (tgt := 32) (pc' := 28) dX6_stays_25 (by decide) rfl h (fun h => ?_) (fun h => ?_)
      · refine e_iconst (v := 0) (pc' := 33) (by decide) dX6_stays_32 rfl ?_
        obtain ⟨rfl, rfl, rfl, rfl⟩ := g_re4 h
        exact e_iret dX6_stays_33
      · refine e_iconst (v := 1) (pc' := 29) (by decide) dX6_stays_28 rfl ?_
        refine e_goto (tgt := 33) dX6_stays_29 (by decide) ?_
        obtain ⟨rfl, rfl, rfl, rfl⟩ := g_re4 h
        exact e_iret dX6_stays_33
    · exact e_weak (lc' := [some (.ref 0), none]) (gle_s (gle_n gle_0)) (w_X6_stays_p10  _ _ _ _ h)
set_option maxHeartbeats 4000000 in
set_option maxRecDepth 100000 in
theorem w_X6_symmetry_p9  : ∀ (n : Nat) (x2 : Int32) (x3 : Int32) (I : Nat → Int32) (A : Nat → Nat → Int32) (L : Nat → Int64) (t : (Int32 × gS)), f_X6_symmetry_p9 n x2 x3 I A L = some t → Ev 70 RX6 cX6_symmetry 4 (some .int) 5 9 [none, some (.ref 38), some (.int x2), some (.int x3)] [] I A L (some (.int t.1), t.2) := by
  intro n
  induction n with
  | zero =>
    intro x2 x3 I A L t h
    cases h
  | succ n ih =>
    intro x2 x3 I A L t h
    rw [f_X6_symmetry_p9] at h
    refine e_iload_n (pc' := 10) (i := 3) rfl rfl dX6_symmetry_9 rfl ?_
    refine e_bipush (v := 6) (pc' := 12) (by decide) dX6_symmetry_10 rfl ?_
    refine e_icmp_ge (tgt := 35) (pc' := 15) dX6_symmetry_12 (by decide) rfl h (fun h => ?_) (fun h => ?_)
    · refine e_iload_n (pc' := 36) (i := 2) rfl rfl dX6_symmetry_35 rfl ?_
      obtain rfl := g_re1 h
      exact e_iret dX6_symmetry_36
    · refine e_aload_n (pc' := 16) (i := 1) rfl rfl dX6_symmetry_15 rfl ?_
      refine e_iload_n (pc' := 17) (i := 3) rfl rfl dX6_symmetry_16 rfl ?_
      obtain ⟨v2, hF1, h⟩ := g_bd_e h
      refine e_callVN_i (pc' := 20) dX6_symmetry_17 rfl mw_676 mv_X4_isKeptBy rfl (Nat.le_of_ble_eq_true rfl) (Nat.le_of_ble_eq_true rfl) rfl (Nat.le_of_ble_eq_true rfl) (Nat.le_of_ble_eq_true rfl) rfl (c_X4_isKeptBy_38 _ hF1) rfl ?_
      refine e_if_eq (tgt := 29) (pc' := 23) dX6_symmetry_20 (by decide) rfl h (fun h => ?_) (fun h => ?_)
      · refine e_iinc (pc' := 32) (v := (x3 + 1)) (lc' := [none, some (.ref 38), some (.int x2), some (.int (x3 + 1))]) dX6_symmetry_29 rfl rfl rfl (Nat.le_of_ble_eq_true rfl) rfl rfl ?_
        refine e_goto (tgt := 9) dX6_symmetry_32 (by decide) ?_
        exact e_weak (lc' := [none, some (.ref 38), some (.int x2), some (.int (x3 + 1))]) (gle_n (gle_s (gle_s (gle_s gle_0)))) (ih _ _ _ _ _ _ h)
      · refine e_iload_n (pc' := 24) (i := 2) rfl rfl dX6_symmetry_23 rfl ?_
        refine e_iconst (v := 1) (pc' := 25) (by decide) dX6_symmetry_24 rfl ?_
        refine e_iload_n (pc' := 26) (i := 3) rfl rfl dX6_symmetry_25 rfl ?_
        refine e_ishl (pc' := 27) dX6_symmetry_26 rfl ?_
        refine e_ior (pc' := 28) dX6_symmetry_27 rfl ?_
        refine e_lt h (fun v3 h => ?_)
        refine e_istore_n (pc' := 29) (i := 2) (lc' := [none, some (.ref 38), some (.int v3), some (.int x3)]) rfl dX6_symmetry_28 rfl (Nat.le_of_ble_eq_true rfl) rfl rfl ?_
        refine e_iinc (pc' := 32) (v := (x3 + 1)) (lc' := [none, some (.ref 38), some (.int v3), some (.int (x3 + 1))]) dX6_symmetry_29 rfl rfl rfl (Nat.le_of_ble_eq_true rfl) rfl rfl ?_
        refine e_goto (tgt := 9) dX6_symmetry_32 (by decide) ?_
        exact e_weak (lc' := [none, some (.ref 38), some (.int v3), some (.int (x3 + 1))]) (gle_n (gle_s (gle_s (gle_s gle_0)))) (ih _ _ _ _ _ _ h)
set_option maxHeartbeats 4000000 in
set_option maxRecDepth 100000 in
theorem c_X6_symmetry  {I : Nat → Int32} {A : Nat → Nat → Int32} {L : Nat → Int64} {t : Int32} {I' : Nat → Int32} {A' : Nat → Nat → Int32} {L' : Nat → Int64} (h : f_X6_symmetry   I A L = some (t, I', A', L')) : GM 70 yX6_symmetry cX6_symmetry 4 (some .int) 5 [.ref 0] I A L (some (.int t), (I', A', L')) := by
  refine gm_of (n := 3) (lc := [some (.ref 0), none, none, none]) (by decide +kernel) rfl (fun _ => Nat.le_of_ble_eq_true rfl) ?_
  change Ev 70 RX6 cX6_symmetry 4 (some .int) 5 0 [some (.ref 0), none, none, none] [] I A L _
  unfold f_X6_symmetry at h
  refine e_aload_n (pc' := 1) (i := 0) rfl rfl dX6_symmetry_0 rfl ?_
  obtain ⟨I2, A3, L4, hF1, h⟩ := g_b1_e h
  refine e_callV_a (pc' := 4) dX6_symmetry_1 rfl mw_503 mv_X6_crystal rfl (Nat.le_of_ble_eq_true rfl) (Nat.le_of_ble_eq_true rfl) rfl (Nat.le_of_ble_eq_true rfl) (Nat.le_of_ble_eq_true rfl) rfl (c_X6_crystal hF1) rfl ?_
  refine e_astore_n (pc' := 5) (i := 1) (lc' := [some (.ref 0), some (.ref 38), none, none]) rfl dX6_symmetry_4 rfl (Nat.le_of_ble_eq_true rfl) rfl rfl ?_
  refine e_iconst (v := 0) (pc' := 6) (by decide) dX6_symmetry_5 rfl ?_
  refine e_istore_n (pc' := 7) (i := 2) (lc' := [some (.ref 0), some (.ref 38), some (.int 0), none]) rfl dX6_symmetry_6 rfl (Nat.le_of_ble_eq_true rfl) rfl rfl ?_
  refine e_iconst (v := 0) (pc' := 8) (by decide) dX6_symmetry_7 rfl ?_
  refine e_istore_n (pc' := 9) (i := 3) (lc' := [some (.ref 0), some (.ref 38), some (.int 0), some (.int 0)]) rfl dX6_symmetry_8 rfl (Nat.le_of_ble_eq_true rfl) rfl rfl ?_
  exact e_weak (lc' := [none, some (.ref 38), some (.int 0), some (.int 0)]) (gle_n (gle_s (gle_s (gle_s gle_0)))) (w_X6_symmetry_p9  _ _ _ _ _ _ _ h)
set_option maxHeartbeats 4000000 in
set_option maxRecDepth 100000 in
theorem c_X6_offsWithin (a0 : Int32) (a1 : Int32) {I : Nat → Int32} {A : Nat → Nat → Int32} {L : Nat → Int64} {t : Int32} (h : f_X6_offsWithin I A L a0 a1 = some t) : GM 70 yX6_offsWithin cX6_offsWithin 2 (some .int) 1 [.int a0, .int a1] I A L (some (.int t), (I, A, L)) := by
  refine gm_of (n := 0) (lc := [some (.int a0), some (.int a1)]) (by decide +kernel) rfl (fun _ => Nat.le_of_ble_eq_true rfl) ?_
  change Ev 70 RX6 cX6_offsWithin 2 (some .int) 1 0 [some (.int a0), some (.int a1)] [] I A L _
  unfold f_X6_offsWithin at h
  refine e_iload_n (pc' := 1) (i := 1) rfl rfl dX6_offsWithin_0 rfl ?_
  refine e_if_le (tgt := 17) (pc' := 4) dX6_offsWithin_1 (by decide) rfl h (fun h => ?_) (fun h => ?_)
  · refine e_iconst (v := 0) (pc' := 18) (by decide) dX6_offsWithin_17 rfl ?_
    obtain rfl := g_re1 h
    exact e_iret dX6_offsWithin_18
  · refine e_bipush (v := 60) (pc' := 6) (by decide) dX6_offsWithin_4 rfl ?_
    refine e_iload_n (pc' := 7) (i := 0) rfl rfl dX6_offsWithin_6 rfl ?_
    refine e_iconst (v := 1) (pc' := 8) (by decide) dX6_offsWithin_7 rfl ?_
    refine e_isub (pc' := 9) dX6_offsWithin_8 rfl ?_
    refine e_iload_n (pc' := 10) (i := 1) rfl rfl dX6_offsWithin_9 rfl ?_
    obtain ⟨hz1, h⟩ := g_dv_e h
    refine e_idiv (pc' := 11) hz1 dX6_offsWithin_10 rfl ?_
    refine e_mmin (pc' := 14) dX6_offsWithin_11 rfl mw_695 mw_421 mw_109 mw_422 (Nat.le_of_ble_eq_true rfl) (Nat.le_of_ble_eq_true rfl) ?_
    refine e_goto (tgt := 18) dX6_offsWithin_14 (by decide) ?_
    obtain rfl := g_re1 h
    exact e_iret dX6_offsWithin_18
set_option maxHeartbeats 4000000 in
set_option maxRecDepth 100000 in
theorem w_X6_leastBeyond_p14 (I : Nat → Int32) (A : Nat → Nat → Int32) (L : Nat → Int64) : ∀ (s0 : Int32) (t : Int32), f_X6_leastBeyond_p14 I A L s0 = some t → Ev 70 RX6 cX6_leastBeyond 3 (some .int) 0 14 [none, none, none] [.int s0] I A L (some (.int t), (I, A, L)) := by
  intro s0  t h
  unfold f_X6_leastBeyond_p14 at h
  refine e_istore_n (pc' := 15) (i := 2) (lc' := [none, none, some (.int s0)]) rfl dX6_leastBeyond_14 rfl (Nat.le_of_ble_eq_true rfl) rfl rfl ?_
  refine e_iload_n (pc' := 16) (i := 2) rfl rfl dX6_leastBeyond_15 rfl ?_
  refine e_bipush (v := 60) (pc' := 18) (by decide) dX6_leastBeyond_16 rfl ?_
  refine e_icmp_gt (tgt := 25) (pc' := 21) dX6_leastBeyond_18 (by decide) rfl h (fun h => ?_) (fun h => ?_)
  · refine e_iconst (v := (-1)) (pc' := 26) (by decide) dX6_leastBeyond_25 rfl ?_
    obtain rfl := g_re1 h
    exact e_iret dX6_leastBeyond_26
  · refine e_iload_n (pc' := 22) (i := 2) rfl rfl dX6_leastBeyond_21 rfl ?_
    refine e_goto (tgt := 26) dX6_leastBeyond_22 (by decide) ?_
    obtain rfl := g_re1 h
    exact e_iret dX6_leastBeyond_26
set_option maxHeartbeats 4000000 in
set_option maxRecDepth 100000 in
theorem c_X6_leastBeyond (a0 : Int32) (a1 : Int32) {I : Nat → Int32} {A : Nat → Nat → Int32} {L : Nat → Int64} {t : Int32} (h : f_X6_leastBeyond I A L a0 a1 = some t) : GM 70 yX6_leastBeyond cX6_leastBeyond 3 (some .int) 0 [.int a0, .int a1] I A L (some (.int t), (I, A, L)) := by
  refine gm_of (n := 1) (lc := [some (.int a0), some (.int a1), none]) (by decide +kernel) rfl (fun _ => Nat.le_of_ble_eq_true rfl) ?_
  change Ev 70 RX6 cX6_leastBeyond 3 (some .int) 0 0 [some (.int a0), some (.int a1), none] [] I A L _
  unfold f_X6_leastBeyond at h
  refine e_iload_n (pc' := 1) (i := 1) rfl rfl dX6_leastBeyond_0 rfl ?_
  refine e_if_le (tgt := 12) (pc' := 4) dX6_leastBeyond_1 (by decide) rfl h (fun h => ?_) (fun h => ?_)
  · refine e_bipush (v := 61) (pc' := 14) (by decide) dX6_leastBeyond_12 rfl ?_
    exact e_weak (lc' := [none, none, none]) (gle_n (gle_n (gle_n gle_0))) (w_X6_leastBeyond_p14 I A L  _ _ h)
  · refine e_iload_n (pc' := 5) (i := 0) rfl rfl dX6_leastBeyond_4 rfl ?_
    refine e_iload_n (pc' := 6) (i := 1) rfl rfl dX6_leastBeyond_5 rfl ?_
    obtain ⟨hz1, h⟩ := g_dv_e h
    refine e_idiv (pc' := 7) hz1 dX6_leastBeyond_6 rfl ?_
    refine e_iconst (v := 1) (pc' := 8) (by decide) dX6_leastBeyond_7 rfl ?_
    refine e_iadd (pc' := 9) dX6_leastBeyond_8 rfl ?_
    refine e_goto (tgt := 14) dX6_leastBeyond_9 (by decide) ?_
    exact e_weak (lc' := [none, none, none]) (gle_n (gle_n (gle_n gle_0))) (w_X6_leastBeyond_p14 I A L  _ _ h)
set_option maxHeartbeats 4000000 in
set_option maxRecDepth 100000 in
theorem w_X6_hides_p20  : ∀ (I : Nat → Int32) (A : Nat → Nat → Int32) (L : Nat → Int64) (t : (Int32 × gS)), f_X6_hides_p20 I A L = some t → Ev 70 RX6 cX6_hides 8 (some .int) 5 20 [some (.ref 0), none, none, none, none, none, none, none] [] I A L (some (.int t.1), t.2) := by
  intro  I A L t h
  unfold f_X6_hides_p20 at h
  refine e_aload_n (pc' := 21) (i := 0) rfl rfl dX6_hides_20 rfl ?_
  refine e_bipush (v := (-2)) (pc' := 23) (by decide) dX6_hides_21 rfl ?_
  obtain ⟨v5, I2, A3, L4, hF1, h⟩ := g_b2_e h
  refine e_callV_i (pc' := 26) dX6_hides_23 rfl mw_397 mv_X6_refuseBad rfl (Nat.le_of_ble_eq_true rfl) (Nat.le_of_ble_eq_true rfl) rfl (Nat.le_of_ble_eq_true rfl) (Nat.le_of_ble_eq_true rfl) rfl (c_X6_refuseBad _ hF1) rfl ?_
  obtain rfl := g_re1 h
  exact e_iret dX6_hides_26
set_option maxHeartbeats 4000000 in
set_option maxRecDepth 100000 in
theorem c_X6_hides (a0 : Int32) (a1 : Int32) (a2 : Int32) (a3 : Int32) {I : Nat → Int32} {A : Nat → Nat → Int32} {L : Nat → Int64} {t : Int32} {I' : Nat → Int32} {A' : Nat → Nat → Int32} {L' : Nat → Int64} (h : f_X6_hides  a0 a1 a2 a3 I A L = some (t, I', A', L')) : GM 70 yX6_hides cX6_hides 8 (some .int) 5 [.ref 0, .int a0, .int a1, .int a2, .int a3] I A L (some (.int t), (I', A', L')) := by
  refine gm_of (n := 3) (lc := [some (.ref 0), some (.int a0), some (.int a1), some (.int a2), some (.int a3), none, none, none]) (by decide +kernel) rfl (fun _ => Nat.le_of_ble_eq_true rfl) ?_
  change Ev 70 RX6 cX6_hides 8 (some .int) 5 0 [some (.ref 0), some (.int a0), some (.int a1), some (.int a2), some (.int a3), none, none, none] [] I A L _
  unfold f_X6_hides at h
  refine e_iload_n (pc' := 1) (i := 1) rfl rfl dX6_hides_0 rfl ?_
  refine e_iload_n (pc' := 2) (i := 2) rfl rfl dX6_hides_1 rfl ?_
  refine e_iload_n (pc' := 3) (i := 3) rfl rfl dX6_hides_2 rfl ?_
  obtain ⟨v2, hF1, h⟩ := g_bd_e h
  refine e_callS_i (pc' := 6) dX6_hides_3 rfl mw_388 ms_X6_isSign rfl (Nat.le_of_ble_eq_true rfl) (Nat.le_of_ble_eq_true rfl) (c_X6_isSign _ _ _ hF1) rfl ?_
  refine e_if_eq (tgt := 20) (pc' := 9) dX6_hides_6 (by decide) rfl h (fun h => ?_) (fun h => ?_)
  · exact e_weak (lc' := [some (.ref 0), none, none, none, none, none, none, none]) (gle_s (gle_n (gle_n (gle_n (gle_n (gle_n (gle_n (gle_n gle_0)))))))) (w_X6_hides_p20  _ _ _ _ h)
  · refine e_iload (pc' := 11) (i := 4) rfl dX6_hides_9 rfl ?_
    refine e_if_lt (tgt := 20) (pc' := 14) dX6_hides_11 (by decide) rfl h (fun h => ?_) (fun h => ?_)
    · exact e_weak (lc' := [some (.ref 0), none, none, none, none, none, none, none]) (gle_s (gle_n (gle_n (gle_n (gle_n (gle_n (gle_n (gle_n gle_0)))))))) (w_X6_hides_p20  _ _ _ _ h)
    · refine e_iload (pc' := 16) (i := 4) rfl dX6_hides_14 rfl ?_
      refine e_iconst (v := 1) (pc' := 17) (by decide) dX6_hides_16 rfl ?_
      refine e_icmp_le (tgt := 27) (pc' := 20) dX6_hides_17 (by decide) rfl h (fun h => ?_) (fun h => ?_)
      · refine e_aload_n (pc' := 28) (i := 0) rfl rfl dX6_hides_27 rfl ?_
        refine e_getR (a := 0) (b := 1) (k0 := 0) (pc' := 31) dX6_hides_28 rfl rfl (Nat.le_of_ble_eq_true rfl) (Nat.le_of_ble_eq_true rfl) rfl mw_335 rfl ?_
        refine e_getIN (a := 1) (n := 20) (k0 := 4) (pc' := 34) dX6_hides_31 rfl rfl (Nat.le_of_ble_eq_true rfl) (Nat.le_of_ble_eq_true rfl) rfl mw_144 rfl ?_
        refine e_bipush (v := 32) (pc' := 36) (by decide) dX6_hides_34 rfl ?_
        refine e_icmp_lt (tgt := 44) (pc' := 39) dX6_hides_36 (by decide) rfl h (fun h => ?_) (fun h => ?_)
        · refine e_aload_n (pc' := 45) (i := 0) rfl rfl dX6_hides_44 rfl ?_
          obtain ⟨I4, A5, L6, hF3, h⟩ := g_b1_e h
          refine e_callV_a (pc' := 48) dX6_hides_45 rfl mw_503 mv_X6_crystal rfl (Nat.le_of_ble_eq_true rfl) (Nat.le_of_ble_eq_true rfl) rfl (Nat.le_of_ble_eq_true rfl) (Nat.le_of_ble_eq_true rfl) rfl (c_X6_crystal hF3) rfl ?_
          refine e_astore (pc' := 50) (i := 5) (lc' := [some (.ref 0), some (.int a0), some (.int a1), some (.int a2), some (.int a3), some (.ref 38), none, none]) dX6_hides_48 rfl (Nat.le_of_ble_eq_true rfl) rfl rfl ?_
          refine e_aload (pc' := 52) (i := 5) rfl dX6_hides_50 rfl ?_
          refine e_iload_n (pc' := 53) (i := 1) rfl rfl dX6_hides_52 rfl ?_
          refine e_iload_n (pc' := 54) (i := 2) rfl rfl dX6_hides_53 rfl ?_
          refine e_iload_n (pc' := 55) (i := 3) rfl rfl dX6_hides_54 rfl ?_
          obtain ⟨v8, hF7, h⟩ := g_bd_e h
          refine e_callVN_i (pc' := 58) dX6_hides_55 rfl mw_663 mv_X4_farthest rfl (Nat.le_of_ble_eq_true rfl) (Nat.le_of_ble_eq_true rfl) rfl (Nat.le_of_ble_eq_true rfl) (Nat.le_of_ble_eq_true rfl) rfl (c_X4_farthest_38 _ _ _ hF7) rfl ?_
          refine e_istore (pc' := 60) (i := 6) (lc' := [some (.ref 0), some (.int a0), some (.int a1), some (.int a2), some (.int a3), some (.ref 38), some (.int v8), none]) dX6_hides_58 rfl (Nat.le_of_ble_eq_true rfl) rfl rfl ?_
          refine e_aload (pc' := 62) (i := 5) rfl dX6_hides_60 rfl ?_
          refine e_iload (pc' := 64) (i := 6) rfl dX6_hides_62 rfl ?_
          refine e_iload_n (pc' := 65) (i := 1) rfl rfl dX6_hides_64 rfl ?_
          refine e_iload_n (pc' := 66) (i := 2) rfl rfl dX6_hides_65 rfl ?_
          refine e_iload_n (pc' := 67) (i := 3) rfl rfl dX6_hides_66 rfl ?_
          obtain ⟨v10, hF9, h⟩ := g_bd_e h
          refine e_callVN_i (pc' := 70) dX6_hides_67 rfl mw_667 mv_X4_along rfl (Nat.le_of_ble_eq_true rfl) (Nat.le_of_ble_eq_true rfl) rfl (Nat.le_of_ble_eq_true rfl) (Nat.le_of_ble_eq_true rfl) rfl (c_X4_along_38 _ _ _ _ hF9) rfl ?_
          refine e_istore (pc' := 72) (i := 7) (lc' := [some (.ref 0), some (.int a0), some (.int a1), some (.int a2), some (.int a3), some (.ref 38), some (.int v8), some (.int v10)]) dX6_hides_70 rfl (Nat.le_of_ble_eq_true rfl) rfl rfl ?_
          refine e_iload (pc' := 74) (i := 4) rfl dX6_hides_72 rfl ?_
          refine e_if_ne (tgt := 93) (pc' := 77) dX6_hides_74 (by decide) rfl h (fun h => ?_) (fun h => ?_)
          · refine e_iload (pc' := 95) (i := 7) rfl dX6_hides_93 rfl ?_
            refine e_aload (pc' := 97) (i := 5) rfl dX6_hides_95 rfl ?_
            refine e_getRN (a := 38) (b := 42) (k0 := 3) (pc' := 100) dX6_hides_97 rfl rfl (Nat.le_of_ble_eq_true rfl) (Nat.le_of_ble_eq_true rfl) rfl mw_240 rfl ?_
            refine e_iload (pc' := 102) (i := 6) rfl dX6_hides_100 rfl ?_
            refine e_iald (n := 60) (pc' := 103) dX6_hides_102 rfl rfl (Nat.le_of_ble_eq_true rfl) h (fun h => ?_)
            obtain ⟨v12, hF11, h⟩ := g_bd_e h
            refine e_callS_i (pc' := 106) dX6_hides_103 rfl mw_692 ms_X6_offsWithin rfl (Nat.le_of_ble_eq_true rfl) (Nat.le_of_ble_eq_true rfl) (c_X6_offsWithin _ _ hF11) rfl ?_
            obtain ⟨rfl, rfl, rfl, rfl⟩ := g_re4 h
            exact e_iret dX6_hides_106
          · refine e_iload (pc' := 79) (i := 7) rfl dX6_hides_77 rfl ?_
            refine e_aload (pc' := 81) (i := 5) rfl dX6_hides_79 rfl ?_
            refine e_getRN (a := 38) (b := 42) (k0 := 3) (pc' := 84) dX6_hides_81 rfl rfl (Nat.le_of_ble_eq_true rfl) (Nat.le_of_ble_eq_true rfl) rfl mw_240 rfl ?_
            refine e_iload (pc' := 86) (i := 6) rfl dX6_hides_84 rfl ?_
            refine e_iald (n := 60) (pc' := 87) dX6_hides_86 rfl rfl (Nat.le_of_ble_eq_true rfl) h (fun h => ?_)
            obtain ⟨v14, hF13, h⟩ := g_bd_e h
            refine e_callS_i (pc' := 90) dX6_hides_87 rfl mw_689 ms_X6_leastBeyond rfl (Nat.le_of_ble_eq_true rfl) (Nat.le_of_ble_eq_true rfl) (c_X6_leastBeyond _ _ hF13) rfl ?_
            refine e_goto (tgt := 106) dX6_hides_90 (by decide) ?_
            obtain ⟨rfl, rfl, rfl, rfl⟩ := g_re4 h
            exact e_iret dX6_hides_106
        · refine e_aload_n (pc' := 40) (i := 0) rfl rfl dX6_hides_39 rfl ?_
          obtain ⟨v19, I16, A17, L18, hF15, h⟩ := g_b2_e h
          refine e_callV_i (pc' := 43) dX6_hides_40 rfl mw_401 mv_X6_refuseFull rfl (Nat.le_of_ble_eq_true rfl) (Nat.le_of_ble_eq_true rfl) rfl (Nat.le_of_ble_eq_true rfl) (Nat.le_of_ble_eq_true rfl) rfl (c_X6_refuseFull hF15) rfl ?_
          obtain ⟨rfl, rfl, rfl, rfl⟩ := g_re4 h
          exact e_iret dX6_hides_43
      · exact e_weak (lc' := [some (.ref 0), none, none, none, none, none, none, none]) (gle_s (gle_n (gle_n (gle_n (gle_n (gle_n (gle_n (gle_n gle_0)))))))) (w_X6_hides_p20  _ _ _ _ h)
