set_option maxHeartbeats 4000000 in
set_option maxRecDepth 100000 in
theorem c_X6_crystal  {I : Nat → Int32} {A : Nat → Nat → Int32} {L : Nat → Int64} {I' : Nat → Int32} {A' : Nat → Nat → Int32} {L' : Nat → Int64} (h : f_X6_crystal   I A L = some (I', A', L')) : GM 70 yX6_crystal cX6_crystal 1 (some (.object "CrystalCuts$Solid")) 4 [.ref 0] I A L (some (.ref 38), (I', A', L')) := by
  refine gm_of (n := 0) (lc := [some (.ref 0)]) (by decide +kernel) rfl (fun _ => Nat.le_of_ble_eq_true rfl) ?_
  change Ev 70 RX6 cX6_crystal 1 (some (.object "CrystalCuts$Solid")) 4 0 [some (.ref 0)] [] I A L _
  unfold f_X6_crystal at h
  refine e_aload_n (pc' := 1) (i := 0) rfl rfl dX6_crystal_0 rfl ?_
  refine e_getI (a := 0) (n := 7) (k0 := 7) (pc' := 4) dX6_crystal_1 rfl rfl (Nat.le_of_ble_eq_true rfl) (Nat.le_of_ble_eq_true rfl) rfl mw_342 rfl ?_
  refine e_if_ne (tgt := 35) (pc' := 7) dX6_crystal_4 (by decide) rfl h (fun h => ?_) (fun h => ?_)
  · refine e_aload_n (pc' := 36) (i := 0) rfl rfl dX6_crystal_35 rfl ?_
    refine e_getR (a := 0) (b := 38) (k0 := 3) (pc' := 39) dX6_crystal_36 rfl rfl (Nat.le_of_ble_eq_true rfl) (Nat.le_of_ble_eq_true rfl) rfl mw_338 rfl ?_
    obtain ⟨rfl, rfl, rfl⟩ := g_re3 h
    exact e_aret dX6_crystal_39
  · refine e_aload_n (pc' := 8) (i := 0) rfl rfl dX6_crystal_7 rfl ?_
    refine e_getR (a := 0) (b := 38) (k0 := 3) (pc' := 11) dX6_crystal_8 rfl rfl (Nat.le_of_ble_eq_true rfl) (Nat.le_of_ble_eq_true rfl) rfl mw_338 rfl ?_
    refine e_aload_n (pc' := 12) (i := 0) rfl rfl dX6_crystal_11 rfl ?_
    refine e_getR (a := 0) (b := 1) (k0 := 0) (pc' := 15) dX6_crystal_12 rfl rfl (Nat.le_of_ble_eq_true rfl) (Nat.le_of_ble_eq_true rfl) rfl mw_335 rfl ?_
    refine e_iconst (v := (-1)) (pc' := 16) (by decide) dX6_crystal_15 rfl ?_
    obtain ⟨I2, A3, L4, hF1, h⟩ := g_b1_e h
    refine e_callVN_v (pc' := 19) dX6_crystal_16 rfl mw_507 mv_X4_cut rfl (Nat.le_of_ble_eq_true rfl) (Nat.le_of_ble_eq_true rfl) rfl (Nat.le_of_ble_eq_true rfl) (Nat.le_of_ble_eq_true rfl) rfl (c_X4_cut_38_1 _ hF1) rfl ?_
    refine e_aload_n (pc' := 20) (i := 0) rfl rfl dX6_crystal_19 rfl ?_
    refine e_getR (a := 0) (b := 38) (k0 := 3) (pc' := 23) dX6_crystal_20 rfl rfl (Nat.le_of_ble_eq_true rfl) (Nat.le_of_ble_eq_true rfl) rfl mw_338 rfl ?_
    refine e_aload_n (pc' := 24) (i := 0) rfl rfl dX6_crystal_23 rfl ?_
    refine e_getR (a := 0) (b := 1) (k0 := 0) (pc' := 27) dX6_crystal_24 rfl rfl (Nat.le_of_ble_eq_true rfl) (Nat.le_of_ble_eq_true rfl) rfl mw_335 rfl ?_
    obtain ⟨I6, A7, L8, hF5, h⟩ := g_b1_e h
    refine e_callVN_v (pc' := 30) dX6_crystal_27 rfl mw_545 mv_X4_look rfl (Nat.le_of_ble_eq_true rfl) (Nat.le_of_ble_eq_true rfl) rfl (Nat.le_of_ble_eq_true rfl) (Nat.le_of_ble_eq_true rfl) rfl (c_X4_look_38_1 hF5) rfl ?_
    refine e_aload_n (pc' := 31) (i := 0) rfl rfl dX6_crystal_30 rfl ?_
    refine e_iconst (v := 1) (pc' := 32) (by decide) dX6_crystal_31 rfl ?_
    refine e_putI (a := 0) (n := 7) (k0 := 7) (pc' := 35) dX6_crystal_32 rfl rfl (Nat.le_of_ble_eq_true rfl) (Nat.le_of_ble_eq_true rfl) rfl mw_342 rfl rfl g_pZ rfl rfl ?_
    refine e_ltI h (fun I9 h => ?_)
    refine e_aload_n (pc' := 36) (i := 0) rfl rfl dX6_crystal_35 rfl ?_
    refine e_getR (a := 0) (b := 38) (k0 := 3) (pc' := 39) dX6_crystal_36 rfl rfl (Nat.le_of_ble_eq_true rfl) (Nat.le_of_ble_eq_true rfl) rfl mw_338 rfl ?_
    obtain ⟨rfl, rfl, rfl⟩ := g_re3 h
    exact e_aret dX6_crystal_39
set_option maxHeartbeats 4000000 in
set_option maxRecDepth 100000 in
theorem w_X6_putDrawn_p57  : ∀ (x1 : Int64) (x3 : Int32) (x4 : Int32) (x5 : Int32) (I : Nat → Int32) (A : Nat → Nat → Int32) (L : Nat → Int64) (t : gS), f_X6_putDrawn_p57 x1 x3 x4 x5 I A L = some t → Ev 70 RX6 cX6_putDrawn 6 none 1 57 [some (.ref 0), some (.long x1), none, some (.int x3), some (.int x4), some (.int x5)] [] I A L (none, t) := by
  intro x1 x3 x4 x5 I A L t h
  unfold f_X6_putDrawn_p57 at h
  refine e_aload_n (pc' := 58) (i := 0) rfl rfl dX6_putDrawn_57 rfl ?_
  refine e_getR (a := 0) (b := 1) (k0 := 0) (pc' := 61) dX6_putDrawn_58 rfl rfl (Nat.le_of_ble_eq_true rfl) (Nat.le_of_ble_eq_true rfl) rfl mw_335 rfl ?_
  refine e_iload_n (pc' := 62) (i := 3) rfl rfl dX6_putDrawn_61 rfl ?_
  refine e_iload (pc' := 64) (i := 4) rfl dX6_putDrawn_62 rfl ?_
  refine e_iload (pc' := 66) (i := 5) rfl dX6_putDrawn_64 rfl ?_
  refine e_bipush (v := 10) (pc' := 68) (by decide) dX6_putDrawn_66 rfl ?_
  refine e_lload_n (pc' := 69) (i := 1) rfl rfl dX6_putDrawn_68 rfl ?_
  refine e_ldc2 (pc' := 72) mw_501 dX6_putDrawn_69 rfl ?_
  refine e_ldiv (pc' := 73) (by decide) dX6_putDrawn_72 rfl ?_
  refine e_ldc2 (pc' := 76) mw_502 dX6_putDrawn_73 rfl ?_
  refine e_lrem (pc' := 77) (by decide) dX6_putDrawn_76 rfl ?_
  refine e_l2i (pc' := 78) dX6_putDrawn_77 rfl ?_
  refine e_iadd (pc' := 79) dX6_putDrawn_78 rfl ?_
  obtain ⟨I2, A3, L4, hF1, h⟩ := g_b1_e h
  refine e_callVN_v (pc' := 82) dX6_putDrawn_79 rfl mw_427 mv_X2_put rfl (Nat.le_of_ble_eq_true rfl) (Nat.le_of_ble_eq_true rfl) rfl (Nat.le_of_ble_eq_true rfl) (Nat.le_of_ble_eq_true rfl) rfl (c_X2_put_1 _ _ _ _ hF1) rfl ?_
  obtain rfl := g_re1 h
  exact e_vret dX6_putDrawn_82
set_option maxHeartbeats 4000000 in
set_option maxRecDepth 100000 in
theorem c_X6_putDrawn (a0 : Int64) {I : Nat → Int32} {A : Nat → Nat → Int32} {L : Nat → Int64} {I' : Nat → Int32} {A' : Nat → Nat → Int32} {L' : Nat → Int64} (h : f_X6_putDrawn  a0 I A L = some (I', A', L')) : GM 70 yX6_putDrawn cX6_putDrawn 6 none 1 [.ref 0, .long a0] I A L (none, (I', A', L')) := by
  refine gm_of (n := 3) (lc := [some (.ref 0), some (.long a0), none, none, none, none]) (by decide +kernel) rfl (fun _ => Nat.le_of_ble_eq_true rfl) ?_
  change Ev 70 RX6 cX6_putDrawn 6 none 1 0 [some (.ref 0), some (.long a0), none, none, none, none] [] I A L _
  unfold f_X6_putDrawn at h
  refine e_lload_n (pc' := 1) (i := 1) rfl rfl dX6_putDrawn_0 rfl ?_
  refine e_ldc2 (pc' := 4) mw_497 dX6_putDrawn_1 rfl ?_
  refine e_ldiv (pc' := 5) (by decide) dX6_putDrawn_4 rfl ?_
  refine e_ldc2 (pc' := 8) mw_498 dX6_putDrawn_5 rfl ?_
  refine e_lrem (pc' := 9) (by decide) dX6_putDrawn_8 rfl ?_
  refine e_l2i (pc' := 10) dX6_putDrawn_9 rfl ?_
  refine e_iconst (v := 3) (pc' := 11) (by decide) dX6_putDrawn_10 rfl ?_
  refine e_isub (pc' := 12) dX6_putDrawn_11 rfl ?_
  refine e_lt h (fun v1 h => ?_)
  refine e_istore_n (pc' := 13) (i := 3) (lc' := [some (.ref 0), some (.long a0), none, some (.int v1), none, none]) rfl dX6_putDrawn_12 rfl (Nat.le_of_ble_eq_true rfl) rfl rfl ?_
  refine e_lload_n (pc' := 14) (i := 1) rfl rfl dX6_putDrawn_13 rfl ?_
  refine e_ldc2 (pc' := 17) mw_499 dX6_putDrawn_14 rfl ?_
  refine e_ldiv (pc' := 18) (by decide) dX6_putDrawn_17 rfl ?_
  refine e_ldc2 (pc' := 21) mw_498 dX6_putDrawn_18 rfl ?_
  refine e_lrem (pc' := 22) (by decide) dX6_putDrawn_21 rfl ?_
  refine e_l2i (pc' := 23) dX6_putDrawn_22 rfl ?_
  refine e_iconst (v := 3) (pc' := 24) (by decide) dX6_putDrawn_23 rfl ?_
  refine e_isub (pc' := 25) dX6_putDrawn_24 rfl ?_
  refine e_lt h (fun v2 h => ?_)
  refine e_istore (pc' := 27) (i := 4) (lc' := [some (.ref 0), some (.long a0), none, some (.int v1), some (.int v2), none]) dX6_putDrawn_25 rfl (Nat.le_of_ble_eq_true rfl) rfl rfl ?_
  refine e_lload_n (pc' := 28) (i := 1) rfl rfl dX6_putDrawn_27 rfl ?_
  refine e_ldc2 (pc' := 31) mw_500 dX6_putDrawn_28 rfl ?_
  refine e_ldiv (pc' := 32) (by decide) dX6_putDrawn_31 rfl ?_
  refine e_ldc2 (pc' := 35) mw_498 dX6_putDrawn_32 rfl ?_
  refine e_lrem (pc' := 36) (by decide) dX6_putDrawn_35 rfl ?_
  refine e_l2i (pc' := 37) dX6_putDrawn_36 rfl ?_
  refine e_iconst (v := 3) (pc' := 38) (by decide) dX6_putDrawn_37 rfl ?_
  refine e_isub (pc' := 39) dX6_putDrawn_38 rfl ?_
  refine e_lt h (fun v3 h => ?_)
  refine e_istore (pc' := 41) (i := 5) (lc' := [some (.ref 0), some (.long a0), none, some (.int v1), some (.int v2), some (.int v3)]) dX6_putDrawn_39 rfl (Nat.le_of_ble_eq_true rfl) rfl rfl ?_
  refine e_iload_n (pc' := 42) (i := 3) rfl rfl dX6_putDrawn_41 rfl ?_
  refine e_if_ne (tgt := 57) (pc' := 45) dX6_putDrawn_42 (by decide) rfl h (fun h => ?_) (fun h => ?_)
  · exact e_weak (lc' := [some (.ref 0), some (.long a0), none, some (.int v1), some (.int v2), some (.int v3)]) (gle_s (gle_s (gle_n (gle_s (gle_s (gle_s gle_0)))))) (w_X6_putDrawn_p57  _ _ _ _ _ _ _ _ h)
  · refine e_iload (pc' := 47) (i := 4) rfl dX6_putDrawn_45 rfl ?_
    refine e_if_ne (tgt := 57) (pc' := 50) dX6_putDrawn_47 (by decide) rfl h (fun h => ?_) (fun h => ?_)
    · exact e_weak (lc' := [some (.ref 0), some (.long a0), none, some (.int v1), some (.int v2), some (.int v3)]) (gle_s (gle_s (gle_n (gle_s (gle_s (gle_s gle_0)))))) (w_X6_putDrawn_p57  _ _ _ _ _ _ _ _ h)
    · refine e_iload (pc' := 52) (i := 5) rfl dX6_putDrawn_50 rfl ?_
      refine e_if_ne (tgt := 57) (pc' := 55) dX6_putDrawn_52 (by decide) rfl h (fun h => ?_) (fun h => ?_)
      · exact e_weak (lc' := [some (.ref 0), some (.long a0), none, some (.int v1), some (.int v2), some (.int v3)]) (gle_s (gle_s (gle_n (gle_s (gle_s (gle_s gle_0)))))) (w_X6_putDrawn_p57  _ _ _ _ _ _ _ _ h)
      · refine e_iconst (v := 1) (pc' := 56) (by decide) dX6_putDrawn_55 rfl ?_
        refine e_istore_n (pc' := 57) (i := 3) (lc' := [some (.ref 0), some (.long a0), none, some (.int 1), some (.int v2), some (.int v3)]) rfl dX6_putDrawn_56 rfl (Nat.le_of_ble_eq_true rfl) rfl rfl ?_
        exact e_weak (lc' := [some (.ref 0), some (.long a0), none, some (.int 1), some (.int v2), some (.int v3)]) (gle_s (gle_s (gle_n (gle_s (gle_s (gle_s gle_0)))))) (w_X6_putDrawn_p57  _ _ _ _ _ _ _ _ h)
set_option maxHeartbeats 4000000 in
set_option maxRecDepth 100000 in
theorem w_X6_draw_p47  : ∀ (n : Nat) (x2 : Int32) (x3 : Int64) (x5 : Int32) (I : Nat → Int32) (A : Nat → Nat → Int32) (L : Nat → Int64) (t : (Int32 × gS)), f_X6_draw_p47 n x2 x3 x5 I A L = some t → Ev 70 RX6 cX6_draw 6 (some .int) 5 47 [some (.ref 0), none, some (.int x2), some (.long x3), none, some (.int x5)] [] I A L (some (.int t.1), t.2) := by
  intro n
  induction n with
  | zero =>
    intro x2 x3 x5 I A L t h
    cases h
  | succ n ih =>
    intro x2 x3 x5 I A L t h
    rw [f_X6_draw_p47] at h
    refine e_iload (pc' := 49) (i := 5) rfl dX6_draw_47 rfl ?_
    refine e_iload_n (pc' := 50) (i := 2) rfl rfl dX6_draw_49 rfl ?_
    refine e_icmp_ge (tgt := 78) (pc' := 53) dX6_draw_50 (by decide) rfl h (fun h => ?_) (fun h => ?_)
    · refine e_aload_n (pc' := 79) (i := 0) rfl rfl dX6_draw_78 rfl ?_
      obtain ⟨I2, A3, L4, hF1, h⟩ := g_b1_e h
      refine e_callV_a (pc' := 82) dX6_draw_79 rfl mw_503 mv_X6_crystal rfl (Nat.le_of_ble_eq_true rfl) (Nat.le_of_ble_eq_true rfl) rfl (Nat.le_of_ble_eq_true rfl) (Nat.le_of_ble_eq_true rfl) rfl (c_X6_crystal hF1) rfl ?_
      refine e_getIN (a := 38) (n := 615) (k0 := 7) (pc' := 85) dX6_draw_82 rfl rfl (Nat.le_of_ble_eq_true rfl) (Nat.le_of_ble_eq_true rfl) rfl mw_247 rfl ?_
      obtain rfl := g_re1 h
      exact e_iret dX6_draw_85
    · refine e_lload_n (pc' := 54) (i := 3) rfl rfl dX6_draw_53 rfl ?_
      refine e_ldc2 (pc' := 57) mw_490 dX6_draw_54 rfl ?_
      refine e_lmul (pc' := 58) dX6_draw_57 rfl ?_
      refine e_ldc2 (pc' := 61) mw_491 dX6_draw_58 rfl ?_
      refine e_ladd (pc' := 62) dX6_draw_61 rfl ?_
      refine e_ldc2 (pc' := 65) mw_492 dX6_draw_62 rfl ?_
      refine e_lrem (pc' := 66) (by decide) dX6_draw_65 rfl ?_
      refine e_ltl h (fun v5 h => ?_)
      refine e_lstore_n (pc' := 67) (i := 3) (lc' := [some (.ref 0), none, some (.int x2), some (.long v5), none, some (.int x5)]) rfl dX6_draw_66 rfl (Nat.le_of_ble_eq_true rfl) rfl rfl ?_
      refine e_aload_n (pc' := 68) (i := 0) rfl rfl dX6_draw_67 rfl ?_
      refine e_lload_n (pc' := 69) (i := 3) rfl rfl dX6_draw_68 rfl ?_
      obtain ⟨I7, A8, L9, hF6, h⟩ := g_b1_e h
      refine e_callV_v (pc' := 72) dX6_draw_69 rfl mw_493 mv_X6_putDrawn rfl (Nat.le_of_ble_eq_true rfl) (Nat.le_of_ble_eq_true rfl) rfl (Nat.le_of_ble_eq_true rfl) (Nat.le_of_ble_eq_true rfl) rfl (c_X6_putDrawn _ hF6) rfl ?_
      refine e_iinc (pc' := 75) (v := (x5 + 1)) (lc' := [some (.ref 0), none, some (.int x2), some (.long v5), none, some (.int (x5 + 1))]) dX6_draw_72 rfl rfl rfl (Nat.le_of_ble_eq_true rfl) rfl rfl ?_
      refine e_goto (tgt := 47) dX6_draw_75 (by decide) ?_
      exact e_weak (lc' := [some (.ref 0), none, some (.int x2), some (.long v5), none, some (.int (x5 + 1))]) (gle_s (gle_n (gle_s (gle_s (gle_n (gle_s gle_0)))))) (ih _ _ _ _ _ _ _ h)
set_option maxHeartbeats 4000000 in
set_option maxRecDepth 100000 in
theorem w_X6_draw_p21  : ∀ (I : Nat → Int32) (A : Nat → Nat → Int32) (L : Nat → Int64) (t : (Int32 × gS)), f_X6_draw_p21 I A L = some t → Ev 70 RX6 cX6_draw 6 (some .int) 5 21 [some (.ref 0), none, none, none, none, none] [] I A L (some (.int t.1), t.2) := by
  intro  I A L t h
  unfold f_X6_draw_p21 at h
  refine e_aload_n (pc' := 22) (i := 0) rfl rfl dX6_draw_21 rfl ?_
  refine e_bipush (v := (-2)) (pc' := 24) (by decide) dX6_draw_22 rfl ?_
  obtain ⟨v5, I2, A3, L4, hF1, h⟩ := g_b2_e h
  refine e_callV_i (pc' := 27) dX6_draw_24 rfl mw_397 mv_X6_refuseBad rfl (Nat.le_of_ble_eq_true rfl) (Nat.le_of_ble_eq_true rfl) rfl (Nat.le_of_ble_eq_true rfl) (Nat.le_of_ble_eq_true rfl) rfl (c_X6_refuseBad _ hF1) rfl ?_
  obtain rfl := g_re1 h
  exact e_iret dX6_draw_27
set_option maxHeartbeats 4000000 in
set_option maxRecDepth 100000 in
theorem c_X6_draw (a0 : Int32) (a1 : Int32) {I : Nat → Int32} {A : Nat → Nat → Int32} {L : Nat → Int64} {t : Int32} {I' : Nat → Int32} {A' : Nat → Nat → Int32} {L' : Nat → Int64} (h : f_X6_draw  a0 a1 I A L = some (t, I', A', L')) : GM 70 yX6_draw cX6_draw 6 (some .int) 5 [.ref 0, .int a0, .int a1] I A L (some (.int t), (I', A', L')) := by
  refine gm_of (n := 3) (lc := [some (.ref 0), some (.int a0), some (.int a1), none, none, none]) (by decide +kernel) rfl (fun _ => Nat.le_of_ble_eq_true rfl) ?_
  change Ev 70 RX6 cX6_draw 6 (some .int) 5 0 [some (.ref 0), some (.int a0), some (.int a1), none, none, none] [] I A L _
  unfold f_X6_draw at h
  refine e_iload_n (pc' := 1) (i := 1) rfl rfl dX6_draw_0 rfl ?_
  refine e_if_lt (tgt := 21) (pc' := 4) dX6_draw_1 (by decide) rfl h (fun h => ?_) (fun h => ?_)
  · exact e_weak (lc' := [some (.ref 0), none, none, none, none, none]) (gle_s (gle_n (gle_n (gle_n (gle_n (gle_n gle_0)))))) (w_X6_draw_p21  _ _ _ _ h)
  · refine e_iload_n (pc' := 5) (i := 1) rfl rfl dX6_draw_4 rfl ?_
    refine e_ldc (pc' := 7) mw_489 dX6_draw_5 rfl ?_
    refine e_icmp_gt (tgt := 21) (pc' := 10) dX6_draw_7 (by decide) rfl h (fun h => ?_) (fun h => ?_)
    · exact e_weak (lc' := [some (.ref 0), none, none, none, none, none]) (gle_s (gle_n (gle_n (gle_n (gle_n (gle_n gle_0)))))) (w_X6_draw_p21  _ _ _ _ h)
    · refine e_iload_n (pc' := 11) (i := 2) rfl rfl dX6_draw_10 rfl ?_
      refine e_iconst (v := 1) (pc' := 12) (by decide) dX6_draw_11 rfl ?_
      refine e_icmp_lt (tgt := 21) (pc' := 15) dX6_draw_12 (by decide) rfl h (fun h => ?_) (fun h => ?_)
      · exact e_weak (lc' := [some (.ref 0), none, none, none, none, none]) (gle_s (gle_n (gle_n (gle_n (gle_n (gle_n gle_0)))))) (w_X6_draw_p21  _ _ _ _ h)
      · refine e_iload_n (pc' := 16) (i := 2) rfl rfl dX6_draw_15 rfl ?_
        refine e_bipush (v := 26) (pc' := 18) (by decide) dX6_draw_16 rfl ?_
        refine e_icmp_le (tgt := 28) (pc' := 21) dX6_draw_18 (by decide) rfl h (fun h => ?_) (fun h => ?_)
        · refine e_aload_n (pc' := 29) (i := 0) rfl rfl dX6_draw_28 rfl ?_
          obtain ⟨I2, A3, L4, hF1, h⟩ := g_b1_e h
          refine e_callV_v (pc' := 32) dX6_draw_29 rfl mw_405 mv_X6_leaveState rfl (Nat.le_of_ble_eq_true rfl) (Nat.le_of_ble_eq_true rfl) rfl (Nat.le_of_ble_eq_true rfl) (Nat.le_of_ble_eq_true rfl) rfl (c_X6_leaveState hF1) rfl ?_
          refine e_aload_n (pc' := 33) (i := 0) rfl rfl dX6_draw_32 rfl ?_
          refine e_getR (a := 0) (b := 1) (k0 := 0) (pc' := 36) dX6_draw_33 rfl rfl (Nat.le_of_ble_eq_true rfl) (Nat.le_of_ble_eq_true rfl) rfl mw_335 rfl ?_
          refine e_bipush (v := 6) (pc' := 38) (by decide) dX6_draw_36 rfl ?_
          refine e_putIN (a := 1) (n := 20) (k0 := 4) (pc' := 41) dX6_draw_38 rfl rfl (Nat.le_of_ble_eq_true rfl) (Nat.le_of_ble_eq_true rfl) rfl mw_144 rfl rfl g_pI rfl rfl ?_
          refine e_ltI h (fun I5 h => ?_)
          refine e_iload_n (pc' := 42) (i := 1) rfl rfl dX6_draw_41 rfl ?_
          refine e_i2l (pc' := 43) dX6_draw_42 rfl ?_
          refine e_ltl h (fun v6 h => ?_)
          refine e_lstore_n (pc' := 44) (i := 3) (lc' := [some (.ref 0), some (.int a0), some (.int a1), some (.long v6), none, none]) rfl dX6_draw_43 rfl (Nat.le_of_ble_eq_true rfl) rfl rfl ?_
          refine e_iconst (v := 0) (pc' := 45) (by decide) dX6_draw_44 rfl ?_
          refine e_istore (pc' := 47) (i := 5) (lc' := [some (.ref 0), some (.int a0), some (.int a1), some (.long v6), none, some (.int 0)]) dX6_draw_45 rfl (Nat.le_of_ble_eq_true rfl) rfl rfl ?_
          exact e_weak (lc' := [some (.ref 0), none, some (.int a1), some (.long v6), none, some (.int 0)]) (gle_s (gle_n (gle_s (gle_s (gle_n (gle_s gle_0)))))) (w_X6_draw_p47  _ _ _ _ _ _ _ _ h)
        · exact e_weak (lc' := [some (.ref 0), none, none, none, none, none]) (gle_s (gle_n (gle_n (gle_n (gle_n (gle_n gle_0)))))) (w_X6_draw_p21  _ _ _ _ h)
set_option maxHeartbeats 4000000 in
set_option maxRecDepth 100000 in
theorem c_X4_isShown_38 (a0 : Int32) {I : Nat → Int32} {A : Nat → Nat → Int32} {L : Nat → Int64} {t : Int32} (h : f_X4_isShown 38 I A L a0 = some t) : GM 70 yX4_isShown cX4_isShown 2 (some .boolean) 0 [.ref 38, .int a0] I A L (some (.int t), (I, A, L)) := by
  refine gm_of (n := 0) (lc := [some (.ref 38), some (.int a0)]) (by decide +kernel) rfl (fun _ => Nat.le_of_ble_eq_true rfl) ?_
  change Ev 70 RX4 cX4_isShown 2 (some .boolean) 0 0 [some (.ref 38), some (.int a0)] [] I A L _
  unfold f_X4_isShown at h
  refine e_aload_n (pc' := 1) (i := 0) rfl rfl dX4_isShown_0 rfl ?_
  refine e_getI (a := 38) (n := 616) (k0 := 8) (pc' := 4) dX4_isShown_1 rfl rfl (Nat.le_of_ble_eq_true rfl) (Nat.le_of_ble_eq_true rfl) rfl mw_248 rfl ?_
  refine e_iload_n (pc' := 5) (i := 1) rfl rfl dX4_isShown_4 rfl ?_
  refine e_iushr (pc' := 6) dX4_isShown_5 rfl ?_
  refine e_iconst (v := 1) (pc' := 7) (by decide) dX4_isShown_6 rfl ?_
  refine e_iand (pc' := 8) dX4_isShown_7 rfl ?_
  refine e_iconst (v := 1) (pc' := 9) (by decide) dX4_isShown_8 rfl ?_
  refine e_icmp_ne (tgt := 16) (pc' := 12) dX4_isShown_9 (by decide) rfl h (fun h => ?_) (fun h => ?_)
  · refine e_iconst (v := 0) (pc' := 17) (by decide) dX4_isShown_16 rfl ?_
    obtain rfl := g_re1 h
    exact e_zret dX4_isShown_17 (by decide)
  · refine e_iconst (v := 1) (pc' := 13) (by decide) dX4_isShown_12 rfl ?_
    refine e_goto (tgt := 17) dX4_isShown_13 (by decide) ?_
    obtain rfl := g_re1 h
    exact e_zret dX4_isShown_17 (by decide)
set_option maxHeartbeats 4000000 in
set_option maxRecDepth 100000 in
theorem c_X4_edgesOn_38 (a0 : Int32) {I : Nat → Int32} {A : Nat → Nat → Int32} {L : Nat → Int64} {t : Int32} (h : f_X4_edgesOn 38 I A L a0 = some t) : GM 70 yX4_edgesOn cX4_edgesOn 2 (some .int) 1 [.ref 38, .int a0] I A L (some (.int t), (I, A, L)) := by
  refine gm_of (n := 0) (lc := [some (.ref 38), some (.int a0)]) (by decide +kernel) rfl (fun _ => Nat.le_of_ble_eq_true rfl) ?_
  change Ev 70 RX4 cX4_edgesOn 2 (some .int) 1 0 [some (.ref 38), some (.int a0)] [] I A L _
  unfold f_X4_edgesOn at h
  refine e_aload_n (pc' := 1) (i := 0) rfl rfl dX4_edgesOn_0 rfl ?_
  refine e_iload_n (pc' := 2) (i := 1) rfl rfl dX4_edgesOn_1 rfl ?_
  obtain ⟨v2, hF1, h⟩ := g_bd_e h
  refine e_callV_i (pc' := 5) dX4_edgesOn_2 rfl mw_584 mv_X4_isShown rfl (Nat.le_of_ble_eq_true rfl) (Nat.le_of_ble_eq_true rfl) rfl (Nat.le_of_ble_eq_true rfl) (Nat.le_of_ble_eq_true rfl) rfl (c_X4_isShown_38 _ hF1) rfl ?_
  refine e_if_eq (tgt := 17) (pc' := 8) dX4_edgesOn_5 (by decide) rfl h (fun h => ?_) (fun h => ?_)
  · refine e_iconst (v := 0) (pc' := 18) (by decide) dX4_edgesOn_17 rfl ?_
    obtain rfl := g_re1 h
    exact e_iret dX4_edgesOn_18
  · refine e_aload_n (pc' := 9) (i := 0) rfl rfl dX4_edgesOn_8 rfl ?_
    refine e_getR (a := 38) (b := 44) (k0 := 5) (pc' := 12) dX4_edgesOn_9 rfl rfl (Nat.le_of_ble_eq_true rfl) (Nat.le_of_ble_eq_true rfl) rfl mw_243 rfl ?_
    refine e_iload_n (pc' := 13) (i := 1) rfl rfl dX4_edgesOn_12 rfl ?_
    refine e_iald (n := 32) (pc' := 14) dX4_edgesOn_13 rfl rfl (Nat.le_of_ble_eq_true rfl) h (fun h => ?_)
    refine e_goto (tgt := 18) dX4_edgesOn_14 (by decide) ?_
    obtain rfl := g_re1 h
    exact e_iret dX4_edgesOn_18
set_option maxHeartbeats 4000000 in
set_option maxRecDepth 100000 in
theorem c_X6_ofPlane (a0 : Int32) (a1 : Int32) {I : Nat → Int32} {A : Nat → Nat → Int32} {L : Nat → Int64} {t : Int32} {I' : Nat → Int32} {A' : Nat → Nat → Int32} {L' : Nat → Int64} (h : f_X6_ofPlane  a0 a1 I A L = some (t, I', A', L')) : GM 70 yX6_ofPlane cX6_ofPlane 3 (some .int) 5 [.ref 0, .int a0, .int a1] I A L (some (.int t), (I', A', L')) := by
  refine gm_of (n := 0) (lc := [some (.ref 0), some (.int a0), some (.int a1)]) (by decide +kernel) rfl (fun _ => Nat.le_of_ble_eq_true rfl) ?_
  change Ev 70 RX6 cX6_ofPlane 3 (some .int) 5 0 [some (.ref 0), some (.int a0), some (.int a1)] [] I A L _
  unfold f_X6_ofPlane at h
  refine e_iload_n (pc' := 1) (i := 2) rfl rfl dX6_ofPlane_0 rfl ?_
  by_cases q1 : a1 = 0
  · rw [if_pos q1] at h
    refine e_swIn (off := 39) (tgt := 40) dX6_ofPlane_1 (by rw [q1]; decide) (by rw [q1]; decide) (by rw [q1]; rfl) (by decide) ?_
    refine e_aload_n (pc' := 41) (i := 0) rfl rfl dX6_ofPlane_40 rfl ?_
    refine e_getR (a := 0) (b := 1) (k0 := 0) (pc' := 44) dX6_ofPlane_41 rfl rfl (Nat.le_of_ble_eq_true rfl) (Nat.le_of_ble_eq_true rfl) rfl mw_335 rfl ?_
    refine e_getRN (a := 1) (b := 2) (k0 := 0) (pc' := 47) dX6_ofPlane_44 rfl rfl (Nat.le_of_ble_eq_true rfl) (Nat.le_of_ble_eq_true rfl) rfl mw_129 rfl ?_
    refine e_iload_n (pc' := 48) (i := 1) rfl rfl dX6_ofPlane_47 rfl ?_
    refine e_iald (n := 32) (pc' := 49) dX6_ofPlane_48 rfl rfl (Nat.le_of_ble_eq_true rfl) h (fun h => ?_)
    obtain ⟨rfl, rfl, rfl, rfl⟩ := g_re4 h
    exact e_iret dX6_ofPlane_49
  rw [if_neg q1] at h
  by_cases q2 : a1 = 1
  · rw [if_pos q2] at h
    refine e_swIn (off := 49) (tgt := 50) dX6_ofPlane_1 (by rw [q2]; decide) (by rw [q2]; decide) (by rw [q2]; rfl) (by decide) ?_
    refine e_aload_n (pc' := 51) (i := 0) rfl rfl dX6_ofPlane_50 rfl ?_
    refine e_getR (a := 0) (b := 1) (k0 := 0) (pc' := 54) dX6_ofPlane_51 rfl rfl (Nat.le_of_ble_eq_true rfl) (Nat.le_of_ble_eq_true rfl) rfl mw_335 rfl ?_
    refine e_getRN (a := 1) (b := 3) (k0 := 1) (pc' := 57) dX6_ofPlane_54 rfl rfl (Nat.le_of_ble_eq_true rfl) (Nat.le_of_ble_eq_true rfl) rfl mw_133 rfl ?_
    refine e_iload_n (pc' := 58) (i := 1) rfl rfl dX6_ofPlane_57 rfl ?_
    refine e_iald (n := 32) (pc' := 59) dX6_ofPlane_58 rfl rfl (Nat.le_of_ble_eq_true rfl) h (fun h => ?_)
    obtain ⟨rfl, rfl, rfl, rfl⟩ := g_re4 h
    exact e_iret dX6_ofPlane_59
  rw [if_neg q2] at h
  by_cases q3 : a1 = 2
  · rw [if_pos q3] at h
    refine e_swIn (off := 59) (tgt := 60) dX6_ofPlane_1 (by rw [q3]; decide) (by rw [q3]; decide) (by rw [q3]; rfl) (by decide) ?_
    refine e_aload_n (pc' := 61) (i := 0) rfl rfl dX6_ofPlane_60 rfl ?_
    refine e_getR (a := 0) (b := 1) (k0 := 0) (pc' := 64) dX6_ofPlane_61 rfl rfl (Nat.le_of_ble_eq_true rfl) (Nat.le_of_ble_eq_true rfl) rfl mw_335 rfl ?_
    refine e_getRN (a := 1) (b := 4) (k0 := 2) (pc' := 67) dX6_ofPlane_64 rfl rfl (Nat.le_of_ble_eq_true rfl) (Nat.le_of_ble_eq_true rfl) rfl mw_137 rfl ?_
    refine e_iload_n (pc' := 68) (i := 1) rfl rfl dX6_ofPlane_67 rfl ?_
    refine e_iald (n := 32) (pc' := 69) dX6_ofPlane_68 rfl rfl (Nat.le_of_ble_eq_true rfl) h (fun h => ?_)
    obtain ⟨rfl, rfl, rfl, rfl⟩ := g_re4 h
    exact e_iret dX6_ofPlane_69
  rw [if_neg q3] at h
  by_cases q4 : a1 = 3
  · rw [if_pos q4] at h
    refine e_swIn (off := 69) (tgt := 70) dX6_ofPlane_1 (by rw [q4]; decide) (by rw [q4]; decide) (by rw [q4]; rfl) (by decide) ?_
    refine e_aload_n (pc' := 71) (i := 0) rfl rfl dX6_ofPlane_70 rfl ?_
    refine e_getR (a := 0) (b := 1) (k0 := 0) (pc' := 74) dX6_ofPlane_71 rfl rfl (Nat.le_of_ble_eq_true rfl) (Nat.le_of_ble_eq_true rfl) rfl mw_335 rfl ?_
    refine e_getRN (a := 1) (b := 5) (k0 := 3) (pc' := 77) dX6_ofPlane_74 rfl rfl (Nat.le_of_ble_eq_true rfl) (Nat.le_of_ble_eq_true rfl) rfl mw_140 rfl ?_
    refine e_iload_n (pc' := 78) (i := 1) rfl rfl dX6_ofPlane_77 rfl ?_
    refine e_iald (n := 32) (pc' := 79) dX6_ofPlane_78 rfl rfl (Nat.le_of_ble_eq_true rfl) h (fun h => ?_)
    obtain ⟨rfl, rfl, rfl, rfl⟩ := g_re4 h
    exact e_iret dX6_ofPlane_79
  rw [if_neg q4] at h
  by_cases q5 : a1 = 4
  · rw [if_pos q5] at h
    refine e_swIn (off := 79) (tgt := 80) dX6_ofPlane_1 (by rw [q5]; decide) (by rw [q5]; decide) (by rw [q5]; rfl) (by decide) ?_
    refine e_aload_n (pc' := 81) (i := 0) rfl rfl dX6_ofPlane_80 rfl ?_
    obtain ⟨I7, A8, L9, hF6, h⟩ := g_b1_e h
    refine e_callV_a (pc' := 84) dX6_ofPlane_81 rfl mw_503 mv_X6_crystal rfl (Nat.le_of_ble_eq_true rfl) (Nat.le_of_ble_eq_true rfl) rfl (Nat.le_of_ble_eq_true rfl) (Nat.le_of_ble_eq_true rfl) rfl (c_X6_crystal hF6) rfl ?_
    refine e_iload_n (pc' := 85) (i := 1) rfl rfl dX6_ofPlane_84 rfl ?_
    obtain ⟨v11, hF10, h⟩ := g_bd_e h
    refine e_callVN_i (pc' := 88) dX6_ofPlane_85 rfl mw_576 mv_X4_isShown rfl (Nat.le_of_ble_eq_true rfl) (Nat.le_of_ble_eq_true rfl) rfl (Nat.le_of_ble_eq_true rfl) (Nat.le_of_ble_eq_true rfl) rfl (c_X4_isShown_38 _ hF10) rfl ?_
    refine e_if_eq (tgt := 95) (pc' := 91) dX6_ofPlane_88 (by decide) rfl h (fun h => ?_) (fun h => ?_)
    · refine e_iconst (v := 0) (pc' := 96) (by decide) dX6_ofPlane_95 rfl ?_
      obtain ⟨rfl, rfl, rfl, rfl⟩ := g_re4 h
      exact e_iret dX6_ofPlane_96
    · refine e_iconst (v := 1) (pc' := 92) (by decide) dX6_ofPlane_91 rfl ?_
      refine e_goto (tgt := 96) dX6_ofPlane_92 (by decide) ?_
      obtain ⟨rfl, rfl, rfl, rfl⟩ := g_re4 h
      exact e_iret dX6_ofPlane_96
  rw [if_neg q5] at h
  by_cases q12 : a1 = 5
  · rw [if_pos q12] at h
    refine e_swIn (off := 96) (tgt := 97) dX6_ofPlane_1 (by rw [q12]; decide) (by rw [q12]; decide) (by rw [q12]; rfl) (by decide) ?_
    refine e_aload_n (pc' := 98) (i := 0) rfl rfl dX6_ofPlane_97 rfl ?_
    obtain ⟨I14, A15, L16, hF13, h⟩ := g_b1_e h
    refine e_callV_a (pc' := 101) dX6_ofPlane_98 rfl mw_503 mv_X6_crystal rfl (Nat.le_of_ble_eq_true rfl) (Nat.le_of_ble_eq_true rfl) rfl (Nat.le_of_ble_eq_true rfl) (Nat.le_of_ble_eq_true rfl) rfl (c_X6_crystal hF13) rfl ?_
    refine e_getRN (a := 38) (b := 44) (k0 := 5) (pc' := 104) dX6_ofPlane_101 rfl rfl (Nat.le_of_ble_eq_true rfl) (Nat.le_of_ble_eq_true rfl) rfl mw_244 rfl ?_
    refine e_iload_n (pc' := 105) (i := 1) rfl rfl dX6_ofPlane_104 rfl ?_
    refine e_iald (n := 32) (pc' := 106) dX6_ofPlane_105 rfl rfl (Nat.le_of_ble_eq_true rfl) h (fun h => ?_)
    obtain ⟨rfl, rfl, rfl, rfl⟩ := g_re4 h
    exact e_iret dX6_ofPlane_106
  rw [if_neg q12] at h
  refine e_swOut (tgt := 107) dX6_ofPlane_1 (g_swo5 q1 q2 q3 q4 q5 q12) (by decide) ?_
  refine e_aload_n (pc' := 108) (i := 0) rfl rfl dX6_ofPlane_107 rfl ?_
  obtain ⟨I18, A19, L20, hF17, h⟩ := g_b1_e h
  refine e_callV_a (pc' := 111) dX6_ofPlane_108 rfl mw_503 mv_X6_crystal rfl (Nat.le_of_ble_eq_true rfl) (Nat.le_of_ble_eq_true rfl) rfl (Nat.le_of_ble_eq_true rfl) (Nat.le_of_ble_eq_true rfl) rfl (c_X6_crystal hF17) rfl ?_
  refine e_iload_n (pc' := 112) (i := 1) rfl rfl dX6_ofPlane_111 rfl ?_
  obtain ⟨v22, hF21, h⟩ := g_bd_e h
  refine e_callVN_i (pc' := 115) dX6_ofPlane_112 rfl mw_580 mv_X4_edgesOn rfl (Nat.le_of_ble_eq_true rfl) (Nat.le_of_ble_eq_true rfl) rfl (Nat.le_of_ble_eq_true rfl) (Nat.le_of_ble_eq_true rfl) rfl (c_X4_edgesOn_38 _ hF21) rfl ?_
  obtain ⟨rfl, rfl, rfl, rfl⟩ := g_re4 h
  exact e_iret dX6_ofPlane_115
set_option maxHeartbeats 4000000 in
set_option maxRecDepth 100000 in
theorem w_X6_of_p18  : ∀ (I : Nat → Int32) (A : Nat → Nat → Int32) (L : Nat → Int64) (t : (Int32 × gS)), f_X6_of_p18 I A L = some t → Ev 70 RX6 cX6_of 3 (some .int) 6 18 [some (.ref 0), none, none] [] I A L (some (.int t.1), t.2) := by
  intro  I A L t h
  unfold f_X6_of_p18 at h
  refine e_aload_n (pc' := 19) (i := 0) rfl rfl dX6_of_18 rfl ?_
  refine e_bipush (v := (-100)) (pc' := 21) (by decide) dX6_of_19 rfl ?_
  obtain ⟨v5, I2, A3, L4, hF1, h⟩ := g_b2_e h
  refine e_callV_i (pc' := 24) dX6_of_21 rfl mw_397 mv_X6_refuseBad rfl (Nat.le_of_ble_eq_true rfl) (Nat.le_of_ble_eq_true rfl) rfl (Nat.le_of_ble_eq_true rfl) (Nat.le_of_ble_eq_true rfl) rfl (c_X6_refuseBad _ hF1) rfl ?_
  obtain rfl := g_re1 h
  exact e_iret dX6_of_24
set_option maxHeartbeats 4000000 in
set_option maxRecDepth 100000 in
theorem c_X6_of (a0 : Int32) (a1 : Int32) {I : Nat → Int32} {A : Nat → Nat → Int32} {L : Nat → Int64} {t : Int32} {I' : Nat → Int32} {A' : Nat → Nat → Int32} {L' : Nat → Int64} (h : f_X6_of  a0 a1 I A L = some (t, I', A', L')) : GM 70 yX6_of cX6_of 3 (some .int) 6 [.ref 0, .int a0, .int a1] I A L (some (.int t), (I', A', L')) := by
  refine gm_of (n := 0) (lc := [some (.ref 0), some (.int a0), some (.int a1)]) (by decide +kernel) rfl (fun _ => Nat.le_of_ble_eq_true rfl) ?_
  change Ev 70 RX6 cX6_of 3 (some .int) 6 0 [some (.ref 0), some (.int a0), some (.int a1)] [] I A L _
  unfold f_X6_of at h
  refine e_aload_n (pc' := 1) (i := 0) rfl rfl dX6_of_0 rfl ?_
  refine e_iload_n (pc' := 2) (i := 1) rfl rfl dX6_of_1 rfl ?_
  obtain ⟨v2, hF1, h⟩ := g_bd_e h
  refine e_callV_i (pc' := 5) dX6_of_2 rfl mw_469 mv_X6_isPlane rfl (Nat.le_of_ble_eq_true rfl) (Nat.le_of_ble_eq_true rfl) rfl (Nat.le_of_ble_eq_true rfl) (Nat.le_of_ble_eq_true rfl) rfl (c_X6_isPlane _ hF1) rfl ?_
  refine e_if_eq (tgt := 18) (pc' := 8) dX6_of_5 (by decide) rfl h (fun h => ?_) (fun h => ?_)
  · exact e_weak (lc' := [some (.ref 0), none, none]) (gle_s (gle_n (gle_n gle_0))) (w_X6_of_p18  _ _ _ _ h)
  · refine e_iload_n (pc' := 9) (i := 2) rfl rfl dX6_of_8 rfl ?_
    refine e_if_lt (tgt := 18) (pc' := 12) dX6_of_9 (by decide) rfl h (fun h => ?_) (fun h => ?_)
    · exact e_weak (lc' := [some (.ref 0), none, none]) (gle_s (gle_n (gle_n gle_0))) (w_X6_of_p18  _ _ _ _ h)
    · refine e_iload_n (pc' := 13) (i := 2) rfl rfl dX6_of_12 rfl ?_
      refine e_bipush (v := 6) (pc' := 15) (by decide) dX6_of_13 rfl ?_
      refine e_icmp_le (tgt := 25) (pc' := 18) dX6_of_15 (by decide) rfl h (fun h => ?_) (fun h => ?_)
      · refine e_aload_n (pc' := 26) (i := 0) rfl rfl dX6_of_25 rfl ?_
        refine e_iload_n (pc' := 27) (i := 1) rfl rfl dX6_of_26 rfl ?_
        refine e_iload_n (pc' := 28) (i := 2) rfl rfl dX6_of_27 rfl ?_
        obtain ⟨v7, I4, A5, L6, hF3, h⟩ := g_b2_e h
        refine e_callV_i (pc' := 31) dX6_of_28 rfl mw_572 mv_X6_ofPlane rfl (Nat.le_of_ble_eq_true rfl) (Nat.le_of_ble_eq_true rfl) rfl (Nat.le_of_ble_eq_true rfl) (Nat.le_of_ble_eq_true rfl) rfl (c_X6_ofPlane _ _ hF3) rfl ?_
        obtain ⟨rfl, rfl, rfl, rfl⟩ := g_re4 h
        exact e_iret dX6_of_31
      · exact e_weak (lc' := [some (.ref 0), none, none]) (gle_s (gle_n (gle_n gle_0))) (w_X6_of_p18  _ _ _ _ h)
set_option maxHeartbeats 4000000 in
set_option maxRecDepth 100000 in
theorem w_X6_member_p23  : ∀ (I : Nat → Int32) (A : Nat → Nat → Int32) (L : Nat → Int64) (t : (Int32 × gS)), f_X6_member_p23 I A L = some t → Ev 70 RX6 cX6_member 6 (some .int) 3 23 [some (.ref 0), none, none, none, none, none] [] I A L (some (.int t.1), t.2) := by
  intro  I A L t h
  unfold f_X6_member_p23 at h
  refine e_aload_n (pc' := 24) (i := 0) rfl rfl dX6_member_23 rfl ?_
  refine e_bipush (v := (-10)) (pc' := 26) (by decide) dX6_member_24 rfl ?_
  obtain ⟨v5, I2, A3, L4, hF1, h⟩ := g_b2_e h
  refine e_callV_i (pc' := 29) dX6_member_26 rfl mw_397 mv_X6_refuseBad rfl (Nat.le_of_ble_eq_true rfl) (Nat.le_of_ble_eq_true rfl) rfl (Nat.le_of_ble_eq_true rfl) (Nat.le_of_ble_eq_true rfl) rfl (c_X6_refuseBad _ hF1) rfl ?_
  obtain rfl := g_re1 h
  exact e_iret dX6_member_29
set_option maxHeartbeats 4000000 in
set_option maxRecDepth 100000 in
theorem c_X6_member (a0 : Int32) (a1 : Int32) (a2 : Int32) (a3 : Int32) (a4 : Int32) {I : Nat → Int32} {A : Nat → Nat → Int32} {L : Nat → Int64} {t : Int32} {I' : Nat → Int32} {A' : Nat → Nat → Int32} {L' : Nat → Int64} (h : f_X6_member  a0 a1 a2 a3 a4 I A L = some (t, I', A', L')) : GM 70 yX6_member cX6_member 6 (some .int) 3 [.ref 0, .int a0, .int a1, .int a2, .int a3, .int a4] I A L (some (.int t), (I', A', L')) := by
  refine gm_of (n := 0) (lc := [some (.ref 0), some (.int a0), some (.int a1), some (.int a2), some (.int a3), some (.int a4)]) (by decide +kernel) rfl (fun _ => Nat.le_of_ble_eq_true rfl) ?_
  change Ev 70 RX6 cX6_member 6 (some .int) 3 0 [some (.ref 0), some (.int a0), some (.int a1), some (.int a2), some (.int a3), some (.int a4)] [] I A L _
  unfold f_X6_member at h
  refine e_iload_n (pc' := 1) (i := 1) rfl rfl dX6_member_0 rfl ?_
  obtain ⟨v2, hF1, h⟩ := g_bd_e h
  refine e_callS_i (pc' := 4) dX6_member_1 rfl mw_432 ms_X6_isTurnSet rfl (Nat.le_of_ble_eq_true rfl) (Nat.le_of_ble_eq_true rfl) (c_X6_isTurnSet _ hF1) rfl ?_
  refine e_if_eq (tgt := 23) (pc' := 7) dX6_member_4 (by decide) rfl h (fun h => ?_) (fun h => ?_)
  · exact e_weak (lc' := [some (.ref 0), none, none, none, none, none]) (gle_s (gle_n (gle_n (gle_n (gle_n (gle_n gle_0)))))) (w_X6_member_p23  _ _ _ _ h)
  · refine e_iload_n (pc' := 8) (i := 2) rfl rfl dX6_member_7 rfl ?_
    refine e_iload_n (pc' := 9) (i := 3) rfl rfl dX6_member_8 rfl ?_
    refine e_iload (pc' := 11) (i := 4) rfl dX6_member_9 rfl ?_
    obtain ⟨v4, hF3, h⟩ := g_bd_e h
    refine e_callS_i (pc' := 14) dX6_member_11 rfl mw_388 ms_X6_isSign rfl (Nat.le_of_ble_eq_true rfl) (Nat.le_of_ble_eq_true rfl) (c_X6_isSign _ _ _ hF3) rfl ?_
    refine e_if_eq (tgt := 23) (pc' := 17) dX6_member_14 (by decide) rfl h (fun h => ?_) (fun h => ?_)
    · exact e_weak (lc' := [some (.ref 0), none, none, none, none, none]) (gle_s (gle_n (gle_n (gle_n (gle_n (gle_n gle_0)))))) (w_X6_member_p23  _ _ _ _ h)
    · refine e_iload (pc' := 19) (i := 5) rfl dX6_member_17 rfl ?_
      refine e_iconst (v := (-1)) (pc' := 20) (by decide) dX6_member_19 rfl ?_
      refine e_icmp_ge (tgt := 30) (pc' := 23) dX6_member_20 (by decide) rfl h (fun h => ?_) (fun h => ?_)
      · refine e_aload_n (pc' := 31) (i := 0) rfl rfl dX6_member_30 rfl ?_
        refine e_getR (a := 0) (b := 54) (k0 := 5) (pc' := 34) dX6_member_31 rfl rfl (Nat.le_of_ble_eq_true rfl) (Nat.le_of_ble_eq_true rfl) rfl mw_340 rfl ?_
        refine e_iload_n (pc' := 35) (i := 1) rfl rfl dX6_member_34 rfl ?_
        refine e_iload_n (pc' := 36) (i := 2) rfl rfl dX6_member_35 rfl ?_
        refine e_iload_n (pc' := 37) (i := 3) rfl rfl dX6_member_36 rfl ?_
        refine e_iload (pc' := 39) (i := 4) rfl dX6_member_37 rfl ?_
        obtain ⟨I6, A7, L8, hF5, h⟩ := g_b1_e h
        refine e_callVN_v (pc' := 42) dX6_member_39 rfl mw_435 mv_X0_gather rfl (Nat.le_of_ble_eq_true rfl) (Nat.le_of_ble_eq_true rfl) rfl (Nat.le_of_ble_eq_true rfl) (Nat.le_of_ble_eq_true rfl) rfl (c_X0_gather _ _ _ _ hF5) rfl ?_
        refine e_iload (pc' := 44) (i := 5) rfl dX6_member_42 rfl ?_
        refine e_iconst (v := (-1)) (pc' := 45) (by decide) dX6_member_44 rfl ?_
        refine e_icmp_ne (tgt := 56) (pc' := 48) dX6_member_45 (by decide) rfl h (fun h => ?_) (fun h => ?_)
        · refine e_iload (pc' := 58) (i := 5) rfl dX6_member_56 rfl ?_
          refine e_aload_n (pc' := 59) (i := 0) rfl rfl dX6_member_58 rfl ?_
          refine e_getR (a := 0) (b := 54) (k0 := 5) (pc' := 62) dX6_member_59 rfl rfl (Nat.le_of_ble_eq_true rfl) (Nat.le_of_ble_eq_true rfl) rfl mw_340 rfl ?_
          refine e_getIN (a := 54) (n := 866) (k0 := 2) (pc' := 65) dX6_member_62 rfl rfl (Nat.le_of_ble_eq_true rfl) (Nat.le_of_ble_eq_true rfl) rfl mw_279 rfl ?_
          refine e_icmp_ge (tgt := 81) (pc' := 68) dX6_member_65 (by decide) rfl h (fun h => ?_) (fun h => ?_)
          · refine e_bipush (v := (-5)) (pc' := 83) (by decide) dX6_member_81 rfl ?_
            obtain ⟨rfl, rfl, rfl, rfl⟩ := g_re4 h
            exact e_iret dX6_member_83
          · refine e_aload_n (pc' := 69) (i := 0) rfl rfl dX6_member_68 rfl ?_
            refine e_getR (a := 0) (b := 54) (k0 := 5) (pc' := 72) dX6_member_69 rfl rfl (Nat.le_of_ble_eq_true rfl) (Nat.le_of_ble_eq_true rfl) rfl mw_340 rfl ?_
            refine e_getRN (a := 54) (b := 56) (k0 := 1) (pc' := 75) dX6_member_72 rfl rfl (Nat.le_of_ble_eq_true rfl) (Nat.le_of_ble_eq_true rfl) rfl mw_277 rfl ?_
            refine e_iload (pc' := 77) (i := 5) rfl dX6_member_75 rfl ?_
            refine e_iald (n := 48) (pc' := 78) dX6_member_77 rfl rfl (Nat.le_of_ble_eq_true rfl) h (fun h => ?_)
            refine e_goto (tgt := 83) dX6_member_78 (by decide) ?_
            obtain ⟨rfl, rfl, rfl, rfl⟩ := g_re4 h
            exact e_iret dX6_member_83
        · refine e_aload_n (pc' := 49) (i := 0) rfl rfl dX6_member_48 rfl ?_
          refine e_getR (a := 0) (b := 54) (k0 := 5) (pc' := 52) dX6_member_49 rfl rfl (Nat.le_of_ble_eq_true rfl) (Nat.le_of_ble_eq_true rfl) rfl mw_340 rfl ?_
          refine e_getIN (a := 54) (n := 866) (k0 := 2) (pc' := 55) dX6_member_52 rfl rfl (Nat.le_of_ble_eq_true rfl) (Nat.le_of_ble_eq_true rfl) rfl mw_279 rfl ?_
          obtain ⟨rfl, rfl, rfl, rfl⟩ := g_re4 h
          exact e_iret dX6_member_55
      · exact e_weak (lc' := [some (.ref 0), none, none, none, none, none]) (gle_s (gle_n (gle_n (gle_n (gle_n (gle_n gle_0)))))) (w_X6_member_p23  _ _ _ _ h)
set_option maxHeartbeats 4000000 in
set_option maxRecDepth 100000 in
theorem c_J6_bitCount_0f7a4 (a0 : Int32) {I : Nat → Int32} {A : Nat → Nat → Int32} {L : Nat → Int64} {t : Int32} (h : f_J6_bitCount_0f7a4 I A L a0 = some t) : GM 70 yJ6_bitCount_0f7a4 cJ6_bitCount_0f7a4 1 (some .int) 0 [.int a0] I A L (some (.int t), (I, A, L)) := by
  refine gm_of (n := 0) (lc := [some (.int a0)]) (by decide +kernel) rfl (fun _ => Nat.le_of_ble_eq_true rfl) ?_
  change Ev 70 RJ6 cJ6_bitCount_0f7a4 1 (some .int) 0 0 [some (.int a0)] [] I A L _
  unfold f_J6_bitCount_0f7a4 at h
  refine e_iload_n (pc' := 1) (i := 0) rfl rfl dJ6_bitCount_0f7a4_0 rfl ?_
  refine e_iload_n (pc' := 2) (i := 0) rfl rfl dJ6_bitCount_0f7a4_1 rfl ?_
  refine e_iconst (v := 1) (pc' := 3) (by decide) dJ6_bitCount_0f7a4_2 rfl ?_
  refine e_iushr (pc' := 4) dJ6_bitCount_0f7a4_3 rfl ?_
  refine e_ldcw (pc' := 7) mw_600 dJ6_bitCount_0f7a4_4 rfl ?_
  refine e_iand (pc' := 8) dJ6_bitCount_0f7a4_7 rfl ?_
  refine e_isub (pc' := 9) dJ6_bitCount_0f7a4_8 rfl ?_
  refine e_lt h (fun v1 h => ?_)
  refine e_istore_n (pc' := 10) (i := 0) (lc' := [some (.int v1)]) rfl dJ6_bitCount_0f7a4_9 rfl (Nat.le_of_ble_eq_true rfl) rfl rfl ?_
  refine e_iload_n (pc' := 11) (i := 0) rfl rfl dJ6_bitCount_0f7a4_10 rfl ?_
  refine e_ldcw (pc' := 14) mw_601 dJ6_bitCount_0f7a4_11 rfl ?_
  refine e_iand (pc' := 15) dJ6_bitCount_0f7a4_14 rfl ?_
  refine e_iload_n (pc' := 16) (i := 0) rfl rfl dJ6_bitCount_0f7a4_15 rfl ?_
  refine e_iconst (v := 2) (pc' := 17) (by decide) dJ6_bitCount_0f7a4_16 rfl ?_
  refine e_iushr (pc' := 18) dJ6_bitCount_0f7a4_17 rfl ?_
  refine e_ldcw (pc' := 21) mw_601 dJ6_bitCount_0f7a4_18 rfl ?_
  refine e_iand (pc' := 22) dJ6_bitCount_0f7a4_21 rfl ?_
  refine e_iadd (pc' := 23) dJ6_bitCount_0f7a4_22 rfl ?_
  refine e_lt h (fun v2 h => ?_)
  refine e_istore_n (pc' := 24) (i := 0) (lc' := [some (.int v2)]) rfl dJ6_bitCount_0f7a4_23 rfl (Nat.le_of_ble_eq_true rfl) rfl rfl ?_
  refine e_iload_n (pc' := 25) (i := 0) rfl rfl dJ6_bitCount_0f7a4_24 rfl ?_
  refine e_iload_n (pc' := 26) (i := 0) rfl rfl dJ6_bitCount_0f7a4_25 rfl ?_
  refine e_iconst (v := 4) (pc' := 27) (by decide) dJ6_bitCount_0f7a4_26 rfl ?_
  refine e_iushr (pc' := 28) dJ6_bitCount_0f7a4_27 rfl ?_
  refine e_iadd (pc' := 29) dJ6_bitCount_0f7a4_28 rfl ?_
  refine e_ldcw (pc' := 32) mw_602 dJ6_bitCount_0f7a4_29 rfl ?_
  refine e_iand (pc' := 33) dJ6_bitCount_0f7a4_32 rfl ?_
  refine e_lt h (fun v3 h => ?_)
  refine e_istore_n (pc' := 34) (i := 0) (lc' := [some (.int v3)]) rfl dJ6_bitCount_0f7a4_33 rfl (Nat.le_of_ble_eq_true rfl) rfl rfl ?_
  refine e_iload_n (pc' := 35) (i := 0) rfl rfl dJ6_bitCount_0f7a4_34 rfl ?_
  refine e_iload_n (pc' := 36) (i := 0) rfl rfl dJ6_bitCount_0f7a4_35 rfl ?_
  refine e_bipush (v := 8) (pc' := 38) (by decide) dJ6_bitCount_0f7a4_36 rfl ?_
  refine e_iushr (pc' := 39) dJ6_bitCount_0f7a4_38 rfl ?_
  refine e_iadd (pc' := 40) dJ6_bitCount_0f7a4_39 rfl ?_
  refine e_lt h (fun v4 h => ?_)
  refine e_istore_n (pc' := 41) (i := 0) (lc' := [some (.int v4)]) rfl dJ6_bitCount_0f7a4_40 rfl (Nat.le_of_ble_eq_true rfl) rfl rfl ?_
  refine e_iload_n (pc' := 42) (i := 0) rfl rfl dJ6_bitCount_0f7a4_41 rfl ?_
  refine e_iload_n (pc' := 43) (i := 0) rfl rfl dJ6_bitCount_0f7a4_42 rfl ?_
  refine e_bipush (v := 16) (pc' := 45) (by decide) dJ6_bitCount_0f7a4_43 rfl ?_
  refine e_iushr (pc' := 46) dJ6_bitCount_0f7a4_45 rfl ?_
  refine e_iadd (pc' := 47) dJ6_bitCount_0f7a4_46 rfl ?_
  refine e_lt h (fun v5 h => ?_)
  refine e_istore_n (pc' := 48) (i := 0) (lc' := [some (.int v5)]) rfl dJ6_bitCount_0f7a4_47 rfl (Nat.le_of_ble_eq_true rfl) rfl rfl ?_
  refine e_iload_n (pc' := 49) (i := 0) rfl rfl dJ6_bitCount_0f7a4_48 rfl ?_
  refine e_bipush (v := 63) (pc' := 51) (by decide) dJ6_bitCount_0f7a4_49 rfl ?_
  refine e_iand (pc' := 52) dJ6_bitCount_0f7a4_51 rfl ?_
  obtain rfl := g_re1 h
  exact e_iret dJ6_bitCount_0f7a4_52
set_option maxHeartbeats 4000000 in
set_option maxRecDepth 100000 in
theorem c_X4_showing_38  {I : Nat → Int32} {A : Nat → Nat → Int32} {L : Nat → Int64} {t : Int32} (h : f_X4_showing 38 I A L  = some t) : GM 70 yX4_showing cX4_showing 1 (some .int) 1 [.ref 38] I A L (some (.int t), (I, A, L)) := by
  refine gm_of (n := 0) (lc := [some (.ref 38)]) (by decide +kernel) rfl (fun _ => Nat.le_of_ble_eq_true rfl) ?_
  change Ev 70 RX4 cX4_showing 1 (some .int) 1 0 [some (.ref 38)] [] I A L _
  unfold f_X4_showing at h
  refine e_aload_n (pc' := 1) (i := 0) rfl rfl dX4_showing_0 rfl ?_
  refine e_getI (a := 38) (n := 616) (k0 := 8) (pc' := 4) dX4_showing_1 rfl rfl (Nat.le_of_ble_eq_true rfl) (Nat.le_of_ble_eq_true rfl) rfl mw_248 rfl ?_
  obtain ⟨v2, hF1, h⟩ := g_bd_e h
  refine e_callS_i (pc' := 7) dX4_showing_4 rfl mw_597 ms_J6_bitCount_0f7a4 rfl (Nat.le_of_ble_eq_true rfl) (Nat.le_of_ble_eq_true rfl) (c_J6_bitCount_0f7a4 _ hF1) rfl ?_
  obtain rfl := g_re1 h
  exact e_iret dX4_showing_7
set_option maxHeartbeats 4000000 in
set_option maxRecDepth 100000 in
theorem c_X4_edges_38  {I : Nat → Int32} {A : Nat → Nat → Int32} {L : Nat → Int64} {t : Int32} (h : f_X4_edges 38 I A L  = some t) : GM 70 yX4_edges cX4_edges 1 (some .int) 2 [.ref 38] I A L (some (.int t), (I, A, L)) := by
  refine gm_of (n := 0) (lc := [some (.ref 38)]) (by decide +kernel) rfl (fun _ => Nat.le_of_ble_eq_true rfl) ?_
  change Ev 70 RX4 cX4_edges 1 (some .int) 2 0 [some (.ref 38)] [] I A L _
  unfold f_X4_edges at h
  refine e_aload_n (pc' := 1) (i := 0) rfl rfl dX4_edges_0 rfl ?_
  refine e_getI (a := 38) (n := 615) (k0 := 7) (pc' := 4) dX4_edges_1 rfl rfl (Nat.le_of_ble_eq_true rfl) (Nat.le_of_ble_eq_true rfl) rfl mw_246 rfl ?_
  refine e_aload_n (pc' := 5) (i := 0) rfl rfl dX4_edges_4 rfl ?_
  obtain ⟨v2, hF1, h⟩ := g_bd_e h
  refine e_callV_i (pc' := 8) dX4_edges_5 rfl mw_607 mv_X4_showing rfl (Nat.le_of_ble_eq_true rfl) (Nat.le_of_ble_eq_true rfl) rfl (Nat.le_of_ble_eq_true rfl) (Nat.le_of_ble_eq_true rfl) rfl (c_X4_showing_38 hF1) rfl ?_
  refine e_iadd (pc' := 9) dX4_edges_8 rfl ?_
  refine e_iconst (v := 2) (pc' := 10) (by decide) dX4_edges_9 rfl ?_
  refine e_isub (pc' := 11) dX4_edges_10 rfl ?_
  obtain rfl := g_re1 h
  exact e_iret dX4_edges_11
set_option maxHeartbeats 4000000 in
set_option maxRecDepth 100000 in
theorem w_X4_mostCornersOnPlane_38_p4 (I : Nat → Int32) (A : Nat → Nat → Int32) (L : Nat → Int64) : ∀ (n : Nat) (x1 : Int32) (x2 : Int32) (x3 : Int32) (t : Int32), f_X4_mostCornersOnPlane_p4 38 I A L n x1 x2 x3 = some t → Ev 70 RX4 cX4_mostCornersOnPlane 4 (some .int) 1 4 [some (.ref 38), some (.int x1), some (.int x2), some (.int x3)] [] I A L (some (.int t), (I, A, L)) := by
  intro n
  induction n with
  | zero =>
    intro x1 x2 x3 t h
    cases h
  | succ n ih =>
    intro x1 x2 x3 t h
    rw [f_X4_mostCornersOnPlane_p4] at h
    refine e_iload_n (pc' := 5) (i := 3) rfl rfl dX4_mostCornersOnPlane_4 rfl ?_
    refine e_iload_n (pc' := 6) (i := 1) rfl rfl dX4_mostCornersOnPlane_5 rfl ?_
    refine e_icmp_ge (tgt := 34) (pc' := 9) dX4_mostCornersOnPlane_6 (by decide) rfl h (fun h => ?_) (fun h => ?_)
    · refine e_iload_n (pc' := 35) (i := 2) rfl rfl dX4_mostCornersOnPlane_34 rfl ?_
      obtain rfl := g_re1 h
      exact e_iret dX4_mostCornersOnPlane_35
    · refine e_aload_n (pc' := 10) (i := 0) rfl rfl dX4_mostCornersOnPlane_9 rfl ?_
      refine e_iload_n (pc' := 11) (i := 3) rfl rfl dX4_mostCornersOnPlane_10 rfl ?_
      obtain ⟨v2, hF1, h⟩ := g_bd_e h
      refine e_callV_i (pc' := 14) dX4_mostCornersOnPlane_11 rfl mw_584 mv_X4_isShown rfl (Nat.le_of_ble_eq_true rfl) (Nat.le_of_ble_eq_true rfl) rfl (Nat.le_of_ble_eq_true rfl) (Nat.le_of_ble_eq_true rfl) rfl (c_X4_isShown_38 _ hF1) rfl ?_
      refine e_if_eq (tgt := 28) (pc' := 17) dX4_mostCornersOnPlane_14 (by decide) rfl h (fun h => ?_) (fun h => ?_)
      · refine e_iinc (pc' := 31) (v := (x3 + 1)) (lc' := [some (.ref 38), some (.int x1), some (.int x2), some (.int (x3 + 1))]) dX4_mostCornersOnPlane_28 rfl rfl rfl (Nat.le_of_ble_eq_true rfl) rfl rfl ?_
        refine e_goto (tgt := 4) dX4_mostCornersOnPlane_31 (by decide) ?_
        exact e_weak (lc' := [some (.ref 38), some (.int x1), some (.int x2), some (.int (x3 + 1))]) (gle_s (gle_s (gle_s (gle_s gle_0)))) (ih _ _ _ _ h)
      · refine e_iload_n (pc' := 18) (i := 2) rfl rfl dX4_mostCornersOnPlane_17 rfl ?_
        refine e_aload_n (pc' := 19) (i := 0) rfl rfl dX4_mostCornersOnPlane_18 rfl ?_
        refine e_getR (a := 38) (b := 44) (k0 := 5) (pc' := 22) dX4_mostCornersOnPlane_19 rfl rfl (Nat.le_of_ble_eq_true rfl) (Nat.le_of_ble_eq_true rfl) rfl mw_243 rfl ?_
        refine e_iload_n (pc' := 23) (i := 3) rfl rfl dX4_mostCornersOnPlane_22 rfl ?_
        refine e_iald (n := 32) (pc' := 24) dX4_mostCornersOnPlane_23 rfl rfl (Nat.le_of_ble_eq_true rfl) h (fun h => ?_)
        refine e_mmax (pc' := 27) dX4_mostCornersOnPlane_24 rfl mw_612 mw_613 mw_109 mw_614 (Nat.le_of_ble_eq_true rfl) (Nat.le_of_ble_eq_true rfl) ?_
        refine e_lt h (fun v3 h => ?_)
        refine e_istore_n (pc' := 28) (i := 2) (lc' := [some (.ref 38), some (.int x1), some (.int v3), some (.int x3)]) rfl dX4_mostCornersOnPlane_27 rfl (Nat.le_of_ble_eq_true rfl) rfl rfl ?_
        refine e_iinc (pc' := 31) (v := (x3 + 1)) (lc' := [some (.ref 38), some (.int x1), some (.int v3), some (.int (x3 + 1))]) dX4_mostCornersOnPlane_28 rfl rfl rfl (Nat.le_of_ble_eq_true rfl) rfl rfl ?_
        refine e_goto (tgt := 4) dX4_mostCornersOnPlane_31 (by decide) ?_
        exact e_weak (lc' := [some (.ref 38), some (.int x1), some (.int v3), some (.int (x3 + 1))]) (gle_s (gle_s (gle_s (gle_s gle_0)))) (ih _ _ _ _ h)
set_option maxHeartbeats 4000000 in
set_option maxRecDepth 100000 in
theorem c_X4_mostCornersOnPlane_38 (a0 : Int32) {I : Nat → Int32} {A : Nat → Nat → Int32} {L : Nat → Int64} {t : Int32} (h : f_X4_mostCornersOnPlane 38 I A L a0 = some t) : GM 70 yX4_mostCornersOnPlane cX4_mostCornersOnPlane 4 (some .int) 1 [.ref 38, .int a0] I A L (some (.int t), (I, A, L)) := by
  refine gm_of (n := 2) (lc := [some (.ref 38), some (.int a0), none, none]) (by decide +kernel) rfl (fun _ => Nat.le_of_ble_eq_true rfl) ?_
  change Ev 70 RX4 cX4_mostCornersOnPlane 4 (some .int) 1 0 [some (.ref 38), some (.int a0), none, none] [] I A L _
  unfold f_X4_mostCornersOnPlane at h
  refine e_iconst (v := 0) (pc' := 1) (by decide) dX4_mostCornersOnPlane_0 rfl ?_
  refine e_istore_n (pc' := 2) (i := 2) (lc' := [some (.ref 38), some (.int a0), some (.int 0), none]) rfl dX4_mostCornersOnPlane_1 rfl (Nat.le_of_ble_eq_true rfl) rfl rfl ?_
  refine e_iconst (v := 0) (pc' := 3) (by decide) dX4_mostCornersOnPlane_2 rfl ?_
  refine e_istore_n (pc' := 4) (i := 3) (lc' := [some (.ref 38), some (.int a0), some (.int 0), some (.int 0)]) rfl dX4_mostCornersOnPlane_3 rfl (Nat.le_of_ble_eq_true rfl) rfl rfl ?_
  exact e_weak (lc' := [some (.ref 38), some (.int a0), some (.int 0), some (.int 0)]) (gle_s (gle_s (gle_s (gle_s gle_0)))) (w_X4_mostCornersOnPlane_38_p4 I A L  _ _ _ _ _ h)
set_option maxHeartbeats 4000000 in
set_option maxRecDepth 100000 in
theorem w_X4_mostPlanesOnCorner_38_p4 (I : Nat → Int32) (A : Nat → Nat → Int32) (L : Nat → Int64) : ∀ (n : Nat) (x1 : Int32) (x2 : Int32) (t : Int32), f_X4_mostPlanesOnCorner_p4 38 I A L n x1 x2 = some t → Ev 70 RX4 cX4_mostPlanesOnCorner 3 (some .int) 1 4 [some (.ref 38), some (.int x1), some (.int x2)] [] I A L (some (.int t), (I, A, L)) := by
  intro n
  induction n with
  | zero =>
    intro x1 x2 t h
    cases h
  | succ n ih =>
    intro x1 x2 t h
    rw [f_X4_mostPlanesOnCorner_p4] at h
    refine e_iload_n (pc' := 5) (i := 2) rfl rfl dX4_mostPlanesOnCorner_4 rfl ?_
    refine e_aload_n (pc' := 6) (i := 0) rfl rfl dX4_mostPlanesOnCorner_5 rfl ?_
    refine e_getI (a := 38) (n := 615) (k0 := 7) (pc' := 9) dX4_mostPlanesOnCorner_6 rfl rfl (Nat.le_of_ble_eq_true rfl) (Nat.le_of_ble_eq_true rfl) rfl mw_246 rfl ?_
    refine e_icmp_ge (tgt := 37) (pc' := 12) dX4_mostPlanesOnCorner_9 (by decide) rfl h (fun h => ?_) (fun h => ?_)
    · refine e_iload_n (pc' := 38) (i := 1) rfl rfl dX4_mostPlanesOnCorner_37 rfl ?_
      obtain rfl := g_re1 h
      exact e_iret dX4_mostPlanesOnCorner_38
    · refine e_iload_n (pc' := 13) (i := 1) rfl rfl dX4_mostPlanesOnCorner_12 rfl ?_
      refine e_aload_n (pc' := 14) (i := 0) rfl rfl dX4_mostPlanesOnCorner_13 rfl ?_
      refine e_getR (a := 38) (b := 43) (k0 := 4) (pc' := 17) dX4_mostPlanesOnCorner_14 rfl rfl (Nat.le_of_ble_eq_true rfl) (Nat.le_of_ble_eq_true rfl) rfl mw_241 rfl ?_
      refine e_iload_n (pc' := 18) (i := 2) rfl rfl dX4_mostPlanesOnCorner_17 rfl ?_
      refine e_iald (n := 60) (pc' := 19) dX4_mostPlanesOnCorner_18 rfl rfl (Nat.le_of_ble_eq_true rfl) h (fun h => ?_)
      refine e_aload_n (pc' := 20) (i := 0) rfl rfl dX4_mostPlanesOnCorner_19 rfl ?_
      refine e_getI (a := 38) (n := 616) (k0 := 8) (pc' := 23) dX4_mostPlanesOnCorner_20 rfl rfl (Nat.le_of_ble_eq_true rfl) (Nat.le_of_ble_eq_true rfl) rfl mw_248 rfl ?_
      refine e_iand (pc' := 24) dX4_mostPlanesOnCorner_23 rfl ?_
      obtain ⟨v2, hF1, h⟩ := g_bd_e h
      refine e_callS_i (pc' := 27) dX4_mostPlanesOnCorner_24 rfl mw_597 ms_J6_bitCount_0f7a4 rfl (Nat.le_of_ble_eq_true rfl) (Nat.le_of_ble_eq_true rfl) (c_J6_bitCount_0f7a4 _ hF1) rfl ?_
      refine e_mmax (pc' := 30) dX4_mostPlanesOnCorner_27 rfl mw_612 mw_613 mw_109 mw_614 (Nat.le_of_ble_eq_true rfl) (Nat.le_of_ble_eq_true rfl) ?_
      refine e_lt h (fun v3 h => ?_)
      refine e_istore_n (pc' := 31) (i := 1) (lc' := [some (.ref 38), some (.int v3), some (.int x2)]) rfl dX4_mostPlanesOnCorner_30 rfl (Nat.le_of_ble_eq_true rfl) rfl rfl ?_
      refine e_iinc (pc' := 34) (v := (x2 + 1)) (lc' := [some (.ref 38), some (.int v3), some (.int (x2 + 1))]) dX4_mostPlanesOnCorner_31 rfl rfl rfl (Nat.le_of_ble_eq_true rfl) rfl rfl ?_
      refine e_goto (tgt := 4) dX4_mostPlanesOnCorner_34 (by decide) ?_
      exact e_weak (lc' := [some (.ref 38), some (.int v3), some (.int (x2 + 1))]) (gle_s (gle_s (gle_s gle_0))) (ih _ _ _ h)
set_option maxHeartbeats 4000000 in
set_option maxRecDepth 100000 in
theorem c_X4_mostPlanesOnCorner_38  {I : Nat → Int32} {A : Nat → Nat → Int32} {L : Nat → Int64} {t : Int32} (h : f_X4_mostPlanesOnCorner 38 I A L  = some t) : GM 70 yX4_mostPlanesOnCorner cX4_mostPlanesOnCorner 3 (some .int) 1 [.ref 38] I A L (some (.int t), (I, A, L)) := by
  refine gm_of (n := 2) (lc := [some (.ref 38), none, none]) (by decide +kernel) rfl (fun _ => Nat.le_of_ble_eq_true rfl) ?_
  change Ev 70 RX4 cX4_mostPlanesOnCorner 3 (some .int) 1 0 [some (.ref 38), none, none] [] I A L _
  unfold f_X4_mostPlanesOnCorner at h
  refine e_iconst (v := 0) (pc' := 1) (by decide) dX4_mostPlanesOnCorner_0 rfl ?_
  refine e_istore_n (pc' := 2) (i := 1) (lc' := [some (.ref 38), some (.int 0), none]) rfl dX4_mostPlanesOnCorner_1 rfl (Nat.le_of_ble_eq_true rfl) rfl rfl ?_
  refine e_iconst (v := 0) (pc' := 3) (by decide) dX4_mostPlanesOnCorner_2 rfl ?_
  refine e_istore_n (pc' := 4) (i := 2) (lc' := [some (.ref 38), some (.int 0), some (.int 0)]) rfl dX4_mostPlanesOnCorner_3 rfl (Nat.le_of_ble_eq_true rfl) rfl rfl ?_
  exact e_weak (lc' := [some (.ref 38), some (.int 0), some (.int 0)]) (gle_s (gle_s (gle_s gle_0))) (w_X4_mostPlanesOnCorner_38_p4 I A L  _ _ _ _ h)
set_option maxHeartbeats 4000000 in
set_option maxRecDepth 100000 in
theorem c_X6_all (a0 : Int32) {I : Nat → Int32} {A : Nat → Nat → Int32} {L : Nat → Int64} {t : Int32} {I' : Nat → Int32} {A' : Nat → Nat → Int32} {L' : Nat → Int64} (h : f_X6_all  a0 I A L = some (t, I', A', L')) : GM 70 yX6_all cX6_all 2 (some .int) 5 [.ref 0, .int a0] I A L (some (.int t), (I', A', L')) := by
  refine gm_of (n := 0) (lc := [some (.ref 0), some (.int a0)]) (by decide +kernel) rfl (fun _ => Nat.le_of_ble_eq_true rfl) ?_
  change Ev 70 RX6 cX6_all 2 (some .int) 5 0 [some (.ref 0), some (.int a0)] [] I A L _
  unfold f_X6_all at h
  refine e_iload_n (pc' := 1) (i := 1) rfl rfl dX6_all_0 rfl ?_
  by_cases q1 : a0 = 0
  · rw [if_pos q1] at h
    refine e_swIn (off := 43) (tgt := 44) dX6_all_1 (by rw [q1]; decide) (by rw [q1]; decide) (by rw [q1]; rfl) (by decide) ?_
    refine e_aload_n (pc' := 45) (i := 0) rfl rfl dX6_all_44 rfl ?_
    refine e_getR (a := 0) (b := 1) (k0 := 0) (pc' := 48) dX6_all_45 rfl rfl (Nat.le_of_ble_eq_true rfl) (Nat.le_of_ble_eq_true rfl) rfl mw_335 rfl ?_
    refine e_getIN (a := 1) (n := 20) (k0 := 4) (pc' := 51) dX6_all_48 rfl rfl (Nat.le_of_ble_eq_true rfl) (Nat.le_of_ble_eq_true rfl) rfl mw_144 rfl ?_
    obtain ⟨rfl, rfl, rfl, rfl⟩ := g_re4 h
    exact e_iret dX6_all_51
  rw [if_neg q1] at h
  by_cases q2 : a0 = 1
  · rw [if_pos q2] at h
    refine e_swIn (off := 51) (tgt := 52) dX6_all_1 (by rw [q2]; decide) (by rw [q2]; decide) (by rw [q2]; rfl) (by decide) ?_
    refine e_aload_n (pc' := 53) (i := 0) rfl rfl dX6_all_52 rfl ?_
    obtain ⟨I4, A5, L6, hF3, h⟩ := g_b1_e h
    refine e_callV_a (pc' := 56) dX6_all_53 rfl mw_503 mv_X6_crystal rfl (Nat.le_of_ble_eq_true rfl) (Nat.le_of_ble_eq_true rfl) rfl (Nat.le_of_ble_eq_true rfl) (Nat.le_of_ble_eq_true rfl) rfl (c_X6_crystal hF3) rfl ?_
    obtain ⟨v8, hF7, h⟩ := g_bd_e h
    refine e_callVN_i (pc' := 59) dX6_all_56 rfl mw_593 mv_X4_showing rfl (Nat.le_of_ble_eq_true rfl) (Nat.le_of_ble_eq_true rfl) rfl (Nat.le_of_ble_eq_true rfl) (Nat.le_of_ble_eq_true rfl) rfl (c_X4_showing_38 hF7) rfl ?_
    obtain ⟨rfl, rfl, rfl, rfl⟩ := g_re4 h
    exact e_iret dX6_all_59
  rw [if_neg q2] at h
  by_cases q9 : a0 = 2
  · rw [if_pos q9] at h
    refine e_swIn (off := 59) (tgt := 60) dX6_all_1 (by rw [q9]; decide) (by rw [q9]; decide) (by rw [q9]; rfl) (by decide) ?_
    refine e_aload_n (pc' := 61) (i := 0) rfl rfl dX6_all_60 rfl ?_
    refine e_getR (a := 0) (b := 1) (k0 := 0) (pc' := 64) dX6_all_61 rfl rfl (Nat.le_of_ble_eq_true rfl) (Nat.le_of_ble_eq_true rfl) rfl mw_335 rfl ?_
    refine e_getIN (a := 1) (n := 20) (k0 := 4) (pc' := 67) dX6_all_64 rfl rfl (Nat.le_of_ble_eq_true rfl) (Nat.le_of_ble_eq_true rfl) rfl mw_144 rfl ?_
    refine e_aload_n (pc' := 68) (i := 0) rfl rfl dX6_all_67 rfl ?_
    obtain ⟨I11, A12, L13, hF10, h⟩ := g_b1_e h
    refine e_callV_a (pc' := 71) dX6_all_68 rfl mw_503 mv_X6_crystal rfl (Nat.le_of_ble_eq_true rfl) (Nat.le_of_ble_eq_true rfl) rfl (Nat.le_of_ble_eq_true rfl) (Nat.le_of_ble_eq_true rfl) rfl (c_X6_crystal hF10) rfl ?_
    obtain ⟨v15, hF14, h⟩ := g_bd_e h
    refine e_callVN_i (pc' := 74) dX6_all_71 rfl mw_593 mv_X4_showing rfl (Nat.le_of_ble_eq_true rfl) (Nat.le_of_ble_eq_true rfl) rfl (Nat.le_of_ble_eq_true rfl) (Nat.le_of_ble_eq_true rfl) rfl (c_X4_showing_38 hF14) rfl ?_
    refine e_isub (pc' := 75) dX6_all_74 rfl ?_
    obtain ⟨rfl, rfl, rfl, rfl⟩ := g_re4 h
    exact e_iret dX6_all_75
  rw [if_neg q9] at h
  by_cases q16 : a0 = 3
  · rw [if_pos q16] at h
    refine e_swIn (off := 75) (tgt := 76) dX6_all_1 (by rw [q16]; decide) (by rw [q16]; decide) (by rw [q16]; rfl) (by decide) ?_
    refine e_aload_n (pc' := 77) (i := 0) rfl rfl dX6_all_76 rfl ?_
    obtain ⟨I18, A19, L20, hF17, h⟩ := g_b1_e h
    refine e_callV_a (pc' := 80) dX6_all_77 rfl mw_503 mv_X6_crystal rfl (Nat.le_of_ble_eq_true rfl) (Nat.le_of_ble_eq_true rfl) rfl (Nat.le_of_ble_eq_true rfl) (Nat.le_of_ble_eq_true rfl) rfl (c_X6_crystal hF17) rfl ?_
    refine e_getIN (a := 38) (n := 615) (k0 := 7) (pc' := 83) dX6_all_80 rfl rfl (Nat.le_of_ble_eq_true rfl) (Nat.le_of_ble_eq_true rfl) rfl mw_247 rfl ?_
    obtain ⟨rfl, rfl, rfl, rfl⟩ := g_re4 h
    exact e_iret dX6_all_83
  rw [if_neg q16] at h
  by_cases q21 : a0 = 4
  · rw [if_pos q21] at h
    refine e_swIn (off := 83) (tgt := 84) dX6_all_1 (by rw [q21]; decide) (by rw [q21]; decide) (by rw [q21]; rfl) (by decide) ?_
    refine e_aload_n (pc' := 85) (i := 0) rfl rfl dX6_all_84 rfl ?_
    obtain ⟨I23, A24, L25, hF22, h⟩ := g_b1_e h
    refine e_callV_a (pc' := 88) dX6_all_85 rfl mw_503 mv_X6_crystal rfl (Nat.le_of_ble_eq_true rfl) (Nat.le_of_ble_eq_true rfl) rfl (Nat.le_of_ble_eq_true rfl) (Nat.le_of_ble_eq_true rfl) rfl (c_X6_crystal hF22) rfl ?_
    obtain ⟨v27, hF26, h⟩ := g_bd_e h
    refine e_callVN_i (pc' := 91) dX6_all_88 rfl mw_603 mv_X4_edges rfl (Nat.le_of_ble_eq_true rfl) (Nat.le_of_ble_eq_true rfl) rfl (Nat.le_of_ble_eq_true rfl) (Nat.le_of_ble_eq_true rfl) rfl (c_X4_edges_38 hF26) rfl ?_
    obtain ⟨rfl, rfl, rfl, rfl⟩ := g_re4 h
    exact e_iret dX6_all_91
  rw [if_neg q21] at h
  by_cases q28 : a0 = 5
  · rw [if_pos q28] at h
    refine e_swIn (off := 91) (tgt := 92) dX6_all_1 (by rw [q28]; decide) (by rw [q28]; decide) (by rw [q28]; rfl) (by decide) ?_
    refine e_aload_n (pc' := 93) (i := 0) rfl rfl dX6_all_92 rfl ?_
    obtain ⟨I30, A31, L32, hF29, h⟩ := g_b1_e h
    refine e_callV_a (pc' := 96) dX6_all_93 rfl mw_503 mv_X6_crystal rfl (Nat.le_of_ble_eq_true rfl) (Nat.le_of_ble_eq_true rfl) rfl (Nat.le_of_ble_eq_true rfl) (Nat.le_of_ble_eq_true rfl) rfl (c_X6_crystal hF29) rfl ?_
    refine e_aload_n (pc' := 97) (i := 0) rfl rfl dX6_all_96 rfl ?_
    refine e_getR (a := 0) (b := 1) (k0 := 0) (pc' := 100) dX6_all_97 rfl rfl (Nat.le_of_ble_eq_true rfl) (Nat.le_of_ble_eq_true rfl) rfl mw_335 rfl ?_
    refine e_getIN (a := 1) (n := 20) (k0 := 4) (pc' := 103) dX6_all_100 rfl rfl (Nat.le_of_ble_eq_true rfl) (Nat.le_of_ble_eq_true rfl) rfl mw_144 rfl ?_
    obtain ⟨v34, hF33, h⟩ := g_bd_e h
    refine e_callVN_i (pc' := 106) dX6_all_103 rfl mw_608 mv_X4_mostCornersOnPlane rfl (Nat.le_of_ble_eq_true rfl) (Nat.le_of_ble_eq_true rfl) rfl (Nat.le_of_ble_eq_true rfl) (Nat.le_of_ble_eq_true rfl) rfl (c_X4_mostCornersOnPlane_38 _ hF33) rfl ?_
    obtain ⟨rfl, rfl, rfl, rfl⟩ := g_re4 h
    exact e_iret dX6_all_106
  rw [if_neg q28] at h
  by_cases q35 : a0 = 6
  · rw [if_pos q35] at h
    refine e_swIn (off := 106) (tgt := 107) dX6_all_1 (by rw [q35]; decide) (by rw [q35]; decide) (by rw [q35]; rfl) (by decide) ?_
    refine e_aload_n (pc' := 108) (i := 0) rfl rfl dX6_all_107 rfl ?_
    obtain ⟨I37, A38, L39, hF36, h⟩ := g_b1_e h
    refine e_callV_a (pc' := 111) dX6_all_108 rfl mw_503 mv_X6_crystal rfl (Nat.le_of_ble_eq_true rfl) (Nat.le_of_ble_eq_true rfl) rfl (Nat.le_of_ble_eq_true rfl) (Nat.le_of_ble_eq_true rfl) rfl (c_X6_crystal hF36) rfl ?_
    obtain ⟨v41, hF40, h⟩ := g_bd_e h
    refine e_callVN_i (pc' := 114) dX6_all_111 rfl mw_615 mv_X4_mostPlanesOnCorner rfl (Nat.le_of_ble_eq_true rfl) (Nat.le_of_ble_eq_true rfl) rfl (Nat.le_of_ble_eq_true rfl) (Nat.le_of_ble_eq_true rfl) rfl (c_X4_mostPlanesOnCorner_38 hF40) rfl ?_
    obtain ⟨rfl, rfl, rfl, rfl⟩ := g_re4 h
    exact e_iret dX6_all_114
  rw [if_neg q35] at h
  refine e_swOut (tgt := 115) dX6_all_1 (g_swo6 q1 q2 q9 q16 q21 q28 q35) (by decide) ?_
  refine e_aload_n (pc' := 116) (i := 0) rfl rfl dX6_all_115 rfl ?_
  refine e_bipush (v := (-2)) (pc' := 118) (by decide) dX6_all_116 rfl ?_
  obtain ⟨v46, I43, A44, L45, hF42, h⟩ := g_b2_e h
  refine e_callV_i (pc' := 121) dX6_all_118 rfl mw_397 mv_X6_refuseBad rfl (Nat.le_of_ble_eq_true rfl) (Nat.le_of_ble_eq_true rfl) rfl (Nat.le_of_ble_eq_true rfl) (Nat.le_of_ble_eq_true rfl) rfl (c_X6_refuseBad _ hF42) rfl ?_
  obtain ⟨rfl, rfl, rfl, rfl⟩ := g_re4 h
  exact e_iret dX6_all_121
set_option maxHeartbeats 4000000 in
set_option maxRecDepth 100000 in
theorem c_X4_coordinate_38 (a0 : Int32) (a1 : Int32) {I : Nat → Int32} {A : Nat → Nat → Int32} {L : Nat → Int64} {t : Int32} (h : f_X4_coordinate 38 I A L a0 a1 = some t) : GM 70 yX4_coordinate cX4_coordinate 3 (some .int) 0 [.ref 38, .int a0, .int a1] I A L (some (.int t), (I, A, L)) := by
  refine gm_of (n := 0) (lc := [some (.ref 38), some (.int a0), some (.int a1)]) (by decide +kernel) rfl (fun _ => Nat.le_of_ble_eq_true rfl) ?_
  change Ev 70 RX4 cX4_coordinate 3 (some .int) 0 0 [some (.ref 38), some (.int a0), some (.int a1)] [] I A L _
  unfold f_X4_coordinate at h
  refine e_iload_n (pc' := 1) (i := 2) rfl rfl dX4_coordinate_0 rfl ?_
  refine e_if_ne (tgt := 13) (pc' := 4) dX4_coordinate_1 (by decide) rfl h (fun h => ?_) (fun h => ?_)
  · refine e_iload_n (pc' := 14) (i := 2) rfl rfl dX4_coordinate_13 rfl ?_
    refine e_iconst (v := 1) (pc' := 15) (by decide) dX4_coordinate_14 rfl ?_
    refine e_icmp_ne (tgt := 27) (pc' := 18) dX4_coordinate_15 (by decide) rfl h (fun h => ?_) (fun h => ?_)
    · refine e_aload_n (pc' := 28) (i := 0) rfl rfl dX4_coordinate_27 rfl ?_
      refine e_getR (a := 38) (b := 41) (k0 := 2) (pc' := 31) dX4_coordinate_28 rfl rfl (Nat.le_of_ble_eq_true rfl) (Nat.le_of_ble_eq_true rfl) rfl mw_238 rfl ?_
      refine e_iload_n (pc' := 32) (i := 1) rfl rfl dX4_coordinate_31 rfl ?_
      refine e_iald (n := 60) (pc' := 33) dX4_coordinate_32 rfl rfl (Nat.le_of_ble_eq_true rfl) h (fun h => ?_)
      obtain rfl := g_re1 h
      exact e_iret dX4_coordinate_33
    · refine e_aload_n (pc' := 19) (i := 0) rfl rfl dX4_coordinate_18 rfl ?_
      refine e_getR (a := 38) (b := 40) (k0 := 1) (pc' := 22) dX4_coordinate_19 rfl rfl (Nat.le_of_ble_eq_true rfl) (Nat.le_of_ble_eq_true rfl) rfl mw_237 rfl ?_
      refine e_iload_n (pc' := 23) (i := 1) rfl rfl dX4_coordinate_22 rfl ?_
      refine e_iald (n := 60) (pc' := 24) dX4_coordinate_23 rfl rfl (Nat.le_of_ble_eq_true rfl) h (fun h => ?_)
      refine e_goto (tgt := 33) dX4_coordinate_24 (by decide) ?_
      obtain rfl := g_re1 h
      exact e_iret dX4_coordinate_33
  · refine e_aload_n (pc' := 5) (i := 0) rfl rfl dX4_coordinate_4 rfl ?_
    refine e_getR (a := 38) (b := 39) (k0 := 0) (pc' := 8) dX4_coordinate_5 rfl rfl (Nat.le_of_ble_eq_true rfl) (Nat.le_of_ble_eq_true rfl) rfl mw_236 rfl ?_
    refine e_iload_n (pc' := 9) (i := 1) rfl rfl dX4_coordinate_8 rfl ?_
    refine e_iald (n := 60) (pc' := 10) dX4_coordinate_9 rfl rfl (Nat.le_of_ble_eq_true rfl) h (fun h => ?_)
    refine e_goto (tgt := 33) dX4_coordinate_10 (by decide) ?_
    obtain rfl := g_re1 h
    exact e_iret dX4_coordinate_33
set_option maxHeartbeats 4000000 in
set_option maxRecDepth 100000 in
theorem c_X6_setFraction (a0 : Int32) (a1 : Int32) {I : Nat → Int32} {A : Nat → Nat → Int32} {L : Nat → Int64} {I' : Nat → Int32} {A' : Nat → Nat → Int32} {L' : Nat → Int64} (h : f_X6_setFraction  a0 a1 I A L = some (I', A', L')) : GM 70 yX6_setFraction cX6_setFraction 4 none 2 [.ref 0, .int a0, .int a1] I A L (none, (I', A', L')) := by
  refine gm_of (n := 1) (lc := [some (.ref 0), some (.int a0), some (.int a1), none]) (by decide +kernel) rfl (fun _ => Nat.le_of_ble_eq_true rfl) ?_
  change Ev 70 RX6 cX6_setFraction 4 none 2 0 [some (.ref 0), some (.int a0), some (.int a1), none] [] I A L _
  unfold f_X6_setFraction at h
  refine e_iload_n (pc' := 1) (i := 1) rfl rfl dX6_setFraction_0 rfl ?_
  refine e_iload_n (pc' := 2) (i := 2) rfl rfl dX6_setFraction_1 rfl ?_
  obtain ⟨v2, hF1, h⟩ := g_bd_e h
  refine e_callS_i (pc' := 5) dX6_setFraction_2 rfl mw_635 ms_X6_commonDivisor rfl (Nat.le_of_ble_eq_true rfl) (Nat.le_of_ble_eq_true rfl) (c_X6_commonDivisor _ _ hF1) rfl ?_
  refine e_istore_n (pc' := 6) (i := 3) (lc' := [some (.ref 0), some (.int a0), some (.int a1), some (.int v2)]) rfl dX6_setFraction_5 rfl (Nat.le_of_ble_eq_true rfl) rfl rfl ?_
  refine e_iload_n (pc' := 7) (i := 3) rfl rfl dX6_setFraction_6 rfl ?_
  refine e_if_le (tgt := 24) (pc' := 10) dX6_setFraction_7 (by decide) rfl h (fun h => ?_) (fun h => ?_)
  · obtain ⟨rfl, rfl, rfl⟩ := g_re3 h
    exact e_vret dX6_setFraction_24
  · refine e_aload_n (pc' := 11) (i := 0) rfl rfl dX6_setFraction_10 rfl ?_
    refine e_iload_n (pc' := 12) (i := 1) rfl rfl dX6_setFraction_11 rfl ?_
    refine e_iload_n (pc' := 13) (i := 3) rfl rfl dX6_setFraction_12 rfl ?_
    obtain ⟨hz3, h⟩ := g_dv_e h
    refine e_idiv (pc' := 14) hz3 dX6_setFraction_13 rfl ?_
    refine e_putI (a := 0) (n := 11) (k0 := 11) (pc' := 17) dX6_setFraction_14 rfl rfl (Nat.le_of_ble_eq_true rfl) (Nat.le_of_ble_eq_true rfl) rfl mw_346 rfl rfl g_pI rfl rfl ?_
    refine e_ltI h (fun I4 h => ?_)
    refine e_aload_n (pc' := 18) (i := 0) rfl rfl dX6_setFraction_17 rfl ?_
    refine e_iload_n (pc' := 19) (i := 2) rfl rfl dX6_setFraction_18 rfl ?_
    refine e_iload_n (pc' := 20) (i := 3) rfl rfl dX6_setFraction_19 rfl ?_
    obtain ⟨hz5, h⟩ := g_dv_e h
    refine e_idiv (pc' := 21) hz5 dX6_setFraction_20 rfl ?_
    refine e_putI (a := 0) (n := 12) (k0 := 12) (pc' := 24) dX6_setFraction_21 rfl rfl (Nat.le_of_ble_eq_true rfl) (Nat.le_of_ble_eq_true rfl) rfl mw_347 rfl rfl g_pI rfl rfl ?_
    refine e_ltI h (fun I6 h => ?_)
    obtain ⟨rfl, rfl, rfl⟩ := g_re3 h
    exact e_vret dX6_setFraction_24
set_option maxHeartbeats 4000000 in
set_option maxRecDepth 100000 in
theorem c_X6_refuseNo  {I : Nat → Int32} {A : Nat → Nat → Int32} {L : Nat → Int64} {t : Int32} {I' : Nat → Int32} {A' : Nat → Nat → Int32} {L' : Nat → Int64} (h : f_X6_refuseNo   I A L = some (t, I', A', L')) : GM 70 yX6_refuseNo cX6_refuseNo 1 (some .int) 0 [.ref 0] I A L (some (.int t), (I', A', L')) := by
  refine gm_of (n := 0) (lc := [some (.ref 0)]) (by decide +kernel) rfl (fun _ => Nat.le_of_ble_eq_true rfl) ?_
  change Ev 70 RX6 cX6_refuseNo 1 (some .int) 0 0 [some (.ref 0)] [] I A L _
  unfold f_X6_refuseNo at h
  refine e_aload_n (pc' := 1) (i := 0) rfl rfl dX6_refuseNo_0 rfl ?_
  refine e_dup (pc' := 2) rfl dX6_refuseNo_1 rfl ?_
  refine e_getI (a := 0) (n := 14) (k0 := 14) (pc' := 5) dX6_refuseNo_2 rfl rfl (Nat.le_of_ble_eq_true rfl) (Nat.le_of_ble_eq_true rfl) rfl mw_349 rfl ?_
  refine e_iconst (v := 1) (pc' := 6) (by decide) dX6_refuseNo_5 rfl ?_
  refine e_iadd (pc' := 7) dX6_refuseNo_6 rfl ?_
  refine e_putI (a := 0) (n := 14) (k0 := 14) (pc' := 10) dX6_refuseNo_7 rfl rfl (Nat.le_of_ble_eq_true rfl) (Nat.le_of_ble_eq_true rfl) rfl mw_349 rfl rfl g_pI rfl rfl ?_
  refine e_ltI h (fun I1 h => ?_)
  refine e_bipush (v := (-3)) (pc' := 12) (by decide) dX6_refuseNo_10 rfl ?_
  obtain ⟨rfl, rfl, rfl, rfl⟩ := g_re4 h
  exact e_iret dX6_refuseNo_12
set_option maxHeartbeats 4000000 in
set_option maxRecDepth 100000 in
theorem w_X6_corner_p13  : ∀ (I : Nat → Int32) (A : Nat → Nat → Int32) (L : Nat → Int64) (t : (Int32 × gS)), f_X6_corner_p13 I A L = some t → Ev 70 RX6 cX6_corner 4 (some .int) 5 13 [some (.ref 0), none, none, none] [] I A L (some (.int t.1), t.2) := by
  intro  I A L t h
  unfold f_X6_corner_p13 at h
  refine e_aload_n (pc' := 14) (i := 0) rfl rfl dX6_corner_13 rfl ?_
  refine e_bipush (v := (-2)) (pc' := 16) (by decide) dX6_corner_14 rfl ?_
  obtain ⟨v5, I2, A3, L4, hF1, h⟩ := g_b2_e h
  refine e_callV_i (pc' := 19) dX6_corner_16 rfl mw_397 mv_X6_refuseBad rfl (Nat.le_of_ble_eq_true rfl) (Nat.le_of_ble_eq_true rfl) rfl (Nat.le_of_ble_eq_true rfl) (Nat.le_of_ble_eq_true rfl) rfl (c_X6_refuseBad _ hF1) rfl ?_
  obtain rfl := g_re1 h
  exact e_iret dX6_corner_19
set_option maxHeartbeats 4000000 in
set_option maxRecDepth 100000 in
theorem c_X6_corner (a0 : Int32) (a1 : Int32) {I : Nat → Int32} {A : Nat → Nat → Int32} {L : Nat → Int64} {t : Int32} {I' : Nat → Int32} {A' : Nat → Nat → Int32} {L' : Nat → Int64} (h : f_X6_corner  a0 a1 I A L = some (t, I', A', L')) : GM 70 yX6_corner cX6_corner 4 (some .int) 5 [.ref 0, .int a0, .int a1] I A L (some (.int t), (I', A', L')) := by
  refine gm_of (n := 1) (lc := [some (.ref 0), some (.int a0), some (.int a1), none]) (by decide +kernel) rfl (fun _ => Nat.le_of_ble_eq_true rfl) ?_
  change Ev 70 RX6 cX6_corner 4 (some .int) 5 0 [some (.ref 0), some (.int a0), some (.int a1), none] [] I A L _
  unfold f_X6_corner at h
  refine e_iload_n (pc' := 1) (i := 1) rfl rfl dX6_corner_0 rfl ?_
  refine e_if_lt (tgt := 13) (pc' := 4) dX6_corner_1 (by decide) rfl h (fun h => ?_) (fun h => ?_)
  · exact e_weak (lc' := [some (.ref 0), none, none, none]) (gle_s (gle_n (gle_n (gle_n gle_0)))) (w_X6_corner_p13  _ _ _ _ h)
  · refine e_iload_n (pc' := 5) (i := 2) rfl rfl dX6_corner_4 rfl ?_
    refine e_if_lt (tgt := 13) (pc' := 8) dX6_corner_5 (by decide) rfl h (fun h => ?_) (fun h => ?_)
    · exact e_weak (lc' := [some (.ref 0), none, none, none]) (gle_s (gle_n (gle_n (gle_n gle_0)))) (w_X6_corner_p13  _ _ _ _ h)
    · refine e_iload_n (pc' := 9) (i := 2) rfl rfl dX6_corner_8 rfl ?_
      refine e_iconst (v := 2) (pc' := 10) (by decide) dX6_corner_9 rfl ?_
      refine e_icmp_le (tgt := 20) (pc' := 13) dX6_corner_10 (by decide) rfl h (fun h => ?_) (fun h => ?_)
      · refine e_aload_n (pc' := 21) (i := 0) rfl rfl dX6_corner_20 rfl ?_
        obtain ⟨I2, A3, L4, hF1, h⟩ := g_b1_e h
        refine e_callV_a (pc' := 24) dX6_corner_21 rfl mw_503 mv_X6_crystal rfl (Nat.le_of_ble_eq_true rfl) (Nat.le_of_ble_eq_true rfl) rfl (Nat.le_of_ble_eq_true rfl) (Nat.le_of_ble_eq_true rfl) rfl (c_X6_crystal hF1) rfl ?_
        refine e_astore_n (pc' := 25) (i := 3) (lc' := [some (.ref 0), some (.int a0), some (.int a1), some (.ref 38)]) rfl dX6_corner_24 rfl (Nat.le_of_ble_eq_true rfl) rfl rfl ?_
        refine e_iload_n (pc' := 26) (i := 1) rfl rfl dX6_corner_25 rfl ?_
        refine e_aload_n (pc' := 27) (i := 3) rfl rfl dX6_corner_26 rfl ?_
        refine e_getIN (a := 38) (n := 615) (k0 := 7) (pc' := 30) dX6_corner_27 rfl rfl (Nat.le_of_ble_eq_true rfl) (Nat.le_of_ble_eq_true rfl) rfl mw_247 rfl ?_
        refine e_icmp_lt (tgt := 38) (pc' := 33) dX6_corner_30 (by decide) rfl h (fun h => ?_) (fun h => ?_)
        · refine e_aload_n (pc' := 39) (i := 0) rfl rfl dX6_corner_38 rfl ?_
          refine e_aload_n (pc' := 40) (i := 3) rfl rfl dX6_corner_39 rfl ?_
          refine e_iload_n (pc' := 41) (i := 1) rfl rfl dX6_corner_40 rfl ?_
          refine e_iload_n (pc' := 42) (i := 2) rfl rfl dX6_corner_41 rfl ?_
          obtain ⟨v6, hF5, h⟩ := g_bd_e h
          refine e_callVN_i (pc' := 45) dX6_corner_42 rfl mw_627 mv_X4_coordinate rfl (Nat.le_of_ble_eq_true rfl) (Nat.le_of_ble_eq_true rfl) rfl (Nat.le_of_ble_eq_true rfl) (Nat.le_of_ble_eq_true rfl) rfl (c_X4_coordinate_38 _ _ hF5) rfl ?_
          refine e_aload_n (pc' := 46) (i := 3) rfl rfl dX6_corner_45 rfl ?_
          refine e_getRN (a := 38) (b := 42) (k0 := 3) (pc' := 49) dX6_corner_46 rfl rfl (Nat.le_of_ble_eq_true rfl) (Nat.le_of_ble_eq_true rfl) rfl mw_240 rfl ?_
          refine e_iload_n (pc' := 50) (i := 1) rfl rfl dX6_corner_49 rfl ?_
          refine e_iald (n := 60) (pc' := 51) dX6_corner_50 rfl rfl (Nat.le_of_ble_eq_true rfl) h (fun h => ?_)
          obtain ⟨I8, A9, L10, hF7, h⟩ := g_b1_e h
          refine e_callV_v (pc' := 54) dX6_corner_51 rfl mw_631 mv_X6_setFraction rfl (Nat.le_of_ble_eq_true rfl) (Nat.le_of_ble_eq_true rfl) rfl (Nat.le_of_ble_eq_true rfl) (Nat.le_of_ble_eq_true rfl) rfl (c_X6_setFraction _ _ hF7) rfl ?_
          refine e_iconst (v := 1) (pc' := 55) (by decide) dX6_corner_54 rfl ?_
          obtain ⟨rfl, rfl, rfl, rfl⟩ := g_re4 h
          exact e_iret dX6_corner_55
        · refine e_aload_n (pc' := 34) (i := 0) rfl rfl dX6_corner_33 rfl ?_
          obtain ⟨v15, I12, A13, L14, hF11, h⟩ := g_b2_e h
          refine e_callV_i (pc' := 37) dX6_corner_34 rfl mw_623 mv_X6_refuseNo rfl (Nat.le_of_ble_eq_true rfl) (Nat.le_of_ble_eq_true rfl) rfl (Nat.le_of_ble_eq_true rfl) (Nat.le_of_ble_eq_true rfl) rfl (c_X6_refuseNo hF11) rfl ?_
          obtain ⟨rfl, rfl, rfl, rfl⟩ := g_re4 h
          exact e_iret dX6_corner_37
      · exact e_weak (lc' := [some (.ref 0), none, none, none]) (gle_s (gle_n (gle_n (gle_n gle_0)))) (w_X6_corner_p13  _ _ _ _ h)
set_option maxHeartbeats 4000000 in
set_option maxRecDepth 100000 in
theorem w_X6_meets_p13  : ∀ (I : Nat → Int32) (A : Nat → Nat → Int32) (L : Nat → Int64) (t : (Int32 × gS)), f_X6_meets_p13 I A L = some t → Ev 70 RX6 cX6_meets 4 (some .int) 5 13 [some (.ref 0), none, none, none] [] I A L (some (.int t.1), t.2) := by
  intro  I A L t h
  unfold f_X6_meets_p13 at h
  refine e_aload_n (pc' := 14) (i := 0) rfl rfl dX6_meets_13 rfl ?_
  refine e_bipush (v := (-2)) (pc' := 16) (by decide) dX6_meets_14 rfl ?_
  obtain ⟨v5, I2, A3, L4, hF1, h⟩ := g_b2_e h
  refine e_callV_i (pc' := 19) dX6_meets_16 rfl mw_397 mv_X6_refuseBad rfl (Nat.le_of_ble_eq_true rfl) (Nat.le_of_ble_eq_true rfl) rfl (Nat.le_of_ble_eq_true rfl) (Nat.le_of_ble_eq_true rfl) rfl (c_X6_refuseBad _ hF1) rfl ?_
  obtain rfl := g_re1 h
  exact e_iret dX6_meets_19
set_option maxHeartbeats 4000000 in
set_option maxRecDepth 100000 in
theorem c_X6_meets (a0 : Int32) (a1 : Int32) {I : Nat → Int32} {A : Nat → Nat → Int32} {L : Nat → Int64} {t : Int32} {I' : Nat → Int32} {A' : Nat → Nat → Int32} {L' : Nat → Int64} (h : f_X6_meets  a0 a1 I A L = some (t, I', A', L')) : GM 70 yX6_meets cX6_meets 4 (some .int) 5 [.ref 0, .int a0, .int a1] I A L (some (.int t), (I', A', L')) := by
  refine gm_of (n := 1) (lc := [some (.ref 0), some (.int a0), some (.int a1), none]) (by decide +kernel) rfl (fun _ => Nat.le_of_ble_eq_true rfl) ?_
  change Ev 70 RX6 cX6_meets 4 (some .int) 5 0 [some (.ref 0), some (.int a0), some (.int a1), none] [] I A L _
  unfold f_X6_meets at h
  refine e_iload_n (pc' := 1) (i := 1) rfl rfl dX6_meets_0 rfl ?_
  refine e_if_lt (tgt := 13) (pc' := 4) dX6_meets_1 (by decide) rfl h (fun h => ?_) (fun h => ?_)
  · exact e_weak (lc' := [some (.ref 0), none, none, none]) (gle_s (gle_n (gle_n (gle_n gle_0)))) (w_X6_meets_p13  _ _ _ _ h)
  · refine e_iload_n (pc' := 5) (i := 2) rfl rfl dX6_meets_4 rfl ?_
    refine e_if_lt (tgt := 13) (pc' := 8) dX6_meets_5 (by decide) rfl h (fun h => ?_) (fun h => ?_)
    · exact e_weak (lc' := [some (.ref 0), none, none, none]) (gle_s (gle_n (gle_n (gle_n gle_0)))) (w_X6_meets_p13  _ _ _ _ h)
    · refine e_iload_n (pc' := 9) (i := 2) rfl rfl dX6_meets_8 rfl ?_
      refine e_iconst (v := 1) (pc' := 10) (by decide) dX6_meets_9 rfl ?_
      refine e_icmp_le (tgt := 20) (pc' := 13) dX6_meets_10 (by decide) rfl h (fun h => ?_) (fun h => ?_)
      · refine e_aload_n (pc' := 21) (i := 0) rfl rfl dX6_meets_20 rfl ?_
        obtain ⟨I2, A3, L4, hF1, h⟩ := g_b1_e h
        refine e_callV_a (pc' := 24) dX6_meets_21 rfl mw_503 mv_X6_crystal rfl (Nat.le_of_ble_eq_true rfl) (Nat.le_of_ble_eq_true rfl) rfl (Nat.le_of_ble_eq_true rfl) (Nat.le_of_ble_eq_true rfl) rfl (c_X6_crystal hF1) rfl ?_
        refine e_astore_n (pc' := 25) (i := 3) (lc' := [some (.ref 0), some (.int a0), some (.int a1), some (.ref 38)]) rfl dX6_meets_24 rfl (Nat.le_of_ble_eq_true rfl) rfl rfl ?_
        refine e_iload_n (pc' := 26) (i := 1) rfl rfl dX6_meets_25 rfl ?_
        refine e_aload_n (pc' := 27) (i := 3) rfl rfl dX6_meets_26 rfl ?_
        refine e_getIN (a := 38) (n := 615) (k0 := 7) (pc' := 30) dX6_meets_27 rfl rfl (Nat.le_of_ble_eq_true rfl) (Nat.le_of_ble_eq_true rfl) rfl mw_247 rfl ?_
        refine e_icmp_lt (tgt := 35) (pc' := 33) dX6_meets_30 (by decide) rfl h (fun h => ?_) (fun h => ?_)
        · refine e_iload_n (pc' := 36) (i := 2) rfl rfl dX6_meets_35 rfl ?_
          refine e_if_ne (tgt := 51) (pc' := 39) dX6_meets_36 (by decide) rfl h (fun h => ?_) (fun h => ?_)
          · refine e_aload_n (pc' := 52) (i := 3) rfl rfl dX6_meets_51 rfl ?_
            refine e_getRN (a := 38) (b := 43) (k0 := 4) (pc' := 55) dX6_meets_52 rfl rfl (Nat.le_of_ble_eq_true rfl) (Nat.le_of_ble_eq_true rfl) rfl mw_242 rfl ?_
            refine e_iload_n (pc' := 56) (i := 1) rfl rfl dX6_meets_55 rfl ?_
            refine e_iald (n := 60) (pc' := 57) dX6_meets_56 rfl rfl (Nat.le_of_ble_eq_true rfl) h (fun h => ?_)
            obtain ⟨rfl, rfl, rfl, rfl⟩ := g_re4 h
            exact e_iret dX6_meets_57
          · refine e_aload_n (pc' := 40) (i := 3) rfl rfl dX6_meets_39 rfl ?_
            refine e_getRN (a := 38) (b := 43) (k0 := 4) (pc' := 43) dX6_meets_40 rfl rfl (Nat.le_of_ble_eq_true rfl) (Nat.le_of_ble_eq_true rfl) rfl mw_242 rfl ?_
            refine e_iload_n (pc' := 44) (i := 1) rfl rfl dX6_meets_43 rfl ?_
            refine e_iald (n := 60) (pc' := 45) dX6_meets_44 rfl rfl (Nat.le_of_ble_eq_true rfl) h (fun h => ?_)
            obtain ⟨v6, hF5, h⟩ := g_bd_e h
            refine e_callS_i (pc' := 48) dX6_meets_45 rfl mw_640 ms_J6_bitCount_0f7a4 rfl (Nat.le_of_ble_eq_true rfl) (Nat.le_of_ble_eq_true rfl) (c_J6_bitCount_0f7a4 _ hF5) rfl ?_
            refine e_goto (tgt := 57) dX6_meets_48 (by decide) ?_
            obtain ⟨rfl, rfl, rfl, rfl⟩ := g_re4 h
            exact e_iret dX6_meets_57
        · refine e_iconst (v := (-1)) (pc' := 34) (by decide) dX6_meets_33 rfl ?_
          obtain ⟨rfl, rfl, rfl, rfl⟩ := g_re4 h
          exact e_iret dX6_meets_34
      · exact e_weak (lc' := [some (.ref 0), none, none, none]) (gle_s (gle_n (gle_n (gle_n gle_0)))) (w_X6_meets_p13  _ _ _ _ h)
set_option maxHeartbeats 4000000 in
set_option maxRecDepth 100000 in
theorem w_X6_part_p9  : ∀ (I : Nat → Int32) (A : Nat → Nat → Int32) (L : Nat → Int64) (t : (Int64 × gS)), f_X6_part_p9 I A L = some t → Ev 70 RX6 cX6_part 2 (some .long) 1 9 [some (.ref 0), none] [] I A L (some (.long t.1), t.2) := by
  intro  I A L t h
  unfold f_X6_part_p9 at h
  refine e_aload_n (pc' := 10) (i := 0) rfl rfl dX6_part_9 rfl ?_
  refine e_bipush (v := (-2)) (pc' := 12) (by decide) dX6_part_10 rfl ?_
  obtain ⟨v5, I2, A3, L4, hF1, h⟩ := g_b2_e h
  refine e_callV_i (pc' := 15) dX6_part_12 rfl mw_397 mv_X6_refuseBad rfl (Nat.le_of_ble_eq_true rfl) (Nat.le_of_ble_eq_true rfl) rfl (Nat.le_of_ble_eq_true rfl) (Nat.le_of_ble_eq_true rfl) rfl (c_X6_refuseBad _ hF1) rfl ?_
  refine e_pop (pc' := 16) rfl dX6_part_15 rfl ?_
  refine e_ldc2 (pc' := 19) mw_645 dX6_part_16 rfl ?_
  obtain rfl := g_re1 h
  exact e_lret dX6_part_19
set_option maxHeartbeats 4000000 in
set_option maxRecDepth 100000 in
theorem c_X6_part (a0 : Int32) {I : Nat → Int32} {A : Nat → Nat → Int32} {L : Nat → Int64} {t : Int64} {I' : Nat → Int32} {A' : Nat → Nat → Int32} {L' : Nat → Int64} (h : f_X6_part  a0 I A L = some (t, I', A', L')) : GM 70 yX6_part cX6_part 2 (some .long) 1 [.ref 0, .int a0] I A L (some (.long t), (I', A', L')) := by
  refine gm_of (n := 0) (lc := [some (.ref 0), some (.int a0)]) (by decide +kernel) rfl (fun _ => Nat.le_of_ble_eq_true rfl) ?_
  change Ev 70 RX6 cX6_part 2 (some .long) 1 0 [some (.ref 0), some (.int a0)] [] I A L _
  unfold f_X6_part at h
  refine e_iload_n (pc' := 1) (i := 1) rfl rfl dX6_part_0 rfl ?_
  refine e_if_lt (tgt := 9) (pc' := 4) dX6_part_1 (by decide) rfl h (fun h => ?_) (fun h => ?_)
  · exact e_weak (lc' := [some (.ref 0), none]) (gle_s (gle_n gle_0)) (w_X6_part_p9  _ _ _ _ h)
  · refine e_iload_n (pc' := 5) (i := 1) rfl rfl dX6_part_4 rfl ?_
    refine e_iconst (v := 1) (pc' := 6) (by decide) dX6_part_5 rfl ?_
    refine e_icmp_le (tgt := 20) (pc' := 9) dX6_part_6 (by decide) rfl h (fun h => ?_) (fun h => ?_)
    · refine e_iload_n (pc' := 21) (i := 1) rfl rfl dX6_part_20 rfl ?_
      refine e_if_ne (tgt := 32) (pc' := 24) dX6_part_21 (by decide) rfl h (fun h => ?_) (fun h => ?_)
      · refine e_aload_n (pc' := 33) (i := 0) rfl rfl dX6_part_32 rfl ?_
        refine e_getI (a := 0) (n := 12) (k0 := 12) (pc' := 36) dX6_part_33 rfl rfl (Nat.le_of_ble_eq_true rfl) (Nat.le_of_ble_eq_true rfl) rfl mw_347 rfl ?_
        refine e_i2l (pc' := 37) dX6_part_36 rfl ?_
        obtain ⟨rfl, rfl, rfl, rfl⟩ := g_re4 h
        exact e_lret dX6_part_37
      · refine e_aload_n (pc' := 25) (i := 0) rfl rfl dX6_part_24 rfl ?_
        refine e_getI (a := 0) (n := 11) (k0 := 11) (pc' := 28) dX6_part_25 rfl rfl (Nat.le_of_ble_eq_true rfl) (Nat.le_of_ble_eq_true rfl) rfl mw_346 rfl ?_
        refine e_i2l (pc' := 29) dX6_part_28 rfl ?_
        refine e_goto (tgt := 37) dX6_part_29 (by decide) ?_
        obtain ⟨rfl, rfl, rfl, rfl⟩ := g_re4 h
        exact e_lret dX6_part_37
    · exact e_weak (lc' := [some (.ref 0), none]) (gle_s (gle_n gle_0)) (w_X6_part_p9  _ _ _ _ h)
set_option maxHeartbeats 4000000 in
set_option maxRecDepth 100000 in
theorem w_X4_cornersOnBoth_38_p14 (I : Nat → Int32) (A : Nat → Nat → Int32) (L : Nat → Int64) : ∀ (n : Nat) (x3 : Int32) (x4 : Int32) (x5 : Int32) (t : Int32), f_X4_cornersOnBoth_p14 38 I A L n x3 x4 x5 = some t → Ev 70 RX4 cX4_cornersOnBoth 6 (some .int) 0 14 [some (.ref 38), none, none, some (.int x3), some (.int x4), some (.int x5)] [] I A L (some (.int t), (I, A, L)) := by
  intro n
  induction n with
  | zero =>
    intro x3 x4 x5 t h
    cases h
  | succ n ih =>
    intro x3 x4 x5 t h
    rw [f_X4_cornersOnBoth_p14] at h
    refine e_iload (pc' := 16) (i := 5) rfl dX4_cornersOnBoth_14 rfl ?_
    refine e_aload_n (pc' := 17) (i := 0) rfl rfl dX4_cornersOnBoth_16 rfl ?_
    refine e_getI (a := 38) (n := 615) (k0 := 7) (pc' := 20) dX4_cornersOnBoth_17 rfl rfl (Nat.le_of_ble_eq_true rfl) (Nat.le_of_ble_eq_true rfl) rfl mw_246 rfl ?_
    refine e_icmp_ge (tgt := 45) (pc' := 23) dX4_cornersOnBoth_20 (by decide) rfl h (fun h => ?_) (fun h => ?_)
    · refine e_iload (pc' := 47) (i := 4) rfl dX4_cornersOnBoth_45 rfl ?_
      obtain rfl := g_re1 h
      exact e_iret dX4_cornersOnBoth_47
    · refine e_aload_n (pc' := 24) (i := 0) rfl rfl dX4_cornersOnBoth_23 rfl ?_
      refine e_getR (a := 38) (b := 43) (k0 := 4) (pc' := 27) dX4_cornersOnBoth_24 rfl rfl (Nat.le_of_ble_eq_true rfl) (Nat.le_of_ble_eq_true rfl) rfl mw_241 rfl ?_
      refine e_iload (pc' := 29) (i := 5) rfl dX4_cornersOnBoth_27 rfl ?_
      refine e_iald (n := 60) (pc' := 30) dX4_cornersOnBoth_29 rfl rfl (Nat.le_of_ble_eq_true rfl) h (fun h => ?_)
      refine e_iload_n (pc' := 31) (i := 3) rfl rfl dX4_cornersOnBoth_30 rfl ?_
      refine e_iand (pc' := 32) dX4_cornersOnBoth_31 rfl ?_
      refine e_iload_n (pc' := 33) (i := 3) rfl rfl dX4_cornersOnBoth_32 rfl ?_
      refine e_icmp_ne (tgt := 39) (pc' := 36) dX4_cornersOnBoth_33 (by decide) rfl h (fun h => ?_) (fun h => ?_)
      · refine e_iinc (pc' := 42) (v := (x5 + 1)) (lc' := [some (.ref 38), none, none, some (.int x3), some (.int x4), some (.int (x5 + 1))]) dX4_cornersOnBoth_39 rfl rfl rfl (Nat.le_of_ble_eq_true rfl) rfl rfl ?_
        refine e_goto (tgt := 14) dX4_cornersOnBoth_42 (by decide) ?_
        exact e_weak (lc' := [some (.ref 38), none, none, some (.int x3), some (.int x4), some (.int (x5 + 1))]) (gle_s (gle_n (gle_n (gle_s (gle_s (gle_s gle_0)))))) (ih _ _ _ _ h)
      · refine e_iinc (pc' := 39) (v := (x4 + 1)) (lc' := [some (.ref 38), none, none, some (.int x3), some (.int (x4 + 1)), some (.int x5)]) dX4_cornersOnBoth_36 rfl rfl rfl (Nat.le_of_ble_eq_true rfl) rfl rfl ?_
        refine e_iinc (pc' := 42) (v := (x5 + 1)) (lc' := [some (.ref 38), none, none, some (.int x3), some (.int (x4 + 1)), some (.int (x5 + 1))]) dX4_cornersOnBoth_39 rfl rfl rfl (Nat.le_of_ble_eq_true rfl) rfl rfl ?_
        refine e_goto (tgt := 14) dX4_cornersOnBoth_42 (by decide) ?_
        exact e_weak (lc' := [some (.ref 38), none, none, some (.int x3), some (.int (x4 + 1)), some (.int (x5 + 1))]) (gle_s (gle_n (gle_n (gle_s (gle_s (gle_s gle_0)))))) (ih _ _ _ _ h)
set_option maxHeartbeats 4000000 in
set_option maxRecDepth 100000 in
theorem c_X4_cornersOnBoth_38 (a0 : Int32) (a1 : Int32) {I : Nat → Int32} {A : Nat → Nat → Int32} {L : Nat → Int64} {t : Int32} (h : f_X4_cornersOnBoth 38 I A L a0 a1 = some t) : GM 70 yX4_cornersOnBoth cX4_cornersOnBoth 6 (some .int) 0 [.ref 38, .int a0, .int a1] I A L (some (.int t), (I, A, L)) := by
  refine gm_of (n := 3) (lc := [some (.ref 38), some (.int a0), some (.int a1), none, none, none]) (by decide +kernel) rfl (fun _ => Nat.le_of_ble_eq_true rfl) ?_
  change Ev 70 RX4 cX4_cornersOnBoth 6 (some .int) 0 0 [some (.ref 38), some (.int a0), some (.int a1), none, none, none] [] I A L _
  unfold f_X4_cornersOnBoth at h
  refine e_iconst (v := 1) (pc' := 1) (by decide) dX4_cornersOnBoth_0 rfl ?_
  refine e_iload_n (pc' := 2) (i := 1) rfl rfl dX4_cornersOnBoth_1 rfl ?_
  refine e_ishl (pc' := 3) dX4_cornersOnBoth_2 rfl ?_
  refine e_iconst (v := 1) (pc' := 4) (by decide) dX4_cornersOnBoth_3 rfl ?_
  refine e_iload_n (pc' := 5) (i := 2) rfl rfl dX4_cornersOnBoth_4 rfl ?_
  refine e_ishl (pc' := 6) dX4_cornersOnBoth_5 rfl ?_
  refine e_ior (pc' := 7) dX4_cornersOnBoth_6 rfl ?_
  refine e_lt h (fun v1 h => ?_)
  refine e_istore_n (pc' := 8) (i := 3) (lc' := [some (.ref 38), some (.int a0), some (.int a1), some (.int v1), none, none]) rfl dX4_cornersOnBoth_7 rfl (Nat.le_of_ble_eq_true rfl) rfl rfl ?_
  refine e_iconst (v := 0) (pc' := 9) (by decide) dX4_cornersOnBoth_8 rfl ?_
  refine e_istore (pc' := 11) (i := 4) (lc' := [some (.ref 38), some (.int a0), some (.int a1), some (.int v1), some (.int 0), none]) dX4_cornersOnBoth_9 rfl (Nat.le_of_ble_eq_true rfl) rfl rfl ?_
  refine e_iconst (v := 0) (pc' := 12) (by decide) dX4_cornersOnBoth_11 rfl ?_
  refine e_istore (pc' := 14) (i := 5) (lc' := [some (.ref 38), some (.int a0), some (.int a1), some (.int v1), some (.int 0), some (.int 0)]) dX4_cornersOnBoth_12 rfl (Nat.le_of_ble_eq_true rfl) rfl rfl ?_
  exact e_weak (lc' := [some (.ref 38), none, none, some (.int v1), some (.int 0), some (.int 0)]) (gle_s (gle_n (gle_n (gle_s (gle_s (gle_s gle_0)))))) (w_X4_cornersOnBoth_38_p14 I A L  _ _ _ _ _ h)
